/-! ORDERS, on the class: one is run -/
/-- what is done when both sums are reckoned -/
def tlR (s : AS) (kd a b : Int32) : Option (Int32 × AS) :=
  (f_Runner_canBe s 60 kd a b).bind fun r5 =>
  if r5 = (nI 0) then
    some (nI 0, s)
  else
    if kd = nI 0 then
      if sT s (sR s 60 2) = 9 then
      (f_Row_repeat s (sR s 60 2) a b).bind fun r6 =>
      if sT r6 60 = 10 then
      if sT r6 (sR r6 60 0) = 3 then
      (f_Desk_bring r6 (sR r6 60 0) (sR r6 60 2)).bind fun r7 =>
      if r7.1 = (-(nI 1)) then
        if sT r7.2 60 = 10 then
        b_Runner_carryOut_166 60 kd r7.1 (sI r7.2 60 6) 60 r7.2
        else none
      else
        b_Runner_carryOut_166 60 kd r7.1 r7.1 60 r7.2
      else none
      else none
      else none
    else
    if kd = nI 1 then
      if sT s (sR s 60 2) = 9 then
      (f_Row_repeat s (sR s 60 2) b (nI 7)).bind fun r8 =>
      if sT r8 60 = 10 then
      if sT r8 (sR r8 60 0) = 3 then
      (f_Desk_writeAnew r8 (sR r8 60 0) a (sR r8 60 2)).bind fun r9 =>
        b_Runner_carryOut_220 60 kd (if r9.1 = (-(nI 1)) then nI 0 else nI 1) r9.2
      else none
      else none
      else none
    else
    if kd = nI 2 then
      if sT s (sR s 60 0) = 3 then
      (f_Desk_takeAway s (sR s 60 0) a).bind fun r10 =>
      b_Runner_carryOut_259 60 kd (nI 1) r10
      else none
    else
    if kd = nI 3 then
      if sT s (sR s 60 0) = 3 then
      (f_Desk_packPage s (sR s 60 0) a).bind fun r11 =>
      b_Runner_carryOut_259 60 kd (nI 1) r11
      else none
    else
    if sT s (sR s 60 0) = 3 then
    (f_Desk_mendAll s (sR s 60 0)).bind fun r12 =>
    b_Runner_carryOut_259 60 kd (nI 1) r12.2
    else none
def CarO (r : Option OST) (o : Option (Int32 × AS)) (s0 : AS) (tp : (Int → Int) × Int) (se : ST1) (LG : LGS) (IM : Nat → IMG) (ms : Int → Int) (vw : (Int → Int) × Int) (dr : DRW) (cn : Nat) (CL : List CLS) (P0 : PG) : Prop := match r with
  | none => ∃ s' D' P', o = some (v 0, s') ∧ RepD s' D' tp se P' LG IM ms vw dr cn ∧ PgR s' 64 P0 ∧ OtC s' CL ∧ GrM s0 s'
  | some S' => ∃ s' D', o = some (v 1, s') ∧ RepD s' D' tp se S'.1 LG IM ms vw dr cn ∧ OrX s' D' CL P0 S'.2.1 S'.2.2.1 S'.2.2.2 ∧ GrM s0 s'
section ORA
variable {s s' s0 : AS} {D : DYN} {tp : (Int → Int) × Int} {se : ST1} {P P0 P' Bf : PG} {LG : LGS} {IM : Nat → IMG} {ms : Int → Int} {vw : (Int → Int) × Int} {dr : DRW} {cn : Nat} {CL : List CLS} {X : LGS} {dn lt d kind a b : Int} {S : OST}
theorem RepD.rnI (h : RepD s D tp se P LG IM ms vw dr cn) {k : Nat} {y : Int32} : RepD (setI s 60 k y) D tp se P LG IM ms vw dr cn ∧ GrM s (setI s 60 k y) := by
  have f1 : Fr (fun q => q = 60) s (setI s 60 k y) := Fr.si rfl
  obtain ⟨L2, l1, l2⟩ := h.2.2.2.2.2.2.2.2.2.2.2.1
  exact ⟨h.u_rn (f1.mo (fun q hq => by omega)) (h.rn.2.st f1.1) ⟨L2, l1.eq (fun i hi => f1.eqA (by omega)) (fun q hq => f1.eqA (by have := h.d12 q hq; omega)), l2⟩, f1.grM (fun q hq => by omega)⟩
theorem OrX.i5 (h : OrX s D CL P0 X dn lt) (hd : ∀ q, D.1.2 q → 106 ≤ q) {y : Int} : OrX (setI s 60 5 (v y)) D CL P0 X y lt := by
  have f1 : Fr (fun q => q = 60) s (setI s 60 5 (v y)) := Fr.si rfl
  obtain ⟨h1, h2, h3, h4⟩ := h
  exact ⟨h1.eq (fun i hi => f1.eqA (by omega)) (fun q hq => f1.eqA (by have := hd q hq; omega)), h2.eq (fun i hi => f1.eqA (by omega)), ⟨by rw [sI_setI, if_pos ⟨rfl, rfl⟩], by rw [sI_setI, if_neg (by omega)]; exact h3.2⟩, h4.eq (fun i hi => f1.eqA (by omega))⟩
theorem OrX.i6 (h : OrX s D CL P0 X dn lt) (hd : ∀ q, D.1.2 q → 106 ≤ q) {y : Int} : OrX (setI s 60 6 (v y)) D CL P0 X dn y := by
  have f1 : Fr (fun q => q = 60) s (setI s 60 6 (v y)) := Fr.si rfl
  obtain ⟨h1, h2, h3, h4⟩ := h
  exact ⟨h1.eq (fun i hi => f1.eqA (by omega)) (fun q hq => f1.eqA (by have := hd q hq; omega)), h2.eq (fun i hi => f1.eqA (by omega)), ⟨by rw [sI_setI, if_neg (by omega)]; exact h3.1, by rw [sI_setI, if_pos ⟨rfl, rfl⟩]⟩, h4.eq (fun i hi => f1.eqA (by omega))⟩
theorem c_259 (h : RepD s D tp se P LG IM ms vw dr cn) (hx : OrX s D CL P0 X dn lt) (hb : PgR s 29 Bf) (g : GrM s0 s) {S' : OST} (e1 : S'.1 = P) (e2 : S'.2.1 = X ++ [(kind, Bf)]) (e3 : S'.2.2.1 = dn + 1) (e4 : S'.2.2.2 = lt) : CarO (some S') (b_Runner_carryOut_259 60 (v kind) (v 1) s) s0 tp se LG IM ms vw dr cn CL P0 := by
  obtain ⟨s1, D1, q1, h1, x1, g1⟩ := c_pushF (kind := kind) h hx hb
  obtain ⟨r1, ⟨r2, r3, r4, r5, r6⟩, r7⟩ := h.rn.2
  obtain ⟨h2, g2⟩ := h1.rnI (k := 5) (y := v (dn + 1))
  obtain ⟨o1, o2, o3, o4, o5⟩ := h.lv
  have e21 : sR s 21 3 = 29 := h.lv3
  refine ⟨_, D1, ?_, by rw [e1]; exact h2, by rw [e2, e3, e4]; exact x1.i5 (fun q hq => (h1.d12 q hq).1), (g.tr g1).tr g2⟩
  unfold b_Runner_carryOut_259
  rw [nv0, nv1, if_neg (show ¬ v 1 = v 0 by decide), if_pos r1, r2, if_pos o3, r5, if_pos (show sT s 61 = 5 by obtain ⟨Lr, l1, -⟩ := hx.1; exact l1.1), e21, q1, Option.bind_some, if_pos h1.rn.2.1, if_pos (Or.inr rfl), x1.2.2.1.1, v_add]
theorem c_259F (h : RepD s D tp se P LG IM ms vw dr cn) (h0 : PgR s 64 P0) (hO : OtC s CL) (g : GrM s0 s) : CarO none (b_Runner_carryOut_259 60 (v kind) (v 0) s) s0 tp se LG IM ms vw dr cn CL P0 := by
  refine ⟨s, D, P, ?_, h, h0, hO, g⟩
  unfold b_Runner_carryOut_259
  rw [nv0, if_pos rfl, if_pos (Or.inl rfl)]
theorem c_can0 (ha : stB a) (hb : stB b) : f_Runner_canBe s 60 (v 0) (v a) (v b) = some (v (bi ((0 ≤ a ∧ a ≤ 200) ∧ 0 ≤ b ∧ b ≤ 255))) := by
  unfold f_Runner_canBe
  rw [nv0, nv1, if_pos rfl, show nI 200 = v 200 from rfl, show nI 255 = v 255 from rfl]
  by_cases c1 : a < 0
  · rw [if_pos (plt (by omega)), bi_f (by omega)]
  rw [if_neg (nlt (by omega))]
  by_cases c2 : 200 < a
  · rw [if_pos (plt (by omega)), bi_f (by omega)]
  rw [if_neg (nlt (by omega))]
  by_cases c3 : b < 0
  · rw [if_pos (plt (by omega)), bi_f (by omega)]
  rw [if_neg (nlt (by omega))]
  by_cases c4 : 255 < b
  · rw [if_pos (plt (by omega)), bi_f (by omega)]
  rw [if_neg (nlt (by omega)), bi_t (by omega)]
theorem c_can1 (h : RepD s D tp se P LG IM ms vw dr cn) (hB : PgB P) (ha : stB a) (hb : stB b) : f_Runner_canBe s 60 (v 1) (v a) (v b) = some (v (bi (recP P a ∧ 0 ≤ b ∧ b ≤ 200))) := by
  obtain ⟨o1, o2, o3, o4, o5⟩ := h.lv
  obtain ⟨r1, ⟨r2, -⟩, -⟩ := h.rn.2
  unfold f_Runner_canBe
  rw [nv0, nv1, if_neg (show ¬ v 1 = v 0 by decide), if_pos rfl, if_pos r1, r2, if_pos o3, o4, if_pos o5.1.1, s_isRecord o5 hB (by omega), Option.bind_some, show nI 200 = v 200 from rfl]
  by_cases c0 : recP P a
  · rw [bi_t c0, if_neg (show ¬ v 1 = v 0 by decide)]
    by_cases c3 : b < 0
    · rw [if_pos (plt (by omega)), bi_f (fun e => by have := e.2; omega)]
    rw [if_neg (nlt (by omega))]
    by_cases c4 : 200 < b
    · rw [if_pos (plt (by omega)), bi_f (fun e => by have := e.2; omega)]
    rw [if_neg (nlt (by omega)), bi_t ⟨c0, by omega, by omega⟩]
  · rw [bi_f c0, if_pos rfl, bi_f (fun e => c0 e.1)]
theorem c_can2 (h : RepD s D tp se P LG IM ms vw dr cn) (hB : PgB P) (ha : stB a) : f_Runner_canBe s 60 (v 2) (v a) (v b) = some (v (bi (recP P a))) := by
  obtain ⟨o1, o2, o3, o4, o5⟩ := h.lv
  obtain ⟨r1, ⟨r2, -⟩, -⟩ := h.rn.2
  have hb := bi_r (c := recP P a)
  have hbb : v (bi (recP P a)) = v 0 ∨ v (bi (recP P a)) = v 1 := by
    by_cases c : recP P a
    · rw [bi_t c]; exact Or.inr rfl
    · rw [bi_f c]; exact Or.inl rfl
  unfold f_Runner_canBe
  rw [nv0, nv1, nv2, if_neg (show ¬ v 2 = v 0 by decide), if_neg (show ¬ v 2 = v 1 by decide), if_pos rfl, if_pos r1, r2, if_pos o3, o4, if_pos o5.1.1, s_isRecord o5 hB (by omega), Option.bind_some, if_pos hbb]
theorem c_can3 (ha : stB a) : f_Runner_canBe s 60 (v 3) (v a) (v b) = some (v (bi (0 ≤ a ∧ a < 8))) := by
  have hbb : v (bi (0 ≤ a ∧ a < 8)) = v 0 ∨ v (bi (0 ≤ a ∧ a < 8)) = v 1 := by
    by_cases c : 0 ≤ a ∧ a < 8
    · rw [bi_t c]; exact Or.inr rfl
    · rw [bi_f c]; exact Or.inl rfl
  unfold f_Runner_canBe
  rw [nv0, nv1, nv2, nv3, if_neg (show ¬ v 3 = v 0 by decide), if_neg (show ¬ v 3 = v 1 by decide), if_neg (show ¬ v 3 = v 2 by decide), if_pos rfl, s_isPage (by omega), Option.bind_some, if_pos hbb]
theorem c_can4 : f_Runner_canBe s 60 (v 4) (v a) (v b) = some (v 1) := by
  unfold f_Runner_canBe
  rw [nv0, nv1, nv2, nv3, if_neg (show ¬ v 4 = v 0 by decide), if_neg (show ¬ v 4 = v 1 by decide), if_neg (show ¬ v 4 = v 2 by decide), if_neg (show ¬ v 4 = v 3 by decide)]
/-- refused ahead of it -/
theorem c_actF (h : RepD s D tp se P LG IM ms vw dr cn) (hx : OrX s D CL P0 X dn lt) (g : GrM s0 s) : CarO none (some (v 0, s)) s0 tp se LG IM ms vw dr cn CL P0 := ⟨s, D, P, rfl, h, hx.2.1, hx.2.2.2, g⟩
theorem c_act0 (h : RepD s D tp se S.1 LG IM ms vw dr cn) (hw : WfT se) (hS : WfO d S) (hx : OrX s D CL P0 S.2.1 S.2.2.1 S.2.2.2) (g : GrM s0 s) (ha : stB a) (hb : stB b) : CarO (actO se 0 a b S) (tlR s (v 0) (v a) (v b)) s0 tp se LG IM ms vw dr cn CL P0 := by
  unfold tlR actO
  rw [c_can0 ha hb, Option.bind_some, nv0, nv1, v_neg, if_pos rfl]
  by_cases c : (0 ≤ a ∧ a ≤ 200) ∧ 0 ≤ b ∧ b ≤ 255
  · have hRb : RecB (fun _ => b) a := byte_all ⟨c.2.1, by omega⟩
    have hRx : ∀ (B : Int → Int) (z : Int), 0 ≤ z → z < a → rpB B a b z = (fun _ => b) z := fun B z z0 z1 => if_pos ⟨z0, z1⟩
    have hr := bring_r (o := lwF se) (V := se.1) (P := S.1) hS.1.1 hRb c.1
    obtain ⟨r1, ⟨r2, r3, r4, r5, r6⟩, r7⟩ := h.rn.2
    obtain ⟨m1, B, nn, m2⟩ := h.md
    obtain ⟨t1, u1, u2, u3⟩ := s_repeat (k := a) (x := b) m2 ⟨c.1.1, by omega, by decide⟩
    have f1 : Fr (fun q => q = 6 ∨ q = 7) s t1 := u3.mo (fun q hq => hq)
    have h1 := h.u_md f1 ⟨_, _, u2⟩
    have x1 := hx.fr h f1 (fun q hq => by omega)
    have g1 := f1.grM (fun q hq => by omega)
    obtain ⟨o1, o2, o3, o4, o5⟩ := h1.lv
    obtain ⟨y1, ⟨y2, y3, y4, y5, y6⟩, y7⟩ := h1.rn.2
    obtain ⟨Bf, hk⟩ := h1.dkt hw
    obtain ⟨t2, v1, v2, v3⟩ := s_bring hk hS.1.1 u2 ⟨by show ¬ ((21 ≤ 6 ∧ 6 ≤ 21 + 17) ∨ 6 = 15 + 1 ∨ 6 = 15 + 2); omega, by show ¬ ((21 ≤ 6 + 1 ∧ 6 + 1 ≤ 21 + 17) ∨ 6 + 1 = 15 + 1 ∨ 6 + 1 = 15 + 2); omega⟩ (by omega) c.1.2 (fun z z0 z1 => by rw [hRx B z z0 z1]; exact hRb z z0 z1)
    rw [bring_ext c.1.1 (hRx B)] at v1 v2
    obtain ⟨h2, hb2, g2⟩ := h1.dk v2 v3
    have x2 := x1.fr h1 v3 (fun q hq => by rcases hq with e | e | e; have := e.1; have := e.2; omega; omega; omega)
    have hrn := h2.rn.2.1
    rw [bi_t c, if_neg (show ¬ v 1 = v 0 by decide), if_pos rfl, if_pos c, r4, if_pos m2.1.1, u1, Option.bind_some, if_pos y1, y2, if_pos o3, y4, v1, Option.bind_some]
    by_cases e : (bringP (lwF se) se.1 (fun _ => b) a S.1).1 = -1
    · obtain ⟨h3, g3⟩ := h2.rnI (k := 6) (y := sI t2 60 6)
      have f3 : Fr (fun q => q = 60) t2 (setI t2 60 6 (sI t2 60 6)) := Fr.si rfl
      show CarO _ (if v (bringP (lwF se) se.1 (fun _ => b) a S.1).1 = v (-1) then (if sT t2 60 = 10 then b_Runner_carryOut_166 60 (v 0) (v (bringP (lwF se) se.1 (fun _ => b) a S.1).1) (sI t2 60 6) 60 t2 else none) else _) _ _ _ _ _ _ _ _ _ _ _
      rw [if_pos (peq e), if_pos hrn, if_pos e]
      unfold b_Runner_carryOut_166 b_Runner_carryOut_180
      rw [if_pos hrn, nv1, v_neg, if_pos (peq e), nv0]
      exact c_259F h3 (x2.2.1.eq (fun i hi => f3.eqA (by omega))) (x2.2.2.2.eq (fun i hi => f3.eqA (by omega))) (((g.tr g1).tr g2).tr g3)
    · obtain ⟨h3, g3⟩ := h2.rnI (k := 6) (y := v (bringP (lwF se) se.1 (fun _ => b) a S.1).1)
      have x3 := x2.i6 (fun q hq => (h2.d12 q hq).1) (y := (bringP (lwF se) se.1 (fun _ => b) a S.1).1)
      have f3 : Fr (fun q => q = 60) t2 (setI t2 60 6 (v (bringP (lwF se) se.1 (fun _ => b) a S.1).1)) := Fr.si rfl
      show CarO _ (if v (bringP (lwF se) se.1 (fun _ => b) a S.1).1 = v (-1) then _ else b_Runner_carryOut_166 60 (v 0) (v (bringP (lwF se) se.1 (fun _ => b) a S.1).1) (v (bringP (lwF se) se.1 (fun _ => b) a S.1).1) 60 t2) _ _ _ _ _ _ _ _ _ _ _
      rw [if_neg (pne (show (r32 (bringP (lwF se) se.1 (fun _ => b) a S.1).1 ∧ _) ∧ ¬ (bringP (lwF se) se.1 (fun _ => b) a S.1).1 = -1 from ⟨by omega, e⟩)), if_neg e]
      unfold b_Runner_carryOut_166 b_Runner_carryOut_180
      rw [if_pos hrn, nv1, v_neg, if_neg (pne (show (r32 (bringP (lwF se) se.1 (fun _ => b) a S.1).1 ∧ _) ∧ ¬ (bringP (lwF se) se.1 (fun _ => b) a S.1).1 = -1 from ⟨by omega, e⟩))]
      exact c_259 h3 x3 (hb2.eq (fun i hi => f3.eqA (by omega))) (((g.tr g1).tr g2).tr g3) rfl rfl rfl rfl
  · rw [bi_f c, if_pos rfl, if_neg c]
    exact c_actF h hx g
theorem c_act1 (h : RepD s D tp se S.1 LG IM ms vw dr cn) (hw : WfT se) (hS : WfO d S) (hx : OrX s D CL P0 S.2.1 S.2.2.1 S.2.2.2) (g : GrM s0 s) (ha : stB a) (hb : stB b) : CarO (actO se 1 a b S) (tlR s (v 1) (v a) (v b)) s0 tp se LG IM ms vw dr cn CL P0 := by
  have hB := hS.1.1.1.1.1
  unfold tlR actO
  rw [c_can1 h hB ha hb, Option.bind_some, nv0, nv1, v_neg, if_neg (show ¬ (1 : Int) = 0 by decide), if_pos rfl]
  by_cases c : recP S.1 a ∧ 0 ≤ b ∧ b ≤ 200
  · have hRb : RecB (fun _ => (7 : Int)) b := byte_all (by decide)
    have hRx : ∀ (B : Int → Int) (z : Int), 0 ≤ z → z < b → rpB B b 7 z = (fun _ => (7 : Int)) z := fun B z z0 z1 => if_pos ⟨z0, z1⟩
    have hr := anew_r (lwF se) se.1 (fun _ => 7) b a S.1
    obtain ⟨r1, ⟨r2, r3, r4, r5, r6⟩, r7⟩ := h.rn.2
    obtain ⟨m1, B, nn, m2⟩ := h.md
    obtain ⟨t1, u1, u2, u3⟩ := s_repeat (k := b) (x := 7) m2 ⟨c.2.1, by omega, by decide⟩
    have f1 : Fr (fun q => q = 6 ∨ q = 7) s t1 := u3.mo (fun q hq => hq)
    have h1 := h.u_md f1 ⟨_, _, u2⟩
    have x1 := hx.fr h f1 (fun q hq => by omega)
    have g1 := f1.grM (fun q hq => by omega)
    obtain ⟨o1, o2, o3, o4, o5⟩ := h1.lv
    obtain ⟨y1, ⟨y2, y3, y4, y5, y6⟩, y7⟩ := h1.rn.2
    obtain ⟨Bf, hk⟩ := h1.dkt hw
    obtain ⟨t2, v1, v2, v3⟩ := s_writeAnew hk hS.1.1 c.1 u2 ⟨by show ¬ ((21 ≤ 6 ∧ 6 ≤ 21 + 17) ∨ 6 = 15 + 1 ∨ 6 = 15 + 2); omega, by show ¬ ((21 ≤ 6 + 1 ∧ 6 + 1 ≤ 21 + 17) ∨ 6 + 1 = 15 + 1 ∨ 6 + 1 = 15 + 2); omega⟩ (by omega) c.2.2 (fun z z0 z1 => by rw [hRx B z z0 z1]; exact hRb z z0 z1)
    rw [anew_ext c.2.1 (hRx B)] at v1 v2
    obtain ⟨h2, hb2, g2⟩ := h1.dk v2 v3
    have x2 := x1.fr h1 v3 (fun q hq => by rcases hq with e | e | e; have := e.1; have := e.2; omega; omega; omega)
    rw [bi_t c, if_neg (show ¬ v 1 = v 0 by decide), if_neg (show ¬ v 1 = v 0 by decide), if_pos rfl, if_pos c, r4, if_pos m2.1.1, show nI 7 = v 7 from rfl, u1, Option.bind_some, if_pos y1, y2, if_pos o3, y4, v1, Option.bind_some]
    unfold b_Runner_carryOut_220
    by_cases e : (anewP (lwF se) se.1 (fun _ => 7) b a S.1).1 = -1
    · rw [if_pos e]
      show CarO _ (b_Runner_carryOut_259 60 (v 1) (if v (anewP (lwF se) se.1 (fun _ => 7) b a S.1).1 = v (-1) then v 0 else v 1) t2) _ _ _ _ _ _ _ _ _ _ _
      rw [if_pos (peq e)]
      exact c_259F h2 x2.2.1 x2.2.2.2 ((g.tr g1).tr g2)
    · rw [if_neg e]
      show CarO _ (b_Runner_carryOut_259 60 (v 1) (if v (anewP (lwF se) se.1 (fun _ => 7) b a S.1).1 = v (-1) then v 0 else v 1) t2) _ _ _ _ _ _ _ _ _ _ _
      rw [if_neg (pne (show (r32 (anewP (lwF se) se.1 (fun _ => 7) b a S.1).1 ∧ _) ∧ ¬ (anewP (lwF se) se.1 (fun _ => 7) b a S.1).1 = -1 from ⟨by omega, e⟩))]
      exact c_259 h2 x2 hb2 ((g.tr g1).tr g2) rfl rfl rfl rfl
  · rw [bi_f c, if_pos rfl, if_neg c]
    exact c_actF h hx g
theorem c_act2 (h : RepD s D tp se S.1 LG IM ms vw dr cn) (hw : WfT se) (hS : WfO d S) (hx : OrX s D CL P0 S.2.1 S.2.2.1 S.2.2.2) (g : GrM s0 s) (ha : stB a) : CarO (actO se 2 a b S) (tlR s (v 2) (v a) (v b)) s0 tp se LG IM ms vw dr cn CL P0 := by
  have hB := hS.1.1.1.1.1
  unfold tlR actO
  rw [c_can2 h hB ha, Option.bind_some, nv0, nv1, nv2, if_neg (show ¬ (2 : Int) = 0 by decide), if_neg (show ¬ (2 : Int) = 1 by decide), if_pos rfl]
  by_cases c : recP S.1 a
  · obtain ⟨r1, ⟨r2, -⟩, r7⟩ := h.rn.2
    obtain ⟨Bf, hk⟩ := h.dkt hw
    have hc := c.1
    obtain ⟨t2, v1, v2, v3⟩ := s_takeAway hk hS.1.1.1 (a := a) (by omega)
    obtain ⟨h2, hb2, g2⟩ := h.dk v2 v3
    have x2 := hx.fr h v3 (fun q hq => by rcases hq with e | e | e; have := e.1; have := e.2; omega; omega; omega)
    rw [bi_t c, if_neg (show ¬ v 1 = v 0 by decide), if_neg (show ¬ v 2 = v 0 by decide), if_neg (show ¬ v 2 = v 1 by decide), if_pos rfl, if_pos c, r2, if_pos h.lv.2.2.1, v1, Option.bind_some]
    exact c_259 h2 x2 hb2 (g.tr g2) rfl rfl rfl rfl
  · rw [bi_f c, if_pos rfl, if_neg c]
    exact c_actF h hx g
theorem c_act3 (h : RepD s D tp se S.1 LG IM ms vw dr cn) (hw : WfT se) (hS : WfO d S) (hx : OrX s D CL P0 S.2.1 S.2.2.1 S.2.2.2) (g : GrM s0 s) (ha : stB a) : CarO (actO se 3 a b S) (tlR s (v 3) (v a) (v b)) s0 tp se LG IM ms vw dr cn CL P0 := by
  unfold tlR actO
  rw [c_can3 ha, Option.bind_some, nv0, nv1, nv2, nv3, if_neg (show ¬ (3 : Int) = 0 by decide), if_neg (show ¬ (3 : Int) = 1 by decide), if_neg (show ¬ (3 : Int) = 2 by decide), if_pos rfl]
  by_cases c : 0 ≤ a ∧ a < 8
  · obtain ⟨r1, ⟨r2, -⟩, r7⟩ := h.rn.2
    obtain ⟨Bf, hk⟩ := h.dkt hw
    obtain ⟨t2, v1, v2, v3⟩ := s_packPage hk hS.1.1 (p := a) c
    obtain ⟨h2, hb2, g2⟩ := h.dk v2 v3
    have x2 := hx.fr h v3 (fun q hq => by rcases hq with e | e | e; have := e.1; have := e.2; omega; omega; omega)
    rw [bi_t c, if_neg (show ¬ v 1 = v 0 by decide), if_neg (show ¬ v 3 = v 0 by decide), if_neg (show ¬ v 3 = v 1 by decide), if_neg (show ¬ v 3 = v 2 by decide), if_pos rfl, if_pos c, r2, if_pos h.lv.2.2.1, v1, Option.bind_some]
    exact c_259 h2 x2 hb2 (g.tr g2) rfl rfl rfl rfl
  · rw [bi_f c, if_pos rfl, if_neg c]
    exact c_actF h hx g
theorem c_act4 (h : RepD s D tp se S.1 LG IM ms vw dr cn) (hw : WfT se) (hS : WfO d S) (hx : OrX s D CL P0 S.2.1 S.2.2.1 S.2.2.2) (g : GrM s0 s) : CarO (actO se 4 a b S) (tlR s (v 4) (v a) (v b)) s0 tp se LG IM ms vw dr cn CL P0 := by
  unfold tlR actO
  obtain ⟨r1, ⟨r2, -⟩, r7⟩ := h.rn.2
  obtain ⟨Bf, hk⟩ := h.dkt hw
  obtain ⟨t2, v1, v2, v3⟩ := s_mendAll hk hS.1.1
  obtain ⟨h2, hb2, g2⟩ := h.dk v2 v3
  have x2 := hx.fr h v3 (fun q hq => by rcases hq with e | e | e; have := e.1; have := e.2; omega; omega; omega)
  rw [c_can4, Option.bind_some, nv0, nv1, nv2, nv3, if_neg (show ¬ (4 : Int) = 0 by decide), if_neg (show ¬ (4 : Int) = 1 by decide), if_neg (show ¬ (4 : Int) = 2 by decide), if_neg (show ¬ (4 : Int) = 3 by decide), if_neg (show ¬ v 1 = v 0 by decide), if_neg (show ¬ v 4 = v 0 by decide), if_neg (show ¬ v 4 = v 1 by decide), if_neg (show ¬ v 4 = v 2 by decide), if_neg (show ¬ v 4 = v 3 by decide), r2, if_pos h.lv.2.2.1, v1, Option.bind_some]
  exact c_259 h2 x2 hb2 (g.tr g2) rfl rfl rfl rfl
end ORA
