/-! PAIRS: days -/
def nxtS (x : Int) : Int := (x * 1103 + 12345) % 1000003
def dyX (x : Int) : Int := nxtS (nxtS (nxtS (nxtS x)))
def dyN (x : Int) : Int := nxtS x % 70
def dyB (x : Int) : Int := nxtS (nxtS x) % 256
def dyA (x : Int) : Int := nxtS (nxtS (nxtS x)) % 128
def dyW (x : Int) : Int := dyX x % 8
def dayP (o : LWS) (V : Int → Int) (x : Int) (P : PG) : PG := if dyW x ≤ 3 then (bringP o V (fun _ => dyB x) (dyN x) P).2 else if dyW x = 7 then packP P (dyA x / 16) else if fromP P (dyA x) = -1 then P else if dyW x = 6 then takeP P (fromP P (dyA x)) (-1) else (anewP o V (fun _ => dyB x) (dyN x) (fromP P (dyA x)) P).2
def daysL (o : LWS) (V : Int → Int) : Nat → Int → PG → PG
  | 0, _, P => P
  | k + 1, x, P => daysL o V k (dyX x) (dayP o V x P)
def keepD (Q : PG) : Int → Int := fun z => if z % 3 = 0 then freeP Q (z / 3) else if z % 3 = 1 then Q 4 (z / 3) else cellsP Q (z / 3)
abbrev dysOK (x n : Int) : Prop := (0 ≤ x ∧ x ≤ 1000000) ∧ 1 ≤ n ∧ n ≤ 60
def dysA (se : ST1) (P : PG) (x n : Int) : Int := if dysOK x n then countP (daysL (lwF se) se.1 n.toNat x P) else -1
def dysD (se : ST1) (P : PG) (dr : DRW) (x n : Int) : DRW := if dysOK x n then some (keepD (daysL (lwF se) se.1 n.toNat x P)) else dr
theorem modE (y c : Int) : y - y / c * c = y % c := by rw [Int.emod_def, Int.mul_comm]
theorem nxtS_r (x : Int) : 0 ≤ nxtS x ∧ nxtS x < 1000003 := by unfold nxtS; omega
theorem dy_r (x : Int) : (0 ≤ dyN x ∧ dyN x < 70) ∧ (0 ≤ dyB x ∧ dyB x < 256) ∧ (0 ≤ dyA x ∧ dyA x < 128) ∧ (0 ≤ dyW x ∧ dyW x < 8) ∧ (0 ≤ dyX x ∧ dyX x < 1000003) := by
  have := nxtS_r (nxtS (nxtS (nxtS x)))
  unfold dyN dyB dyA dyW dyX
  omega
theorem fromL_r (P : PG) : ∀ (k : Nat) (a : Int), fromL P k a = -1 ∨ recP P (fromL P k a) := by
  intro k
  induction k with
  | zero => intro a; exact Or.inl rfl
  | succ k ih =>
    intro a
    unfold fromL
    by_cases c : recP P a
    · rw [if_pos c]; exact Or.inr c
    · rw [if_neg c]; exact ih _
theorem fromP_r (P : PG) (a : Int) : fromP P a = -1 ∨ recP P (fromP P a) := fromL_r P _ _
theorem byte_all {n b : Int} (hb : 0 ≤ b ∧ b < 256) : RecB (fun _ => b) n := fun _ _ _ => ⟨hb.1, by show b ≤ 255; omega⟩
theorem dayP_H {o : LWS} {V : Int → Int} {x : Int} {P : PG} (hH : PgH P) : PgH (dayP o V x P) := by
  obtain ⟨r1, r2, r3, r4, r5⟩ := dy_r x
  unfold dayP
  split
  · exact bring_H hH (byte_all r2) (by omega)
  split
  · exact pack_H hH (by omega)
  split
  · exact hH
  rename_i c
  have hr := (fromP_r P (dyA x)).resolve_left c
  split
  · exact (takeP_H hH hr).1
  · exact anew_H hH (byte_all r2) (by omega) hr
theorem daysL_H {o : LWS} {V : Int → Int} : ∀ (k : Nat) (x : Int) (P : PG), PgH P → PgH (daysL o V k x P) := by
  intro k
  induction k with
  | zero => intro x P h; exact h
  | succ k ih => intro x P h; exact ih _ _ (dayP_H h)
section DAY
variable {s : AS} {D : DYN} {tp : (Int → Int) × Int} {se : ST1} {P Q Q' Bf : PG} {LG : LGS} {IM : Nat → IMG} {ms : Int → Int} {vw : (Int → Int) × Int} {dr : DRW} {cn : Nat} {x : Int}
theorem RepD.cl (h : RepD s D tp se P LG IM ms vw dr cn) : ClC s dr := h.2.2.2.2.2.2.2.2.2.2.2.2.2.1
theorem ClC.seed (h : ClC s dr) {y : Int} : ClC (setI s 71 6 (v y)) dr := by
  obtain ⟨h1, h2, h3, h4⟩ := h
  refine ⟨h1, h2, h3, ?_⟩
  cases dr with
  | none => show sI (setI s 71 6 (v y)) 71 5 = v 0; rw [sI_setI, if_neg (by decide)]; exact h4
  | some E =>
    refine ⟨by rw [sI_setI, if_neg (by decide)]; exact h4.1, fun z hz => ?_⟩
    rw [sI_setI, if_neg (by omega), sI_setI, if_neg (by omega), sI_setI, if_neg (by omega)]
    exact h4.2 z hz
theorem c_seed (h : RepD s D tp se P LG IM ms vw dr cn) (hp : DkO s 39 Q) {y : Int} : RepD (setI s 71 6 (v y)) D tp se P LG IM ms vw dr cn ∧ DkO (setI s 71 6 (v y)) 39 Q ∧ sI (setI s 71 6 (v y)) 71 6 = v y ∧ GrM s (setI s 71 6 (v y)) := by
  have f1 : Fr (fun q => 71 ≤ q ∧ q ≤ 74) s (setI s 71 6 (v y)) := Fr.si (by omega)
  exact ⟨h.u_cl f1 h.cl.seed, hp.eq (fun i hi => f1.eqA (by omega)), by rw [sI_setI, if_pos ⟨rfl, rfl⟩], f1.grM (fun q hq => by omega)⟩
theorem c_draw (h : RepD s D tp se P LG IM ms vw dr cn) (hs : sI s 71 6 = v x) (hx : 0 ≤ x ∧ x < 1000003) {b : Int} (hb : 0 < b ∧ b < 1000) : f_Calendar_draw s 71 (v b) = some (v (nxtS x % b), setI s 71 6 (v (nxtS x))) := by
  have hr := nxtS_r x
  have e : v x * v 1103 + v 12345 - (v x * v 1103 + v 12345) / v 1000003 * v 1000003 = v (nxtS x) := by
    rw [v_mul, v_add, v_div (by omega) (by omega), v_mul, v_sub, modE]
    rfl
  unfold f_Calendar_draw
  rw [if_pos h.cl.1, if_pos (show ¬ nI 1000003 = nI 0 by decide), nv0, if_pos (plt (by omega)), if_pos (pne (by omega)), hs, nv1103, nv12345, nv1000003, e, sI_setI, if_pos ⟨rfl, rfl⟩, v_div (by omega) (by omega), v_mul, v_sub, modE]
theorem c_day (hw : WfT se) (hH : PgH Q) (h : RepD s D tp se P LG IM ms vw dr cn) (hp : DkO s 39 Q) (hs : sI s 71 6 = v x) (hx : 0 ≤ x ∧ x < 1000003) : ∃ s', f_Calendar_passDay s 71 = some s' ∧ RepD s' D tp se P LG IM ms vw dr cn ∧ DkO s' 39 (dayP (lwF se) se.1 x Q) ∧ sI s' 71 6 = v (dyX x) ∧ GrM s s' := by
  obtain ⟨r1, r2, r3, r4, r5⟩ := dy_r x
  have hG := hH.1
  have hB := hG.1.1.1
  have x1 := nxtS_r x
  have x2 := nxtS_r (nxtS x)
  have x3 := nxtS_r (nxtS (nxtS x))
  obtain ⟨h1, p1, s1, g1⟩ := c_seed (y := nxtS x) h hp
  obtain ⟨h2, p2, s2, g2⟩ := c_seed (y := nxtS (nxtS x)) h1 p1
  obtain ⟨h3, p3, s3, g3⟩ := c_seed (y := nxtS (nxtS (nxtS x))) h2 p2
  obtain ⟨h4, p4, s4, g4⟩ := c_seed (y := dyX x) h3 p3
  have d1 := c_draw h hs hx (b := 70) (by decide)
  have d2 := c_draw h1 s1 x1 (b := 256) (by decide)
  have d3 := c_draw h2 s2 x2 (b := 128) (by decide)
  have d4 := c_draw h3 s3 x3 (b := 8) (by decide)
  generalize setI s 71 6 (v (nxtS x)) = t1 at *
  generalize setI t1 71 6 (v (nxtS (nxtS x))) = t2 at *
  generalize setI t2 71 6 (v (nxtS (nxtS (nxtS x)))) = t3 at *
  rw [show nxtS (nxtS (nxtS (nxtS x))) = dyX x from rfl] at d4
  generalize setI t3 71 6 (v (dyX x)) = t4 at *
  obtain ⟨m1, B, nn, m2⟩ := h4.md
  obtain ⟨t5, u1, u2, u3⟩ := s_repeat (k := dyN x) (x := dyB x) m2 ⟨r1.1, by omega, by decide⟩
  have f5 : Fr (fun q => q = 6 ∨ q = 7) t4 t5 := u3.mo (fun q hq => hq)
  have h5 := h4.u_md f5 ⟨_, _, u2⟩
  have p5 : DkO t5 39 Q := p4.eq (fun i hi => f5.eqA (by omega))
  have s5 : sI t5 71 6 = v (dyX x) := by rw [(f5.2 71 (by omega)).1]; exact s4
  have g5 : GrM s t5 := (((g1.tr g2).tr g3).tr g4).tr (f5.grM (fun q hq => by omega))
  obtain ⟨Bf, hd⟩ := h5.pd p5 hw
  have hRx : ∀ z, 0 ≤ z → z < dyN x → rpB B (dyN x) (dyB x) z = (fun _ => dyB x) z := fun z z0 z1 => if_pos ⟨z0, z1⟩
  have hRb : RecB (rpB B (dyN x) (dyB x)) (dyN x) := fun z z0 z1 => by rw [hRx z z0 z1]; exact byte_all r2 z z0 z1
  have n6 : ¬ inD 39 15 6 ∧ ¬ inD 39 15 (6 + 1) := ⟨by show ¬ ((39 ≤ 6 ∧ 6 ≤ 39 + 17) ∨ 6 = 15 + 1 ∨ 6 = 15 + 2); omega, by show ¬ ((39 ≤ 6 + 1 ∧ 6 + 1 ≤ 39 + 17) ∨ 6 + 1 = 15 + 1 ∨ 6 + 1 = 15 + 2); omega⟩
  have n71 : ¬ inD 39 15 71 := by show ¬ ((39 ≤ 71 ∧ 71 ≤ 39 + 17) ∨ 71 = 15 + 1 ∨ 71 = 15 + 2); omega
  obtain ⟨c1, ⟨c2, c3, -⟩, -⟩ := h.cl
  obtain ⟨c11, -⟩ := h1.cl
  obtain ⟨c21, -⟩ := h2.cl
  obtain ⟨c31, -⟩ := h3.cl
  obtain ⟨c41, ⟨c42, c43, -⟩, -⟩ := h4.cl
  obtain ⟨c51, ⟨c52, c53, -⟩, -⟩ := h5.cl
  have q40 := p4.2.2.1
  have fin : ∀ t6 Q', DkT t6 39 18 15 (lwF se) se.1 Q' Q → Fr (inD 39 15) t5 t6 → RepD t6 D tp se P LG IM ms vw dr cn ∧ DkO t6 39 Q' ∧ sI t6 71 6 = v (dyX x) ∧ GrM s t6 := fun t6 Q' k f => by
    obtain ⟨z1, z2, z3⟩ := h5.dp k f
    exact ⟨z1, z2, by rw [(f.2 71 n71).1]; exact s5, g5.tr z3⟩
  unfold f_Calendar_passDay
  rw [if_pos c1, show nI 70 = v 70 from rfl, d1, Option.bind_some, if_pos c11, nv256, d2, Option.bind_some, if_pos c21, nv128, d3, Option.bind_some, if_pos c31, nv8, d4, Option.bind_some, if_pos c41, c42, if_pos p4.1.1, p4.1.2.1.2.2.1, if_pos q40.1.1]
  show ∃ s', (f_Pages_recordFrom t4 40 (v (dyA x))).bind _ = some s' ∧ _
  rw [s_recordFrom q40 hB (by omega), Option.bind_some, c43, if_pos m2.1.1]
  show ∃ s', (f_Row_repeat t4 6 (v (dyN x)) (v (dyB x))).bind _ = some s' ∧ _
  rw [u1, Option.bind_some]
  show ∃ s', (if nI 3 < v (dyW x) then _ else _) = some s' ∧ _
  rw [nv3, nv7, nv6, nv16, nv1, v_neg]
  unfold dayP
  by_cases w1 : dyW x ≤ 3
  · rw [if_neg (nlt (by omega)), if_pos c51, c52, if_pos p5.1.1, c53, if_pos w1]
    obtain ⟨t6, q1, q2, q3⟩ := s_bring hd hG u2 n6 (by omega) (by omega) hRb
    rw [bring_ext r1.1 hRx] at q2
    rw [q1, Option.bind_some]
    exact ⟨t6, rfl, fin t6 _ q2 q3⟩
  rw [if_pos (plt (by omega)), if_neg w1]
  by_cases w7 : dyW x = 7
  · show ∃ s', (if v (dyW x) = v 7 then _ else _) = some s' ∧ _
    rw [if_pos (peq w7), if_pos c51, if_pos (show ¬ v 16 = nI 0 by decide), c52, if_pos p5.1.1, if_pos w7]
    show ∃ s', (f_Desk_packPage t5 39 (v (dyA x) / v 16)).bind _ = some s' ∧ _
    rw [v_div (by omega) (by decide)]
    obtain ⟨t6, q1, q2, q3⟩ := s_packPage hd hG (p := dyA x / 16) (by omega)
    rw [q1, Option.bind_some]
    exact ⟨t6, rfl, fin t6 _ q2 q3⟩
  have e120 : ∀ a, recP Q a → ∃ t6, b_Calendar_passDay_120 71 (v a) t5 = some t6 ∧ RepD t6 D tp se P LG IM ms vw dr cn ∧ DkO t6 39 (anewP (lwF se) se.1 (fun _ => dyB x) (dyN x) a Q).2 ∧ sI t6 71 6 = v (dyX x) ∧ GrM s t6 := fun a ha => by
    obtain ⟨t6, q1, q2, q3⟩ := s_writeAnew hd hG ha u2 n6 (by omega) (by omega) hRb
    rw [anew_ext r1.1 hRx] at q2
    refine ⟨t6, ?_, fin t6 _ q2 q3⟩
    unfold b_Calendar_passDay_120
    have := ha.1
    rw [nv1, v_neg, if_neg (pne (by omega)), if_pos c51, c52, if_pos p5.1.1, c53, q1, Option.bind_some]
  show ∃ s', (if v (dyW x) = v 7 then _ else _) = some s' ∧ _
  rw [if_neg (pne (by omega)), if_neg w7]
  by_cases wf : fromP Q (dyA x) = -1
  · rw [if_pos (peq wf), if_pos wf, wf]
    refine ⟨t5, ?_, h5, p5, s5, g5⟩
    unfold b_Calendar_passDay_120
    rw [nv1, v_neg, if_pos rfl]
  have hr := (fromP_r Q (dyA x)).resolve_left wf
  have hr1 := hr.1
  rw [if_neg (pne ⟨⟨by omega, by decide⟩, wf⟩), if_neg wf]
  by_cases w6 : dyW x = 6
  · show ∃ s', (if v (dyW x) = v 6 then _ else _) = some s' ∧ _
    rw [if_pos (peq w6), if_pos w6, if_pos c51, c52, if_pos p5.1.1]
    obtain ⟨t6, q1, q2, q3⟩ := s_takeAway hd hG.1 (a := fromP Q (dyA x)) (by omega)
    rw [q1, Option.bind_some]
    exact ⟨t6, rfl, fin t6 _ q2 q3⟩
  · show ∃ s', (if v (dyW x) = v 6 then _ else _) = some s' ∧ _
    rw [if_neg (pne (by omega)), if_neg w6]
    exact e120 _ hr
end DAY
