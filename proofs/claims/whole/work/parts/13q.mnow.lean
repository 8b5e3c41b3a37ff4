/-! THE REFERENCE: changes that can be undone -/
theorem MkE.gen {A A' : MA} {o : LWS} {V : Int → Int} {kept kept' : Int} {P P' : PG} (h : MkE A o V kept P) (h0 : A' 0 19 = A 0 19) (hk : KptM A' kept') (h2 : ∀ z, (0 ≤ z ∧ z < 5) ∨ 821 ≤ z → A' 2 z = A 2 z) (hP : PgM (A' 2) P') : MkE A' o V kept' P' := by
  obtain ⟨g1, g2, g3, g4, g5, g6⟩ := h
  exact ⟨hP, by rw [h0]; exact g2, hk, g4.cong h2, by rw [h2 2 (by omega), h2 4 (by omega)]; exact g5, g6⟩
theorem LogM.gen {A A' : MA} {L : LGS} (h : LogM A L) (h5 : ∀ z, 0 ≤ z → z < 13056 → A' 5 z = A 5 z) (h6 : ∀ z, 0 ≤ z → z < 16 → A' 6 z = A 6 z) (h8 : A' 0 8 = A 0 8) : LogM A' L := by
  obtain ⟨g1, g2, g3⟩ := h
  refine ⟨by rw [h8]; exact g1, g2, fun i x hx => ?_⟩
  obtain ⟨k1, k2⟩ := g3 i x hx
  have hi : i < L.length := by
    by_cases c : i < L.length
    · exact c
    · rw [List.getElem?_eq_none (by omega)] at hx; cases hx
  exact ⟨by rw [h6 _ (by omega) (by omega)]; exact k1, k2.cg (fun z z0 z1 => h5 _ (by omega) (by omega))⟩
/-- what changes to pages may touch -/
abbrev scrX : Nat → Int → Prop := fun j z => scrP j z ∨ scrL j z ∨ (j = 0 ∧ (z = 41 ∨ z = 42))
theorem scrP_X {A B : MA} (h : AF scrP A B) : AF scrX A B := h.mo (fun j z hj => Or.inl hj)
theorem scrU_X {A B : MA} (h : AF (scrU 18) A B) : AF scrX A B := h.mo (fun j z hj => Or.inr (Or.inl (Or.inl ⟨hj.1, by have := hj.2; omega⟩)))
theorem scrL_X {A B : MA} (h : AF scrL A B) : AF scrX A B := h.mo (fun j z hj => Or.inr (Or.inl hj))
theorem bring_fail {o : LWS} {V : Int → Int} {R : Int → Int} {n : Int} {P : PG} (h : (bringP o V R n P).1 = -1) : (bringP o V R n P).2 = P := by
  unfold bringP at h ⊢
  by_cases c : n ≤ 40
  · rw [if_pos c] at h ⊢
    by_cases e : placeA o V P (-1) n = -1
    · rw [if_pos e]
    · rw [if_neg e] at h; exact absurd h e
  · rw [if_neg c] at h ⊢
    by_cases e : (piecesP o V (-1) R n P).1 = -1
    · rw [if_pos e]
    · rw [if_neg e] at h ⊢
      by_cases e2 : placeA o V (piecesP o V (-1) R n P).2 (-1) 40 = -1
      · rw [if_pos e2]
      · rw [if_neg e2] at h; exact absurd h e2
section MNW
variable {m : Nat} {o : LWS} {V : Int → Int} {n : Int} {R : Int → Int} {P : PG} {s : AS} {A : MA} {L : LGS}
theorem KptM.fr {A B : MA} {k : Int} (h : KptM A k) (h1 : B 0 41 = A 0 41) (h2 : B 0 42 = A 0 42) : KptM B k := by
  unfold KptM
  rw [h1, h2]
  exact h
theorem m_putNow (h : MR s m A) (hE : MkE A o V (-1) P) (hLg : LogM A L) (hb : BrM A R n) (hn : 0 ≤ n ∧ n ≤ 200) (hRb : RecB R n) (hG : PgG P) :
    ∃ s' A', f_M_putNow s m = some (v (if (bringP o V R n P).1 = -1 then -5 else (bringP o V R n P).1), s') ∧ MR s' m A' ∧ MkE A' o V (-1) (bringP o V R n P).2 ∧ LogM A' (if (bringP o V R n P).1 = -1 then L else pushL L (0, P)) ∧ AF scrX A A' ∧ Fr (inM m) s s' := by
  obtain ⟨s1, A1, q1, q2, q3, q4, q5⟩ := m_keepAll (c := 18) h (by decide)
  have hE1 : MkE A1 o V (-1) P := hE.gen (q3 0 19 (by omega)) (hE.2.2.1.fr (q3 0 41 (by omega)) (q3 0 42 (by omega))) (fun z _ => q3 2 z (by omega)) (by rw [show A1 2 = A 2 from funext (fun z => q3 2 z (by omega))]; exact hE.1)
  have hL1 : LogM A1 L := hLg.gen (fun z z0 z1 => q3 5 z (by omega)) (fun z z0 z1 => q3 6 z (by omega)) (q3 0 8 (by omega))
  have hb1 : BrM A1 R n := ⟨by rw [q3 0 44 (by omega)]; exact hb.1, fun z z0 z1 => by rw [q3 22 z (by omega)]; exact hb.2 z z0 z1⟩
  obtain ⟨s2, A2, P', r1, r2, r3, r4, r5, r6, r7⟩ := m_putIt q2 hE1 hb1 hn hRb hG
  have hU2 : PgM (Un A2 18) P := (q4 P hE.1).cg (fun z z0 z1 => r5 5 _ (by omega))
  have hL2 : LogM A2 L := hL1.gen (fun z z0 z1 => r5 5 z (by omega)) (fun z z0 z1 => r5 6 z (by omega)) (r5 0 8 (by omega))
  have hE2 := hE1.pg r5 r3
  unfold f_M_putNow
  rw [if_pos h.t, show nI 18 = v 18 from rfl, q1, Option.bind_some, if_pos q2.t, r1, Option.bind_some, nv1, v_neg]
  by_cases e : (bringP o V R n P).1 = -1
  · obtain ⟨s3, A3, u1, u2, u3, u4, u5⟩ := m_putBack (c := 18) r2 (by decide)
    rw [if_pos (peq e), if_pos r2.t, u1, Option.bind_some, if_pos e, if_pos e, bring_fail e, nv5, v_neg]
    exact ⟨s3, A3, rfl, u2, hE2.pg (scrQ_P u3) (u4 P hU2), hL2.gen (fun z z0 z1 => u3 5 z (by omega)) (fun z z0 z1 => u3 6 z (by omega)) (u3 0 8 (by omega)), ((scrU_X q3).tr (scrP_X r5)).tr (scrP_X (scrQ_P u3)), (q5.tr r6).tr u5⟩
  · obtain ⟨s3, A3, u1, u2, u3, u4, u5⟩ := m_remember (sort := 0) r2 hL2 hU2
    rw [if_neg (pne ⟨⟨r7, by omega⟩, e⟩), if_pos r2.t, nv0, u1, Option.bind_some, if_neg e, if_neg e]
    refine ⟨s3, A3, rfl, u2, ?_, u3, ((scrU_X q3).tr (scrP_X r5)).tr (scrL_X u4), (q5.tr r6).tr u5⟩
    rw [r4 e] at r3
    exact (hE2.gen (u4 0 19 (by omega)) (hE2.2.2.1.fr (u4 0 41 (by omega)) (u4 0 42 (by omega))) (fun z _ => u4 2 z (by omega)) (by rw [show A3 2 = A2 2 from funext (fun z => u4 2 z (by omega))]; exact r3))
theorem m_rewriteNow (h : MR s m A) (hE : MkE A o V (-1) P) (hLg : LogM A L) (hb : BrM A R n) (hn : 0 ≤ n ∧ n ≤ 200) (hRb : RecB R n) (hG : PgG P) {a : Int} (hr : recP P a) :
    ∃ s' A', f_M_rewriteNow s m (v a) = some (v (if (anewP o V R n a P).1 = -1 then -5 else (anewP o V R n a P).1), s') ∧ MR s' m A' ∧ MkE A' o V (-1) (anewP o V R n a P).2 ∧ LogM A' (if (anewP o V R n a P).1 = -1 then L else pushL L (1, P)) ∧ AF scrX A A' ∧ Fr (inM m) s s' := by
  have ha := hr.1
  obtain ⟨s1, A1, q1, q2, q3, q4, q5⟩ := m_keepAll (c := 18) h (by decide)
  have w1 := q2.s0 (k := 41) (z := 41) (x := a / 16) rfl (by decide)
  have w2 := w1.s0 (k := 42) (z := 42) (x := a % 16) rfl (by decide)
  have fw : Fr (inM m) s1 (setI (setI s1 m 41 (v (a / 16))) m 42 (v (a % 16))) := (Fr.si ⟨by omega, by omega⟩).tr (Fr.si ⟨by omega, by omega⟩)
  have kw : AF (fun j z => j = 0 ∧ (z = 41 ∨ z = 42)) A1 (pu (pu A1 0 41 (a / 16)) 0 42 (a % 16)) := (AF.pu ⟨rfl, Or.inl rfl⟩).tr (AF.pu ⟨rfl, Or.inr rfl⟩)
  have hKw : KptM (pu (pu A1 0 41 (a / 16)) 0 42 (a % 16)) a := Or.inr ⟨by omega, by omega, rfl, rfl⟩
  have e2w : (pu (pu A1 0 41 (a / 16)) 0 42 (a % 16)) 2 = A 2 := funext (fun z => by rw [kw 2 z (by omega), q3 2 z (by omega)])
  have hEw : MkE (pu (pu A1 0 41 (a / 16)) 0 42 (a % 16)) o V a P := hE.gen (by rw [kw 0 19 (by omega), q3 0 19 (by omega)]) hKw (fun z _ => by rw [e2w]) (by rw [e2w]; exact hE.1)
  obtain ⟨s2, A2, r1, r2, r3, r4, r5⟩ := m_allLeave w2 hEw.1 hKw hG hr
  obtain ⟨-, gT, kT⟩ := takeP_I hG hr
  have hE2 := hEw.pg r4 r3
  have hb2 : BrM A2 R n := ⟨by rw [r4 0 44 (by omega), kw 0 44 (by omega), q3 0 44 (by omega)]; exact hb.1, fun z z0 z1 => by rw [r4 22 z (by omega), kw 22 z (by omega), q3 22 z (by omega)]; exact hb.2 z z0 z1⟩
  obtain ⟨s3, A3, P', t1, t2, t3, t4, t5, t6⟩ := m_rewrite r2 hE2 hb2 hn hRb gT kT ha
  have hE3 := hE2.pg t5 t3
  obtain ⟨y1, y2⟩ := anewT_P (o := o) (V := V) (R := R) (n := n) (a := a) (P := P)
  have yr := anewT_r (o := o) (V := V) (R := R) (n := n) (a := a) (T := takeP P a a)
  rw [y1, y2]
  generalize hres : anewT o V R n a (takeP P a a) = res at *
  obtain ⟨how, PT⟩ := res
  simp only [] at t1 t4 yr ⊢
  -- kept no more
  have x1 := t2.s0 (k := 41) (z := 41) (x := -1) rfl (by decide)
  have x2 := x1.s0 (k := 42) (z := 42) (x := -1) rfl (by decide)
  have fx : Fr (inM m) s3 (setI (setI s3 m 41 (v (-1))) m 42 (v (-1))) := (Fr.si ⟨by omega, by omega⟩).tr (Fr.si ⟨by omega, by omega⟩)
  have kx : AF (fun j z => j = 0 ∧ (z = 41 ∨ z = 42)) A3 (pu (pu A3 0 41 (-1)) 0 42 (-1)) := (AF.pu ⟨rfl, Or.inl rfl⟩).tr (AF.pu ⟨rfl, Or.inr rfl⟩)
  have hKx : KptM (pu (pu A3 0 41 (-1)) 0 42 (-1)) (-1) := Or.inl ⟨rfl, rfl, rfl⟩
  have e2x : (pu (pu A3 0 41 (-1)) 0 42 (-1)) 2 = A3 2 := funext (fun z => kx 2 z (by omega))
  have hEx : MkE (pu (pu A3 0 41 (-1)) 0 42 (-1)) o V (-1) P' := hE3.gen (kx 0 19 (by omega)) hKx (fun z _ => by rw [e2x]) (by rw [e2x]; exact t3)
  have far5 : ∀ z, (pu (pu A3 0 41 (-1)) 0 42 (-1)) 5 z = A1 5 z := fun z => by rw [kx 5 z (by omega), t5 5 z (by omega), r4 5 z (by omega), kw 5 z (by omega)]
  have far6 : ∀ z, (pu (pu A3 0 41 (-1)) 0 42 (-1)) 6 z = A1 6 z := fun z => by rw [kx 6 z (by omega), t5 6 z (by omega), r4 6 z (by omega), kw 6 z (by omega)]
  have far8 : (pu (pu A3 0 41 (-1)) 0 42 (-1)) 0 8 = A1 0 8 := by rw [kx 0 8 (by omega), t5 0 8 (by omega), r4 0 8 (by omega), kw 0 8 (by omega)]
  have hUx : PgM (Un (pu (pu A3 0 41 (-1)) 0 42 (-1)) 18) P := (q4 P hE.1).cg (fun z z0 z1 => far5 _)
  have hLx : LogM (pu (pu A3 0 41 (-1)) 0 42 (-1)) L := (hLg.gen (A' := A1) (fun z z0 z1 => q3 5 z (by omega)) (fun z z0 z1 => q3 6 z (by omega)) (q3 0 8 (by omega))).gen (fun z _ _ => far5 z) (fun z _ _ => far6 z) far8
  have kk : ∀ B C : MA, AF (fun j z => j = 0 ∧ (z = 41 ∨ z = 42)) B C → AF scrX B C := fun B C hh => hh.mo (fun j z hj => Or.inr (Or.inr hj))
  have hAx : AF scrX A (pu (pu A3 0 41 (-1)) 0 42 (-1)) := ((((scrU_X q3).tr (kk _ _ kw)).tr (scrP_X r4)).tr (scrP_X t5)).tr (kk _ _ kx)
  have hFx : Fr (inM m) s (setI (setI s3 m 41 (v (-1))) m 42 (v (-1))) := (((q5.tr fw).tr r5).tr t6).tr fx
  have h49 : ∃ s' A', b_M_rewriteNow_49 m (v how) s3 = some (v (if how = -1 then -5 else how), s') ∧ MR s' m A' ∧ MkE A' o V (-1) (if how = -1 then P else PT) ∧ LogM A' (if how = -1 then L else pushL L (1, P)) ∧ AF scrX A A' ∧ Fr (inM m) s s' := by
    unfold b_M_rewriteNow_49
    rw [if_pos t2.t, nv1, v_neg, show nI 18 = v 18 from rfl]
    by_cases e : how = -1
    · obtain ⟨s4, A4, u1, u2, u3, u4, u5⟩ := m_putBack (c := 18) x2 (by decide)
      rw [if_pos (peq e), u1, Option.bind_some, if_pos e, if_pos e, if_pos e, nv5, v_neg]
      exact ⟨s4, A4, rfl, u2, hEx.pg (scrQ_P u3) (u4 P hUx), hLx.gen (fun z z0 z1 => u3 5 z (by omega)) (fun z z0 z1 => u3 6 z (by omega)) (u3 0 8 (by omega)), hAx.tr (scrP_X (scrQ_P u3)), hFx.tr u5⟩
    · obtain ⟨s4, A4, u1, u2, u3, u4, u5⟩ := m_remember (sort := 1) x2 hLx hUx
      rw [if_neg (pne (by omega)), u1, Option.bind_some, if_neg e, if_neg e, if_neg e]
      refine ⟨s4, A4, rfl, u2, ?_, u3, hAx.tr (scrL_X u4), hFx.tr u5⟩
      rw [t4 e] at t3
      exact hEx.gen (u4 0 19 (by omega)) (hKx.fr (u4 0 41 (by omega)) (u4 0 42 (by omega))) (fun z _ => u4 2 z (by omega)) (by rw [show A4 2 = A3 2 from funext (fun z => by rw [u4 2 z (by omega), e2x])]; exact t3)
  have h44 := r2.i44
  rw [hb2.1] at h44
  unfold f_M_rewriteNow
  rw [if_pos h.t, show nI 18 = v 18 from rfl, q1, Option.bind_some, if_pos (show ¬ nI 16 = nI 0 by decide), if_pos q2.t, nv16, v_div (by omega) (by omega), v_mul, v_sub, show a - a / 16 * 16 = a % 16 by omega, r1, Option.bind_some, if_pos r2.t, h44, show nI 40 = v 40 from rfl]
  by_cases c40 : 40 < n
  · rw [if_pos c40] at t1
    rw [if_pos (plt (by omega)), t1, Option.bind_some]
    exact h49
  · rw [if_neg c40] at t1
    rw [if_neg (nlt (by omega)), t1, Option.bind_some]
    exact h49
theorem m_dropNow (h : MR s m A) (hE : MkE A o V (-1) P) (hLg : LogM A L) (hH : PgH P) {a : Int} (ha : r32 a) :
    ∃ s' A', f_M_dropNow s m (v a) = some (v (if recP P a then sizeP P a else -2), s') ∧ MR s' m A' ∧ MkE A' o V (-1) (if recP P a then takeP P a (-1) else P) ∧ LogM A' (if recP P a then pushL L (2, P) else L) ∧ AF scrX A A' ∧ Fr (inM m) s s' := by
  obtain ⟨hG, wt, hw⟩ := hH
  have hG' := hG
  obtain ⟨hI, rk, hL⟩ := hG
  have hrc := m_isRecord h hE.1 hI.1 ha
  unfold f_M_dropNow
  rw [if_pos h.t, hrc, Option.bind_some]
  by_cases c : recP P a
  · obtain ⟨s1, A1, q1, q2, q3, q4, q5⟩ := m_keepAll (c := 18) h (by decide)
    have e2 : A1 2 = A 2 := funext (fun z => q3 2 z (by omega))
    have hP1 : PgM (A1 2) P := by rw [e2]; exact hE.1
    have hK1 : KptM A1 (-1) := hE.2.2.1.fr (q3 0 41 (by omega)) (q3 0 42 (by omega))
    have hE1 : MkE A1 o V (-1) P := hE.gen (q3 0 19 (by omega)) hK1 (fun z _ => by rw [e2]) hP1
    obtain ⟨s2, A2, r1, r2, r3, r4, r5⟩ := m_allLeave q2 hP1 hK1 hG' c
    have hE2 := hE1.pg r4 r3
    have hU2 : PgM (Un A2 18) P := (q4 P hE.1).cg (fun z z0 z1 => r4 5 _ (by omega))
    have hL2 : LogM A2 L := (hLg.gen (A' := A1) (fun z z0 z1 => q3 5 z (by omega)) (fun z z0 z1 => q3 6 z (by omega)) (q3 0 8 (by omega))).gen (fun z z0 z1 => r4 5 z (by omega)) (fun z z0 z1 => r4 6 z (by omega)) (r4 0 8 (by omega))
    obtain ⟨s3, A3, u1, u2, u3, u4, u5⟩ := m_remember (sort := 2) r2 hL2 hU2
    rw [bi_t c, if_neg (show ¬ v 1 = nI 0 by decide), show nI 18 = v 18 from rfl, q1, Option.bind_some, if_pos q2.t, m_lengthOf q2 hP1 hI hL hw c, Option.bind_some, r1, Option.bind_some, if_pos r2.t, nv2, u1, Option.bind_some, if_pos c, if_pos c, if_pos c]
    refine ⟨s3, A3, rfl, u2, ?_, u3, ((scrU_X q3).tr (scrP_X r4)).tr (scrL_X u4), (q5.tr r5).tr u5⟩
    exact hE2.gen (u4 0 19 (by omega)) (hE2.2.2.1.fr (u4 0 41 (by omega)) (u4 0 42 (by omega))) (fun z _ => u4 2 z (by omega)) (by rw [show A3 2 = A2 2 from funext (fun z => u4 2 z (by omega))]; exact r3)
  · rw [bi_f c, if_pos (show v 0 = nI 0 by rfl), if_neg c, if_neg c, if_neg c, nv2, v_neg]
    exact ⟨s, A, rfl, h, hE, hLg, AF.rf _ _, Fr.rf _ _⟩
theorem m_packNow (h : MR s m A) (hE : MkE A o V (-1) P) (hLg : LogM A L) (hI : PgI P) {p : Int} (hp : r32 p) :
    ∃ s' A', f_M_packNow s m (v p) = some (v (if 0 ≤ p ∧ p < 8 then wasteP P p else -1), s') ∧ MR s' m A' ∧ MkE A' o V (-1) (if 0 ≤ p ∧ p < 8 then packP P p else P) ∧ LogM A' (if 0 ≤ p ∧ p < 8 then pushL L (3, P) else L) ∧ AF scrX A A' ∧ Fr (inM m) s s' := by
  unfold f_M_packNow
  rw [m_isPage hp, Option.bind_some]
  by_cases c : 0 ≤ p ∧ p < 8
  · obtain ⟨s1, A1, q1, q2, q3, q4, q5⟩ := m_keepAll (c := 18) h (by decide)
    have e2 : A1 2 = A 2 := funext (fun z => q3 2 z (by omega))
    have hP1 : PgM (A1 2) P := by rw [e2]; exact hE.1
    have hE1 : MkE A1 o V (-1) P := hE.gen (q3 0 19 (by omega)) (hE.2.2.1.fr (q3 0 41 (by omega)) (q3 0 42 (by omega))) (fun z _ => by rw [e2]) hP1
    obtain ⟨s2, A2, r1, r2, r3, r4, r5⟩ := m_packIt q2 hP1 hI c
    have hE2 := hE1.pg r4 r3
    have hU2 : PgM (Un A2 18) P := (q4 P hE.1).cg (fun z z0 z1 => r4 5 _ (by omega))
    have hL2 : LogM A2 L := (hLg.gen (A' := A1) (fun z z0 z1 => q3 5 z (by omega)) (fun z z0 z1 => q3 6 z (by omega)) (q3 0 8 (by omega))).gen (fun z z0 z1 => r4 5 z (by omega)) (fun z z0 z1 => r4 6 z (by omega)) (r4 0 8 (by omega))
    obtain ⟨s3, A3, u1, u2, u3, u4, u5⟩ := m_remember (sort := 3) r2 hL2 hU2
    rw [bi_t c, if_neg (show ¬ v 1 = nI 0 by decide), if_pos h.t, show nI 18 = v 18 from rfl, q1, Option.bind_some, if_pos q2.t, m_wasteOf q2 hP1 hI.1 c, Option.bind_some, r1, Option.bind_some, if_pos r2.t, nv3, u1, Option.bind_some, if_pos c, if_pos c, if_pos c]
    refine ⟨s3, A3, rfl, u2, ?_, u3, ((scrU_X q3).tr (scrP_X r4)).tr (scrL_X u4), (q5.tr r5).tr u5⟩
    exact hE2.gen (u4 0 19 (by omega)) (hE2.2.2.1.fr (u4 0 41 (by omega)) (u4 0 42 (by omega))) (fun z _ => u4 2 z (by omega)) (by rw [show A3 2 = A2 2 from funext (fun z => u4 2 z (by omega))]; exact r3)
  · rw [bi_f c, if_pos (show v 0 = nI 0 by rfl), if_neg c, if_neg c, if_neg c, nv1, v_neg]
    exact ⟨s, A, rfl, h, hE, hLg, AF.rf _ _, Fr.rf _ _⟩
theorem m_mendL {P0 : PG} : ∀ (k n : Nat) (p c : Int) (P : PG) (s : AS) (A A0 : MA), p + k = 8 → 0 ≤ p → k < n → 0 ≤ c ∧ c ≤ 1000 + p → MR s m A → AF scrP A0 A → PgM (A 2) P → PgG P → (∀ q, p ≤ q → P 4 q = P0 4 q) → PgB P0 →
    ∃ s' A', l_M_mendNow_10 n m (v c) (v p) s = ((f_M_rememberTried s' m (v 4)).bind fun r => some (v (mendL P0 k p c P).1, r)) ∧ MR s' m A' ∧ AF scrP A0 A' ∧ PgM (A' 2) (mendL P0 k p c P).2 ∧ Fr (inM m) s s' := by
  intro k
  induction k with
  | zero =>
    intro n p c P s A A0 hp h0 hn hc h ha hP hG h4 hB0
    obtain ⟨n, rfl⟩ : ∃ m, n = m + 1 := ⟨n - 1, by omega⟩
    refine ⟨s, A, ?_, h, ha, hP, Fr.rf _ _⟩
    show b_M_mendNow_10 _ _ _ _ _ = _
    unfold b_M_mendNow_10
    rw [nv8, if_neg (nlt (by omega)), if_pos h.t, nv4]
    rfl
  | succ k ih =>
    intro n p c P s A A0 hp h0 hn hc h ha hP hG h4 hB0
    obtain ⟨n, rfl⟩ : ∃ m, n = m + 1 := ⟨n - 1, by omega⟩
    have hI := hG.1
    have hpp : 0 ≤ p ∧ p < 8 := by omega
    obtain ⟨s1, A1, q1, q2, q3, q4, q5⟩ := m_promise (p := p) h hP hI.1 hpp (hI.2.2.1 p hpp)
    have q4' : AF scrP A A1 := q4.mo (fun j z hj => Or.inr (Or.inr (by omega)))
    have r0 := h.a3 (5 + 102 * p + 1) (by omega)
    rw [hP.2.1 p hpp, h4 p (Int.le_refl _)] at r0
    have r1 := q2.a3 (5 + 102 * p + 1) (by omega)
    rw [q3.2.1 p hpp] at r1
    have hGp := prom_G hG hpp
    have b1 := (hGp.1.1.1.2 p).2.2.2.2.1
    have b2 := (hB0.2 p).2.2.2.2.1
    have h4' : ∀ q, p + 1 ≤ q → promP P p 4 q = P0 4 q := fun q hq => by
      unfold promP
      rw [pu_ne _ _ _ _ (by omega)]
      exact h4 q (by omega)
    show ∃ s' A', b_M_mendNow_10 _ _ _ _ _ = _ ∧ _
    unfold b_M_mendNow_10 mendL
    rw [nv8, if_pos (plt (by omega)), if_pos h.t, m_pageAt, Option.bind_some, h.r3, h.t3, h.n3, nv1, v_add, if_pos ⟨rfl, v_inA (by omega) (by omega)⟩, q1, Option.bind_some, if_pos q2.t, m_pageAt, Option.bind_some, q2.r3, q2.t3, q2.n3, v_add, if_pos ⟨rfl, v_inA (by omega) (by omega)⟩, v_ix (by omega), r0, r1, nv0]
    by_cases e : promP P p 4 p = P0 4 p
    · rw [if_pos (peq e.symm), if_pos e, v_add, v_add, Int.add_zero]
      obtain ⟨s', A', u1, u2, u3, u4, u5⟩ := ih n (p + 1) c _ s1 A1 A0 (by omega) (by omega) (by omega) (by omega) q2 (ha.tr q4') q3 hGp h4' hB0
      exact ⟨s', A', u1, u2, u3, u4, q5.tr u5⟩
    · rw [if_neg (pne ⟨by omega, fun c => e c.symm⟩), if_neg e, v_add, v_add]
      obtain ⟨s', A', u1, u2, u3, u4, u5⟩ := ih n (p + 1) (c + 1) _ s1 A1 A0 (by omega) (by omega) (by omega) (by omega) q2 (ha.tr q4') q3 hGp h4' hB0
      exact ⟨s', A', u1, u2, u3, u4, q5.tr u5⟩
theorem m_mendNow (h : MR s m A) (hE : MkE A o V (-1) P) (hLg : LogM A L) (hG : PgG P) :
    ∃ s' A', f_M_mendNow s m = some (v (mendP P).1, s') ∧ MR s' m A' ∧ MkE A' o V (-1) (mendP P).2 ∧ LogM A' (pushL L (4, P)) ∧ AF scrX A A' ∧ Fr (inM m) s s' := by
  obtain ⟨s1, A1, q1, q2, q3, q4, q5⟩ := m_keepAll (c := 18) h (by decide)
  have e2 : A1 2 = A 2 := funext (fun z => q3 2 z (by omega))
  have hP1 : PgM (A1 2) P := by rw [e2]; exact hE.1
  have hE1 : MkE A1 o V (-1) P := hE.gen (q3 0 19 (by omega)) (hE.2.2.1.fr (q3 0 41 (by omega)) (q3 0 42 (by omega))) (fun z _ => by rw [e2]) hP1
  obtain ⟨s2, A2, r1, r2, r4, r3, r5⟩ := m_mendL (P0 := P) 8 fuel 0 0 P s1 A1 A1 (by omega) (by omega) (by unfold fuel; omega) (by omega) q2 (AF.rf _ _) hP1 hG (fun _ _ => rfl) hG.1.1.1
  have hE2 := hE1.pg r4 r3
  have hU2 : PgM (Un A2 18) P := (q4 P hE.1).cg (fun z z0 z1 => r4 5 _ (by omega))
  have hL2 : LogM A2 L := (hLg.gen (A' := A1) (fun z z0 z1 => q3 5 z (by omega)) (fun z z0 z1 => q3 6 z (by omega)) (q3 0 8 (by omega))).gen (fun z z0 z1 => r4 5 z (by omega)) (fun z z0 z1 => r4 6 z (by omega)) (r4 0 8 (by omega))
  obtain ⟨s3, A3, u1, u2, u3, u4, u5⟩ := m_remember (sort := 4) r2 hL2 hU2
  refine ⟨s3, A3, ?_, u2, ?_, u3, ((scrU_X q3).tr (scrP_X r4)).tr (scrL_X u4), (q5.tr r5).tr u5⟩
  · unfold f_M_mendNow
    rw [if_pos h.t, show nI 18 = v 18 from rfl, q1, Option.bind_some, nv0, r1, u1]
    rfl
  · exact hE2.gen (u4 0 19 (by omega)) (hE2.2.2.1.fr (u4 0 41 (by omega)) (u4 0 42 (by omega))) (fun z _ => u4 2 z (by omega)) (by rw [show A3 2 = A2 2 from funext (fun z => u4 2 z (by omega))]; exact r3)
end MNW
