/-! PAIRS: undo; the reference's changes -/
def undA (LG : LGS) : Int := match LG.getLast? with
  | none => -3
  | some x => x.1
def undP (P : PG) (LG : LGS) : PG := match LG.getLast? with
  | none => P
  | some x => x.2
section PGW
variable {s : AS} {D : DYN} {tp : (Int → Int) × Int} {se : ST1} {P P' Bf : PG} {LG : LGS} {IM : Nat → IMG} {ms : Int → Int} {vw : (Int → Int) × Int} {dr : DRW} {A : MA} {cn : Nat} {kind : Int}
theorem DkO.pg {s' : AS} {F : Nat → Prop} (h : DkO s 21 P) (hf : Fr F s s') (hF : ∀ q, 21 ≤ q ∧ q ≤ 38 → F q → 22 < q ∧ q ≤ 28) (hP : PgR s' 22 P') : DkO s' 21 P' := by
  obtain ⟨h1, h2, h3, ⟨Bf, h4⟩, B, len, h5⟩ := h
  exact ⟨h1.st hf.1, by rw [(hf.2 21 (fun d => by have := hF _ (by omega) d; omega)).1]; exact h2, hP, ⟨Bf, h4.fr hf (fun i i1 i2 d => by have := hF _ (by omega) d; omega)⟩, B, len, h5.fr hf (fun d => by have := hF _ (by omega) d; omega) (fun d => by have := hF _ (by omega) d; omega)⟩
theorem c_undo (h : RepD s D tp se P LG IM ms vw dr cn) (hL : LG.length ≤ 16 ∧ ∀ x ∈ LG, PgH x.2 ∧ 0 ≤ x.1 ∧ x.1 ≤ 4) : CO s (f_C_undo s 1) (undA LG) tp se (undP P LG) LG.dropLast IM (tl ms (undA LG)) vw dr cn := by
  obtain ⟨o1, o2, o3, o4, o5⟩ := h.lv
  obtain ⟨g1, g2, g3⟩ := h.lg57
  unfold f_C_undo
  rw [if_pos o1, g1, if_pos g2, g3, nv0, nv3, v_neg, o2, if_pos o3, o4]
  rcases List.eq_nil_or_concat LG with e | ⟨L0, ⟨kd, Q⟩, e⟩
  · subst e
    rw [if_pos (show v ((([] : LGS).length : Nat) : Int) = v 0 from rfl), show tl ms (undA []) = msR ms (-3) from tl_n (by decide)]
    exact CO.refu h (GrM.rf s) (by decide)
  · rw [List.concat_eq_append] at e
    subst e
    have hx := hL.2 (kd, Q) (by simp)
    have ea : undA (L0 ++ [(kd, Q)]) = kd := by unfold undA; rw [List.getLast?_concat]
    have ep : undP P (L0 ++ [(kd, Q)]) = Q := by unfold undP; rw [List.getLast?_concat]
    have hd : ∀ q, D.1.1 q → 106 ≤ q := fun q hq => (h.2.2.2.2.2.2.2.2.2.2.2.2.2.2.2.2.2.1 q (Or.inl hq)).1
    have hlen : (L0 ++ [(kd, Q)]).length = L0.length + 1 := List.length_append
    obtain ⟨s', q1, q2, q3, q4⟩ := s_pull h.2.2.2.2.2.2.2.2.2.2.1 o5.1 (fun j hj => ⟨fun d => by have := hd _ d; omega, by omega⟩)
    rw [if_neg (pne ⟨⟨by omega, by decide⟩, by omega⟩), q1, Option.bind_some, ea, ep, List.dropLast_concat, tl_0 hx.2.1]
    have f1 : Fr (fun q => q = 57 ∨ (21 ≤ q ∧ q ≤ 38)) s s' := q4.mo (fun q hq => by rcases hq with d | d; exact Or.inl d; exact Or.inr ⟨by have := d.1; omega, by have := d.2; omega⟩)
    have h1 := h.u_un f1 (h.2.2.2.2.2.2.2.2.1.pg q4 (fun q hq d => by rcases d with d | d; omega; exact ⟨d.1, by have := d.2; omega⟩) q3) q2
    rw [if_pos h1.1.1]
    exact CO.told h1 (f1.grM (fun q hq => by omega))
theorem RepA.now {A' : MA} {LG' : LGS} (hR : RepA A tp se P LG IM ms vw dr) (hE : MkE A' (lwF se) se.1 (-1) P') (hL : LogM A' LG') (ha : AF scrX A A') : RepA A' tp se P' LG' IM ms vw dr := hR.v_pg (ha.mo (fun j z hj => by omega)) hE.1 hL hE.2.2.1
theorem r_put (h : MR s 78 A) (hR : RepA A tp se P LG IM ms vw dr) (hT : TpB tp) (hw : WfT se) (hH : PgH P) : RO s (f_M_put s 78) (putA se tp P) (tp.1, 0) se (putP se tp P) (putL se tp P LG) IM (tl ms (putA se tp P)) vw dr := by
  have hn := hT.1
  obtain ⟨k1, k2, k3⟩ := r_thr h hR
  obtain ⟨s1, A1, b1, b2, b3, b4, b5, b6⟩ := m_bringTape k1 k2 hT
  have i44 : sI s1 78 44 = v (A1 0 44) := b2.2.1 44 (by decide)
  unfold f_M_put b_M_put_29 putA putP putL
  rw [if_pos h.t, nv0, b1, Option.bind_some, if_pos b2.t, nv200, i44, b4, nv6, v_neg]
  by_cases c : 200 < tp.2
  · rw [if_pos (plt (by omega)), if_pos b2.t, if_pos c, if_pos c, if_pos c]
    exact RO.tell b2 b3 (k3.tr b6) (by decide)
  · obtain ⟨s2, A2, q1, q2, q3, q4, q5, q6⟩ := m_putNow b2 (b3.mk' hw) b3.2.2.2.2.2.1 ⟨b4, fun z z0 z1 => b5 z z0 z1 (by omega)⟩ (by omega) hT.rec hH.1
    have hr := bring_r (o := lwF se) (V := se.1) (P := P) hH.1 hT.rec (by omega)
    rw [if_neg (nlt (by omega)), q1, Option.bind_some, if_pos q2.t, if_neg c, if_neg c, if_neg c]
    exact RO.tell q2 (b3.now q3 q4 q5) ((k3.tr b6).tr q6) (by
      by_cases e : (bringP (lwF se) se.1 tp.1 tp.2 P).1 = -1
      · rw [if_pos e]; decide
      · rw [if_neg e]; omega)
theorem r_rewrite (h : MR s 78 A) (hR : RepA A tp se P LG IM ms vw dr) (hT : TpB tp) (hw : WfT se) (hH : PgH P) {a : Int} (ha : r32 a) : RO s (f_M_rewrite s 78 (v a)) (rewA se tp P a) (tp.1, 0) se (rewP se tp P a) (rewL se tp P a LG) IM (tl ms (rewA se tp P a)) vw dr := by
  have hn := hT.1
  obtain ⟨k1, k2, k3⟩ := r_thr h hR
  obtain ⟨s1, A1, b1, b2, b3, b4, b5, b6⟩ := m_bringTape k1 k2 hT
  have i44 : sI s1 78 44 = v (A1 0 44) := b2.2.1 44 (by decide)
  unfold f_M_rewrite b_M_rewrite_43 rewA rewP rewL
  rw [if_pos h.t, nv0, b1, Option.bind_some, if_pos b2.t, m_isRecord b2 b3.pg hH.1.1.1 ha, Option.bind_some, nv200, i44, b4, nv6, nv2, v_neg, v_neg]
  by_cases r : recP P a
  · rw [bi_t r, if_neg (show ¬ v 1 = v 0 by decide), if_pos r, if_pos r, if_pos r]
    by_cases c : 200 < tp.2
    · rw [if_pos (plt (by omega)), if_pos b2.t, if_pos c, if_pos c, if_pos c]
      exact RO.tell b2 b3 (k3.tr b6) (by decide)
    · obtain ⟨s2, A2, q1, q2, q3, q4, q5, q6⟩ := m_rewriteNow b2 (b3.mk' hw) b3.2.2.2.2.2.1 ⟨b4, fun z z0 z1 => b5 z z0 z1 (by omega)⟩ (by omega) hT.rec hH.1 r
      have hr := anew_r (lwF se) se.1 tp.1 tp.2 a P
      rw [if_neg (nlt (by omega)), q1, Option.bind_some, if_pos q2.t, if_neg c, if_neg c, if_neg c]
      exact RO.tell q2 (b3.now q3 q4 q5) ((k3.tr b6).tr q6) (by
        by_cases e : (anewP (lwF se) se.1 tp.1 tp.2 a P).1 = -1
        · rw [if_pos e]; decide
        · rw [if_neg e]; omega)
  · rw [bi_f r, if_pos rfl, if_pos b2.t, if_neg r, if_neg r, if_neg r]
    exact RO.tell b2 b3 (k3.tr b6) (by decide)
theorem r_drop (h : MR s 78 A) (hR : RepA A tp se P LG IM ms vw dr) (hw : WfT se) (hH : PgH P) {a : Int} (ha : r32 a) : RO s (f_M_drop s 78 (v a)) (if recP P a then sizeP P a else -2) tp se (if recP P a then takeP P a (-1) else P) (if recP P a then pushL LG (2, P) else LG) IM (tl ms (if recP P a then sizeP P a else -2)) vw dr := by
  obtain ⟨k1, k2, k3⟩ := r_thr h hR
  obtain ⟨s2, A2, q1, q2, q3, q4, q5, q6⟩ := m_dropNow k1 (k2.mk' hw) k2.2.2.2.2.2.1 hH ha
  unfold f_M_drop
  rw [if_pos h.t, nv0, q1, Option.bind_some, if_pos q2.t]
  exact RO.tell q2 (k2.now q3 q4 q5) (k3.tr q6) (by
    by_cases r : recP P a
    · obtain ⟨⟨hI, rk, hL⟩, wt, hwt⟩ := hH
      have hs := size_rec hI.1.1 hL hwt r
      rw [if_pos r]; omega
    · rw [if_neg r]; decide)
theorem r_pack (h : MR s 78 A) (hR : RepA A tp se P LG IM ms vw dr) (hw : WfT se) (hH : PgH P) {p : Int} (hp : r32 p) : RO s (f_M_pack s 78 (v p)) (if 0 ≤ p ∧ p < 8 then wasteP P p else -1) tp se (if 0 ≤ p ∧ p < 8 then packP P p else P) (if 0 ≤ p ∧ p < 8 then pushL LG (3, P) else LG) IM (tl ms (if 0 ≤ p ∧ p < 8 then wasteP P p else -1)) vw dr := by
  obtain ⟨k1, k2, k3⟩ := r_thr h hR
  obtain ⟨s2, A2, q1, q2, q3, q4, q5, q6⟩ := m_packNow k1 (k2.mk' hw) k2.2.2.2.2.2.1 hH.1.1 hp
  unfold f_M_pack
  rw [if_pos h.t, nv0, q1, Option.bind_some, if_pos q2.t]
  exact RO.tell q2 (k2.now q3 q4 q5) (k3.tr q6) (by
    by_cases r : 0 ≤ p ∧ p < 8
    · have := waste_nn hH.1.1 r
      have := wasteP_r hH.1.1.1.1 p
      rw [if_pos r]; omega
    · rw [if_neg r]; decide)
theorem r_mend (h : MR s 78 A) (hR : RepA A tp se P LG IM ms vw dr) (hw : WfT se) (hH : PgH P) : RO s (f_M_mend s 78) (mendP P).1 tp se (mendP P).2 (pushL LG (4, P)) IM (tl ms (mendP P).1) vw dr := by
  obtain ⟨k1, k2, k3⟩ := r_thr h hR
  obtain ⟨s2, A2, q1, q2, q3, q4, q5, q6⟩ := m_mendNow k1 (k2.mk' hw) k2.2.2.2.2.2.1 hH.1
  unfold f_M_mend
  rw [if_pos h.t, nv0, q1, Option.bind_some, if_pos q2.t]
  have hr := mendL_r P 8 0 0 P
  exact RO.tell q2 (k2.now q3 q4 q5) (k3.tr q6) ⟨by show (mendL P 8 0 0 P).1 < _; omega, Or.inr hr.1⟩
theorem r_undo (h : MR s 78 A) (hR : RepA A tp se P LG IM ms vw dr) (hL : LG.length ≤ 16 ∧ ∀ x ∈ LG, PgH x.2 ∧ 0 ≤ x.1 ∧ x.1 ≤ 4) : RO s (f_M_undo s 78) (undA LG) tp se (undP P LG) LG.dropLast IM (tl ms (undA LG)) vw dr := by
  obtain ⟨k1, k2, k3⟩ := r_thr h hR
  obtain ⟨l1, l2, l3⟩ := k2.2.2.2.2.2.1
  unfold f_M_undo
  rw [if_pos h.t, nv0, nv1, nv3, v_neg, k1.i8, l1]
  rcases List.eq_nil_or_concat LG with e | ⟨L0, ⟨kd, Q⟩, e⟩
  · subst e
    rw [if_pos (show v ((([] : LGS).length : Nat) : Int) = v 0 from rfl)]
    exact RO.tell k1 k2 k3 (by decide)
  · rw [List.concat_eq_append] at e
    subst e
    have hx := hL.2 (kd, Q) (by simp)
    have ea : undA (L0 ++ [(kd, Q)]) = kd := by unfold undA; rw [List.getLast?_concat]
    have ep : undP P (L0 ++ [(kd, Q)]) = Q := by unfold undP; rw [List.getLast?_concat]
    have hlen : (L0 ++ [(kd, Q)]).length = L0.length + 1 := List.length_append
    have m1 := k1.s0 (x := L0.length) (k := 8) (z := 8) rfl (by decide)
    have e8 : pu (pu A 0 0 0) 0 8 (L0.length : Int) 0 8 = L0.length := pu_eq _ _ _ _
    have hlast : (L0 ++ [(kd, Q)])[L0.length]? = some (kd, Q) := by simp
    obtain ⟨x1, x2⟩ := l3 L0.length (kd, Q) hlast
    obtain ⟨s2, A2, q1, q2, q3, q4, q5⟩ := m_putBack (c := (L0.length : Int)) m1 (by omega)
    have hQ : PgM (A2 2) Q := q4 Q x2
    have e82 : A2 0 8 = L0.length := by rw [q3 0 8 (by omega)]; exact e8
    have e62 : A2 6 (L0.length : Int) = kd := by rw [q3 6 _ (by omega), pu_row _ _ _ _ (by decide)]; exact x1
    have hlog : LogM A2 L0 := by
      refine ⟨e82, by omega, fun i x hi => ?_⟩
      have hi2 : i < L0.length := by
        rcases Nat.lt_or_ge i L0.length with d | d
        · exact d
        · rw [List.getElem?_eq_none d] at hi; exact absurd hi (by simp)
      obtain ⟨y1, y2⟩ := l3 i x (by rw [List.getElem?_append_left hi2]; exact hi)
      refine ⟨by rw [q3 6 _ (by omega), pu_row _ _ _ _ (by decide)]; exact y1, ?_⟩
      have : Un A2 i = Un (pu A 0 0 0) i := by
        funext z
        unfold Un
        rw [q3 5 _ (by omega), pu_row _ _ _ _ (by decide)]
      rw [this]
      exact y2
    rw [if_neg (pne ⟨⟨by omega, by decide⟩, by omega⟩), v_sub, show (((L0 ++ [(kd, Q)]).length : Nat) : Int) - 1 = L0.length by omega, m1.i8, e8, q1, Option.bind_some, if_pos q2.t, q2.r7, q2.t7, q2.n7, q2.i8, e82, if_pos ⟨rfl, v_inA (by omega) (by omega)⟩, v_ix (by omega), q2.a7 _ (by omega), e62, ea, ep, List.dropLast_concat]
    have ha : AF (fun j z => nk j z ∨ (j = 2 ∧ 5 ≤ z ∧ z < 821) ∨ (j = 0 ∧ (z = 8 ∨ z = 41 ∨ z = 42)) ∨ j = 5 ∨ j = 6) (pu A 0 0 0) A2 := (AF.pu (Or.inr (Or.inr (Or.inl ⟨rfl, Or.inl rfl⟩)))).tr (q3.mo (fun j z hj => by omega))
    exact RO.tell q2 (k2.v_pg ha hQ hlog (k2.2.2.1.2.fr (by rw [q3 0 41 (by omega), pu_ne _ _ _ _ (by omega)]) (by rw [q3 0 42 (by omega), pu_ne _ _ _ _ (by omega)]))) (k3.tr ((Fr.si (by omega)).tr q5)) ⟨by omega, Or.inr hx.2.1⟩
end PGW
