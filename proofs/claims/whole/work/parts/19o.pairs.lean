/-! PAIRS: put, rewrite, drop, pack, mend, undo -/
theorem tl_0 {ms : Int → Int} {x : Int} (h : 0 ≤ x) : tl ms x = msT ms := if_neg (by omega)
theorem tl_n {ms : Int → Int} {x : Int} (h : x < 0) : tl ms x = msR ms x := if_pos h
def putR (se : ST1) (tp : (Int → Int) × Int) (P : PG) : Int × PG := bringP (lwF se) se.1 tp.1 tp.2 P
def putA (se : ST1) (tp : (Int → Int) × Int) (P : PG) : Int := if 200 < tp.2 then -6 else if (putR se tp P).1 = -1 then -5 else (putR se tp P).1
def putP (se : ST1) (tp : (Int → Int) × Int) (P : PG) : PG := if 200 < tp.2 then P else (putR se tp P).2
def putL (se : ST1) (tp : (Int → Int) × Int) (P : PG) (LG : LGS) : LGS := if 200 < tp.2 then LG else if (putR se tp P).1 = -1 then LG else pushL LG (0, P)
def rewR (se : ST1) (tp : (Int → Int) × Int) (P : PG) (a : Int) : Int × PG := anewP (lwF se) se.1 tp.1 tp.2 a P
def rewA (se : ST1) (tp : (Int → Int) × Int) (P : PG) (a : Int) : Int := if recP P a then (if 200 < tp.2 then -6 else if (rewR se tp P a).1 = -1 then -5 else (rewR se tp P a).1) else -2
def rewP (se : ST1) (tp : (Int → Int) × Int) (P : PG) (a : Int) : PG := if recP P a then (if 200 < tp.2 then P else (rewR se tp P a).2) else P
def rewL (se : ST1) (tp : (Int → Int) × Int) (P : PG) (a : Int) (LG : LGS) : LGS := if recP P a then (if 200 < tp.2 then LG else if (rewR se tp P a).1 = -1 then LG else pushL LG (1, P)) else LG
section PGV
variable {s : AS} {D : DYN} {tp : (Int → Int) × Int} {se : ST1} {P P' Bf : PG} {LG : LGS} {IM : Nat → IMG} {ms : Int → Int} {vw : (Int → Int) × Int} {dr : DRW} {A : MA} {cn : Nat} {kind : Int}
theorem TpB.rec (h : TpB tp) : RecB tp.1 tp.2 := fun z _ _ => h.2 z
theorem RepD.dkt (h : RepD s D tp se P LG IM ms vw dr cn) (hw : WfT se) : ∃ Bf, DkT s 21 18 15 (lwF se) se.1 P Bf := DkT_of (Or.inl rfl) h.2.2.2.2.2.2.2.2.1 h.2.2.2.2.2.2.1 h.2.2.2.2.2.2.2.1 hw h.dl
theorem RepD.dk {s' : AS} (h : RepD s D tp se P LG IM ms vw dr cn) (k : DkT s' 21 18 15 (lwF se) se.1 P' Bf) (f : Fr (inD 21 15) s s') : RepD s' D tp se P' LG IM ms vw dr cn ∧ PgR s' 29 Bf ∧ GrM s s' := by
  obtain ⟨k1, k2⟩ := k.parts
  exact ⟨h.u_lv (f.mo (fun q hq => by rcases hq with e | e | e; exact Or.inl ⟨e.1, e.2⟩; exact Or.inr (Or.inl e); exact Or.inr (Or.inr e))) k1 k2, k.bef, f.grM (fun q hq => by rcases hq with e | e | e; have := e.2; omega; omega; omega)⟩
theorem RepD.lv3 (h : RepD s D tp se P LG IM ms vw dr cn) : sR s 21 3 = 29 := h.2.2.2.2.2.2.2.2.1.1.2.1.2.2.2.1
theorem RepD.tp0 (h : RepD s D tp se P LG IM ms vw dr cn) : RepD (setI s 2 1 (v 0)) D (tp.1, 0) se P LG IM ms vw dr cn ∧ GrM s (setI s 2 1 (v 0)) ∧ ∀ Q, PgR s 29 Q → PgR (setI s 2 1 (v 0)) 29 Q := by
  have f1 : Fr (fun q => q = 2 ∨ q = 3) s (setI s 2 1 (v 0)) := Fr.si (Or.inl rfl)
  exact ⟨h.u_tp (tp' := (tp.1, 0)) f1 h.2.2.1.len0, f1.grM (fun q hq => by omega), fun Q hQ => hQ.fr f1 (fun i h1 h2 => by omega)⟩
theorem CO.pushed {s0 : AS} (h : RepD s D tp se P LG IM ms vw dr cn) (g : GrM s0 s) (hb : PgR s 29 Bf) (h16 : LG.length ≤ 16) {a : Int} : CO s0 ((f_Log_push s 57 (v kind) 29).bind fun r => if sT r 1 = 1 then (f_C_told r 1 (v a)).bind fun r4 => some (r4.1, r4.2) else none) a tp se P (pushL LG (kind, Bf)) IM (msT ms) vw dr cn := by
  obtain ⟨s1, D1, q1, q2, q3⟩ := c_push (kind := kind) h hb h16
  rw [q1, Option.bind_some, if_pos q2.1.1]
  exact CO.told q2 (g.tr q3)
theorem c_put (h : RepD s D tp se P LG IM ms vw dr cn) (hT : TpB tp) (hw : WfT se) (hH : PgH P) (h16 : LG.length ≤ 16) : CO s (f_C_put s 1) (putA se tp P) (tp.1, 0) se (putP se tp P) (putL se tp P LG) IM (tl ms (putA se tp P)) vw dr cn := by
  have hn := hT.1
  obtain ⟨o1, o2, o3, o4, o5⟩ := h.lv
  obtain ⟨t1, t2, t3, t4⟩ := h.tp2
  unfold f_C_put b_C_put_18 putA putP putL
  rw [if_pos o1, t1, if_pos t2, t3, nv200, nv0, nv1, v_neg]
  by_cases c : 200 < tp.2
  · rw [if_pos (plt (by omega)), if_pos rfl, if_pos c, if_pos c, if_pos c, tl_n (by decide)]
    obtain ⟨h1, g1, -⟩ := h.tp0
    unfold b_C_put_38
    rw [if_pos o1, t1, if_pos t2, nv0, if_pos rfl, nv6, v_neg]
    exact CO.refu h1 g1 (by decide)
  · obtain ⟨Bf, hk⟩ := h.dkt hw
    obtain ⟨s1, q1, q2, q3⟩ := s_bring hk hH.1 t4 ⟨by show ¬ ((21 ≤ 2 ∧ 2 ≤ 21 + 17) ∨ 2 = 15 + 1 ∨ 2 = 15 + 2); omega, by show ¬ ((21 ≤ 2 + 1 ∧ 2 + 1 ≤ 21 + 17) ∨ 2 + 1 = 15 + 1 ∨ 2 + 1 = 15 + 2); omega⟩ (by omega) (by omega) hT.rec
    obtain ⟨h1, hb1, g1⟩ := h.dk q2 q3
    obtain ⟨h2, g2, e2⟩ := h1.tp0
    obtain ⟨p1, p2, p3, p4, p5⟩ := h1.lv
    obtain ⟨u1, u2, u3, u4⟩ := h1.tp2
    have hr := bring_r (o := lwF se) (V := se.1) (P := P) hH.1 hT.rec (by omega)
    rw [if_neg (nlt (by omega)), if_neg (show ¬ v 1 = v 0 by decide), if_pos o1, o2, if_pos o3, q1, Option.bind_some, if_neg c, if_neg c, if_neg c]
    unfold b_C_put_38
    rw [if_pos p1, u1, if_pos u2, nv0, nv1, nv5, if_neg (show ¬ v 1 = v 0 by decide), v_neg, v_neg]
    by_cases e : (putR se tp P).1 = -1
    · rw [if_pos (peq (show (bringP (lwF se) se.1 tp.1 tp.2 P).1 = -1 from e)), if_pos e, if_pos e, tl_n (by decide)]
      exact CO.refu h2 (g1.tr g2) (by decide)
    · rw [if_neg (pne (show (r32 (bringP (lwF se) se.1 tp.1 tp.2 P).1 ∧ _) ∧ ¬ (bringP (lwF se) se.1 tp.1 tp.2 P).1 = -1 from ⟨by omega, e⟩)), if_neg e, if_neg e, p2, if_pos p3, h1.lg57.1, if_pos h1.lg57.2.1, h1.lv3]
      have hr0 : 0 ≤ (putR se tp P).1 := by rcases hr with d | d; exact absurd d e; exact d.1
      rw [tl_0 hr0]
      exact CO.pushed h2 (g1.tr g2) (e2 _ hb1) h16
theorem c_rewrite (h : RepD s D tp se P LG IM ms vw dr cn) (hT : TpB tp) (hw : WfT se) (hH : PgH P) (h16 : LG.length ≤ 16) {a : Int} (ha : r32 a) : CO s (f_C_rewrite s 1 (v a)) (rewA se tp P a) (tp.1, 0) se (rewP se tp P a) (rewL se tp P a LG) IM (tl ms (rewA se tp P a)) vw dr cn := by
  have hn := hT.1
  have hB := hH.1.1.1.1
  obtain ⟨o1, o2, o3, o4, o5⟩ := h.lv
  obtain ⟨t1, t2, t3, t4⟩ := h.tp2
  obtain ⟨h0, g0, -⟩ := h.tp0
  unfold f_C_rewrite rewA rewP rewL
  rw [if_pos o1, o2, if_pos o3, o4, if_pos o5.1.1, s_isRecord o5 hB ha, Option.bind_some, t1, if_pos t2, t3, nv200, nv0, nv1]
  unfold b_C_rewrite_30 b_C_rewrite_54
  rw [nv0, nv1, v_neg]
  by_cases r : recP P a
  · rw [bi_t r, if_neg (show ¬ v 1 = v 0 by decide), if_pos r, if_pos r, if_pos r]
    by_cases c : 200 < tp.2
    · rw [if_pos (plt (by omega)), if_pos rfl, if_pos c, if_pos c, if_pos c, tl_n (by decide)]
      unfold b_C_rewrite_55
      rw [if_pos o1, t1, if_pos t2, nv0, if_neg (show ¬ v 1 = v 0 by decide), if_pos rfl, nv6, v_neg]
      exact CO.refu h0 g0 (by decide)
    · obtain ⟨Bf, hk⟩ := h.dkt hw
      obtain ⟨s1, q1, q2, q3⟩ := s_writeAnew hk hH.1 r t4 ⟨by show ¬ ((21 ≤ 2 ∧ 2 ≤ 21 + 17) ∨ 2 = 15 + 1 ∨ 2 = 15 + 2); omega, by show ¬ ((21 ≤ 2 + 1 ∧ 2 + 1 ≤ 21 + 17) ∨ 2 + 1 = 15 + 1 ∨ 2 + 1 = 15 + 2); omega⟩ (by omega) (by omega) hT.rec
      obtain ⟨h1, hb1, g1⟩ := h.dk q2 q3
      obtain ⟨h2, g2, e2⟩ := h1.tp0
      obtain ⟨p1, p2, p3, p4, p5⟩ := h1.lv
      obtain ⟨u1, u2, u3, u4⟩ := h1.tp2
      have hr := anew_r (lwF se) se.1 tp.1 tp.2 a P
      rw [if_neg (nlt (by omega)), if_neg (show ¬ v 1 = v 0 by decide), if_pos o1, o2, if_pos o3, t1, q1, Option.bind_some, if_neg c, if_neg c, if_neg c]
      unfold b_C_rewrite_55
      rw [if_pos p1, u1, if_pos u2, nv0, nv1, nv5, if_neg (show ¬ v 1 = v 0 by decide), if_neg (show ¬ v 1 = v 0 by decide), v_neg, v_neg]
      by_cases e : (rewR se tp P a).1 = -1
      · rw [if_pos (peq (show (anewP (lwF se) se.1 tp.1 tp.2 a P).1 = -1 from e)), if_pos e, if_pos e, tl_n (by decide)]
        exact CO.refu h2 (g1.tr g2) (by decide)
      · rw [if_neg (pne (show (r32 (anewP (lwF se) se.1 tp.1 tp.2 a P).1 ∧ _) ∧ ¬ (anewP (lwF se) se.1 tp.1 tp.2 a P).1 = -1 from ⟨by omega, e⟩)), if_neg e, if_neg e, p2, if_pos p3, h1.lg57.1, if_pos h1.lg57.2.1, h1.lv3]
        have hr0 : 0 ≤ (rewR se tp P a).1 := by
          have : (rewR se tp P a).1 = (anewP (lwF se) se.1 tp.1 tp.2 a P).1 := rfl
          omega
        rw [tl_0 hr0]
        exact CO.pushed h2 (g1.tr g2) (e2 _ hb1) h16
  · rw [bi_f r, if_pos rfl, if_neg r, if_neg r, if_neg r, tl_n (by decide)]
    unfold b_C_rewrite_55
    rw [if_pos o1, t1, if_pos t2, nv0, if_pos rfl, nv2, v_neg]
    exact CO.refu h0 g0 (by decide)
theorem c_drop (h : RepD s D tp se P LG IM ms vw dr cn) (hw : WfT se) (hH : PgH P) (h16 : LG.length ≤ 16) {a : Int} (ha : r32 a) : CO s (f_C_drop s 1 (v a)) (if recP P a then sizeP P a else -2) tp se (if recP P a then takeP P a (-1) else P) (if recP P a then pushL LG (2, P) else LG) IM (tl ms (if recP P a then sizeP P a else -2)) vw dr cn := by
  have hB := hH.1.1.1.1
  obtain ⟨o1, o2, o3, o4, o5⟩ := h.lv
  unfold f_C_drop
  rw [if_pos o1, o2, if_pos o3, o4, if_pos o5.1.1, s_isRecord o5 hB ha, Option.bind_some, nv0, nv2, v_neg]
  by_cases r : recP P a
  · obtain ⟨⟨hI, rk, hL⟩, wt, hwt⟩ := hH
    have hs := size_rec hB hL hwt r
    rw [bi_t r, if_neg (show ¬ v 1 = v 0 by decide), if_pos r, if_pos r, if_pos r, tl_0 hs.1, s_sizeOf o5 hB (by omega), Option.bind_some]
    obtain ⟨Bf, hk⟩ := h.dkt hw
    obtain ⟨s1, q1, q2, q3⟩ := s_takeAway hk hI (a := a) (by omega)
    obtain ⟨h1, hb1, g1⟩ := h.dk q2 q3
    obtain ⟨p1, p2, p3, p4, p5⟩ := h1.lv
    rw [q1, Option.bind_some, if_pos p1, p2, if_pos p3, h1.lg57.1, if_pos h1.lg57.2.1, h1.lv3]
    exact CO.pushed h1 g1 hb1 h16
  · rw [bi_f r, if_pos rfl, if_neg r, if_neg r, if_neg r, tl_n (by decide)]
    exact CO.refu h (GrM.rf s) (by decide)
theorem c_pack (h : RepD s D tp se P LG IM ms vw dr cn) (hw : WfT se) (hH : PgH P) (h16 : LG.length ≤ 16) {p : Int} (hp : r32 p) : CO s (f_C_pack s 1 (v p)) (if 0 ≤ p ∧ p < 8 then wasteP P p else -1) tp se (if 0 ≤ p ∧ p < 8 then packP P p else P) (if 0 ≤ p ∧ p < 8 then pushL LG (3, P) else LG) IM (tl ms (if 0 ≤ p ∧ p < 8 then wasteP P p else -1)) vw dr cn := by
  have hB := hH.1.1.1.1
  obtain ⟨o1, o2, o3, o4, o5⟩ := h.lv
  unfold f_C_pack
  rw [s_isPage hp, Option.bind_some, nv0, nv1, nv3, v_neg]
  by_cases r : 0 ≤ p ∧ p < 8
  · rw [bi_t r, if_neg (show ¬ v 1 = v 0 by decide), if_pos r, if_pos r, if_pos r, tl_0 (waste_nn hH.1.1 r), if_pos o1, o2, if_pos o3, o4, if_pos o5.1.1, s_wasteOf o5 hB r, Option.bind_some]
    obtain ⟨Bf, hk⟩ := h.dkt hw
    obtain ⟨s1, q1, q2, q3⟩ := s_packPage hk hH.1 r
    obtain ⟨h1, hb1, g1⟩ := h.dk q2 q3
    obtain ⟨p1, p2, p3, p4, p5⟩ := h1.lv
    rw [q1, Option.bind_some, if_pos p1, p2, if_pos p3, h1.lg57.1, if_pos h1.lg57.2.1, h1.lv3]
    exact CO.pushed h1 g1 hb1 h16
  · rw [bi_f r, if_pos rfl, if_neg r, if_neg r, if_neg r, tl_n (by decide), if_pos o1]
    exact CO.refu h (GrM.rf s) (by decide)
theorem c_mend (h : RepD s D tp se P LG IM ms vw dr cn) (hw : WfT se) (hH : PgH P) (h16 : LG.length ≤ 16) : CO s (f_C_mend s 1) (mendP P).1 tp se (mendP P).2 (pushL LG (4, P)) IM (tl ms (mendP P).1) vw dr cn := by
  obtain ⟨o1, o2, o3, o4, o5⟩ := h.lv
  have hr : 0 ≤ (mendP P).1 := (mendL_r P 8 0 0 P).1
  unfold f_C_mend
  rw [if_pos o1, o2, if_pos o3, nv4, tl_0 hr]
  obtain ⟨Bf, hk⟩ := h.dkt hw
  obtain ⟨s1, q1, q2, q3⟩ := s_mendAll hk hH.1
  obtain ⟨h1, hb1, g1⟩ := h.dk q2 q3
  obtain ⟨p1, p2, p3, p4, p5⟩ := h1.lv
  rw [q1, Option.bind_some, if_pos p1, p2, if_pos p3, h1.lg57.1, if_pos h1.lg57.2.1, h1.lv3]
  exact CO.pushed h1 g1 hb1 h16
end PGV
