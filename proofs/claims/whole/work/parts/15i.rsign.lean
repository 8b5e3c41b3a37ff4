/-! THE REFERENCE'S READER: its turns; behind a sum -/
def Rch (m : Nat) (tst : Int) (s : AS) (t : Int) (s' : AS) (t' : Int) (k : Nat) : Prop := ∀ N, l_M_readExpression_20 (N + k) m (v tst) (v t) s = l_M_readExpression_20 N m (v tst) (v t') s'
theorem Rch.rf {m : Nat} {tst : Int} {s : AS} {t : Int} : Rch m tst s t s t 0 := fun _ => rfl
theorem Rch.tr {m : Nat} {tst : Int} {a b c : AS} {x y z : Int} {j k : Nat} (h : Rch m tst a x b y j) (g : Rch m tst b y c z k) : Rch m tst a x c z (k + j) := fun N => by
  rw [← Nat.add_assoc, h (N + k), g N]
theorem bndO_sum {op : Int} (h : 20 ≤ op ∧ op ≤ 24) : 5 ≤ bndO op ∧ bndO op ≤ 6 := by
  unfold bndO
  rw [if_neg (by omega), if_neg (by omega), if_neg (by omega), if_neg (by omega), if_neg (by omega)]
  split <;> omega
theorem bndO_oth {op : Int} (h : ¬ (20 ≤ op ∧ op ≤ 24)) (h2 : 20 ≤ op) : bndO op < 5 := by
  unfold bndO
  repeat' split
  all_goals omega
theorem wd_excl {B : Int → Int} {st : STK} {j k : Nat} (hj : j < 18) (hk : k < 18) (hd : ∀ x ∈ wrdZ j, x ∉ wrdZ k) (h : wd B st j ≠ -1) : wd B st k = -1 := by
  rcases wd_r B st k with e | e
  · exact e
  · exfalso
    rcases wd_r B st j with f | f
    · exact h f
    · obtain ⟨a, ha⟩ : ∃ a : Nat, wd B st j = a := ⟨(wd B st j).toNat, by omega⟩
      obtain ⟨b, hb⟩ : ∃ b : Nat, wd B st k = b := ⟨(wd B st k).toNat, by omega⟩
      have hx : (wrdZ j)[a]? = some ((wrdZ j)[a]'(by omega)) := List.getElem?_eq_getElem _
      have hy : (wrdZ k)[b]? = some ((wrdZ k)[b]'(by omega)) := List.getElem?_eq_getElem _
      have h1 := (wd_at hj hx).mp ha
      have h2 := (wd_at hk hy).mp hb
      have h3 := isWd_inj h1 h2
      have m1 := List.mem_of_getElem? hx
      have m2 := List.mem_of_getElem? hy
      rw [← h3] at m2
      exact hd _ m1 m2
def opB (B : Int → Int) (st : STK) : Int := if wd B st 6 ≠ -1 then 22 + wd B st 6 else if wd B st 7 ≠ -1 then 20 + wd B st 7 else -1
section RSG
variable {m : Nat} {B : Int → Int} {n : Int} {ord : Bool} {st : STK} {s : AS} {A : MA} {len rm tst : Int} {L : PIL}
theorem rch_part (h : RfG s m A B n ord st len L rm) {s' : AS} {t' : Int} (hp : f_M_readPart s m = some (v t', s')) : Rch m tst s 1 s' t' 1 := fun N => by
  show b_M_readExpression_20 _ _ _ _ _ = _
  unfold b_M_readExpression_20
  rw [if_pos h.1.t, Rf_bad h, nv0, nv1, nv4, if_pos rfl, if_neg (show ¬ v 1 = v 4 by decide), if_neg (show ¬ v 1 = v 0 by decide), if_pos rfl, hp, Option.bind_some]
theorem rch_plain (h : RfG s m A B n ord st len L rm) {s' : AS} {t' : Int} (hp : f_M_readPlain s m = some (v t', s')) : Rch m tst s 0 s' t' 1 := fun N => by
  show b_M_readExpression_20 _ _ _ _ _ = _
  unfold b_M_readExpression_20
  rw [if_pos h.1.t, Rf_bad h, nv0, nv1, nv4, if_pos rfl, if_neg (show ¬ v 0 = v 4 by decide), if_pos rfl, hp, Option.bind_some]
theorem rch_sum (h : RfG s m A B n ord st len L rm) {s' : AS} {t' : Int} (hp : f_M_behindSum s m (v tst) = some (v t', s')) : Rch m tst s 3 s' t' 1 := fun N => by
  show b_M_readExpression_20 _ _ _ _ _ = _
  unfold b_M_readExpression_20
  rw [if_pos h.1.t, Rf_bad h, nv0, nv1, nv3, nv4, if_pos rfl, if_neg (show ¬ v 3 = v 4 by decide), if_neg (show ¬ v 3 = v 0 by decide), if_neg (show ¬ v 3 = v 1 by decide), if_pos rfl, hp, Option.bind_some]
theorem rch_test (h : RfG s m A B n ord st len L rm) {s' : AS} {t' : Int} (hp : f_M_behindTest s m = some (v t', s')) : Rch m tst s 2 s' t' 1 := fun N => by
  show b_M_readExpression_20 _ _ _ _ _ = _
  unfold b_M_readExpression_20
  rw [if_pos h.1.t, Rf_bad h, nv0, nv1, nv3, nv4, if_pos rfl, if_neg (show ¬ v 2 = v 4 by decide), if_neg (show ¬ v 2 = v 0 by decide), if_neg (show ¬ v 2 = v 1 by decide), if_neg (show ¬ v 2 = v 3 by decide), hp, Option.bind_some]
theorem m_be71 (h : RfG s m A B n ord st len L rm) : f_M_behindSum s m (v tst) = b_M_behindSum_71 m (v tst) (v (opB B st)) s := by
  obtain ⟨h2, h3, h4⟩ := h.2.1
  have e43 : f_M_isSign s m (nI 43) = some (v (bi (wd B st 7 = 0))) := m_sgK h.1 h2 h3 h4 (k := 7) (i := 0) (c := 43) (by decide) rfl (by decide)
  have e45 : f_M_isSign s m (nI 45) = some (v (bi (wd B st 7 = 1))) := m_sgK h.1 h2 h3 h4 (k := 7) (i := 1) (c := 45) (by decide) rfl (by decide)
  have e42 : f_M_isSign s m (nI 42) = some (v (bi (wd B st 6 = 0))) := m_sgK h.1 h2 h3 h4 (k := 6) (i := 0) (c := 42) (by decide) rfl (by decide)
  have e47 : f_M_isSign s m (nI 47) = some (v (bi (wd B st 6 = 1))) := m_sgK h.1 h2 h3 h4 (k := 6) (i := 1) (c := 47) (by decide) rfl (by decide)
  have e37 : f_M_isSign s m (nI 37) = some (v (bi (wd B st 6 = 2))) := m_sgK h.1 h2 h3 h4 (k := 6) (i := 2) (c := 37) (by decide) rfl (by decide)
  have hex := wd_excl (B := B) (st := st) (j := 7) (k := 6) (by decide) (by decide) (by decide)
  have w7 := wd_r B st 7
  have w6 := wd_r B st 6
  have l7 : ((wrdZ 7).length : Int) = 2 := rfl
  have l6 : ((wrdZ 6).length : Int) = 3 := rfl
  unfold f_M_behindSum
  rw [if_pos h.1.t, e43, Option.bind_some, nv0, nv1, v_neg]
  unfold opB
  by_cases c0 : wd B st 7 = 0
  · have h6 := hex (by omega)
    rw [bi_t c0, if_neg (show ¬ v 1 = v 0 by decide), if_neg (fun d => d h6), if_pos (by omega), c0]
    rfl
  · rw [bi_f c0, if_pos rfl, e45, Option.bind_some]
    by_cases c1 : wd B st 7 = 1
    · have h6 := hex (by omega)
      rw [bi_t c1, if_neg (show ¬ v 1 = v 0 by decide), if_neg (fun d => d h6), if_pos (by omega), c1]
      rfl
    · have h7 : wd B st 7 = -1 := by omega
      rw [bi_f c1, if_pos rfl, e42, Option.bind_some]
      by_cases d0 : wd B st 6 = 0
      · rw [bi_t d0, if_neg (show ¬ v 1 = v 0 by decide), if_pos (by omega), d0]
        rfl
      · rw [bi_f d0, if_pos rfl, e47, Option.bind_some]
        by_cases d1 : wd B st 6 = 1
        · rw [bi_t d1, if_neg (show ¬ v 1 = v 0 by decide), if_pos (by omega), d1]
          rfl
        · rw [bi_f d1, if_pos rfl, e37, Option.bind_some]
          by_cases d2 : wd B st 6 = 2
          · rw [bi_t d2, if_neg (show ¬ v 1 = v 0 by decide), if_pos (by omega), d2]
            rfl
          · rw [bi_f d2, if_pos rfl, if_neg (fun d => by omega), if_neg (fun d => d h7)]
theorem opB_r (B : Int → Int) (st : STK) : opB B st = -1 ∨ ((20 ≤ opB B st ∧ opB B st ≤ 24) ∧ st.1 < st.2.1) := by
  have w7 := wd_r B st 7
  have w6 := wd_r B st 6
  have l7 : ((wrdZ 7).length : Int) = 2 := rfl
  have l6 : ((wrdZ 6).length : Int) = 3 := rfl
  unfold opB
  by_cases c : wd B st 6 = -1
  · rw [if_neg (fun d => d c)]
    by_cases d : wd B st 7 = -1
    · rw [if_neg (fun e => e d)]; exact Or.inl rfl
    · rw [if_pos d]; omega
  · rw [if_pos c]; omega
/-- a sign comes -/
theorem m_signStep {X Y : PIL} (h : RfS s m A B n ord st len (X ++ Y)) (hop : opB B st ≠ -1) (hX : ∀ x ∈ X, bndO (opB B st) ≤ bndO x.1) (hY : ∀ y, Y.head? = some y → bndO y.1 < bndO (opB B st)) :
    ∃ s' A', f_M_behindSum s m (v tst) = some (v 1, s') ∧ RfS s' m A' B n ord (nxS B n st) (stl X (A 11, A 12, len)).2.2 ((opB B st, 0) :: Y) ∧ A' 11 = (stl X (A 11, A 12, len)).1 ∧ A' 12 = (stl X (A 11, A 12, len)).2.1 ∧ AF scrR A A' ∧ Fr (inM m) s s' := by
  have hr := opB_r B st
  have hst : 0 ≤ st.1 ∧ st.1 ≤ st.2.1 ∧ st.2.1 ≤ n := h.2.1.2.2.1.1
  have hn := h.2.1.1.2.1
  have hor : (20 ≤ opB B st ∧ opB B st ≤ 24) ∧ st.1 < st.2.1 := by
    rcases hr with e | e
    · exact absurd e hop
    · exact e
  have hb := bndO_sum hor.1
  obtain ⟨s1, A1, q1, q2, q3, q4, q5, q6⟩ := m_settleG h (by omega) (by omega) hX hY
  obtain ⟨s2, A2, p1, p2, p3, p4, p5, p6⟩ := m_pushG (op := opB B st) q2 (by omega) (by omega)
  obtain ⟨s3, A3, g1, g2, g3, g4⟩ := m_next p2
  have hT := nxS_T (B := B) (n := n) h.2.1.2.2.1
  have ge : st.2.1 ≤ (nxS B n st).1 := hT.2.1
  refine ⟨s3, A3, ?_, g2.mo (by omega), by rw [g3.row (j := 11) (fun z => by omega), p3, q3], by rw [g3.row (j := 12) (fun z => by omega), p4, q4], (q5.tr p5).tr (tok_R g3), (q6.tr p6).tr g4⟩
  rw [m_be71 h]
  unfold b_M_behindSum_71
  rw [nv1, v_neg, if_neg (pne (by omega)), m_binds (by omega), Option.bind_some, if_pos h.1.t, q1, Option.bind_some, if_pos q2.1.t, nv0, p1, Option.bind_some, if_pos p2.1.t, g1, Option.bind_some]
/-- a square bracket closes -/
theorem m_closeSq {X Y : PIL} {a : Int} (h : RfS s m A B n ord st len (X ++ (32, a) :: Y)) (hop : opB B st = -1) (hX : sumOps X) :
    ∃ s' A', f_M_behindSum s m (v tst) = some (v 3, s') ∧ AF scrR A A' ∧ Fr (inM m) s s' ∧ (wd B st 3 = 0 → RfS s' m A' B n ord (nxS B n st) (stl X (A 11, A 12, len)).2.2 Y ∧ A' 11 = (stl X (A 11, A 12, len)).1 ∧ A' 12 = (stl X (A 11, A 12, len)).2.1) ∧ (wd B st 3 ≠ 0 → ErM s' m A' st.1) := by
  obtain ⟨h2, h3, h4⟩ := h.2.1
  have hst : 0 ≤ st.1 ∧ st.1 ≤ st.2.1 ∧ st.2.1 ≤ n := h4.1.1
  have hn := h2.2.1
  have e93 : f_M_isSign s m (nI 93) = some (v (bi (wd B st 3 = 0))) := m_sgK h.1 h2 h3 h4 (k := 3) (i := 0) (c := 93) (by decide) rfl (by decide)
  have hin := m_inner h (by omega)
  have hi32 : innL (X ++ (32, a) :: Y) = 32 := by
    rw [innL_app X _ (fun x hx => by have := hX x hx; omega)]
    rfl
  rw [hi32] at hin
  rw [m_be71 h, hop]
  unfold b_M_behindSum_71
  rw [nv1, v_neg, if_pos rfl, if_pos h.1.t, hin, Option.bind_some, nv32, if_pos rfl, e93, Option.bind_some]
  by_cases c : wd B st 3 = 0
  · obtain ⟨s1, A1, q1, q2, q3, q4⟩ := m_mustT h
    have r11 := q3.row (j := 11) (fun z => by omega)
    have r12 := q3.row (j := 12) (fun z => by omega)
    obtain ⟨s2, A2, p1, p2, p3, p4, p5, p6⟩ := m_settleG (least := 5) q2 (by omega) (by omega) (fun x hx => by have := bndO_sum (hX x hx); omega) (fun y hy => by have e : ((32 : Int), a) = y := (by simpa using hy); rw [← e]; show bndO 32 < 5; decide)
    obtain ⟨s3, A3, g1, g2, g3, g4, g5, g6⟩ := m_closeG p2 (by show (31 : Int) ≤ 32; decide)
    have hT := nxS_T (B := B) (n := n) h.2.1.2.2.1
    have ge : st.2.1 ≤ (nxS B n st).1 := hT.2.1
    rw [bi_t c, q1, Option.bind_some, if_pos q2.1.t, Rf_bad q2, nv0, if_pos rfl, nv5, p1, Option.bind_some, if_pos p2.1.t, ← nv1, g1, nv3]
    rw [r11, r12] at p3 p4 g2
    exact ⟨s3, A3, rfl, ((tok_R q3).tr p5).tr g5, (q4.tr p6).tr g6, fun _ => ⟨g2.mo (by omega), by rw [g3, p3], by rw [g4, p4]⟩, fun d => absurd c d⟩
  · obtain ⟨s1, A1, q1, q2, q3, q4⟩ := m_mustF h
    rw [bi_f c, q1, Option.bind_some, if_pos q2.1.t, Er_bad q2, nv0, if_neg (show ¬ v 1 = v 0 by decide), nv3]
    exact ⟨s1, A1, rfl, q3, q4, fun d => absurd d c, fun _ => q2⟩
/-- a sum ends at the text's level -/
theorem m_sumOver (h : RfS s m A B n ord st len L) (hop : opB B st = -1) (hi : innL L = -1) : f_M_behindSum s m (v 0) = some (v 4, s) := by
  have hst : 0 ≤ st.1 ∧ st.1 ≤ st.2.1 ∧ st.2.1 ≤ n := h.2.1.2.2.1.1
  have hn := h.2.1.1.2.1
  have hin := m_inner h (by omega)
  rw [hi] at hin
  rw [m_be71 h, hop]
  unfold b_M_behindSum_71
  rw [nv0, nv1, nv4, v_neg, if_pos rfl, if_pos h.1.t, hin, Option.bind_some, nv32, if_neg (show ¬ v (-1) = v 32 by decide), if_pos rfl, if_pos rfl]
theorem m_be163 (h : RfS s m A B n ord st len L) (hop : opB B st = -1) (hi : innL L = 31 ∨ (innL L = -1 ∧ tst = 1)) : f_M_behindSum s m (v tst) = b_M_behindSum_163 m s := by
  have hst : 0 ≤ st.1 ∧ st.1 ≤ st.2.1 ∧ st.2.1 ≤ n := h.2.1.2.2.1.1
  have hn := h.2.1.1.2.1
  have hin := m_inner h (by omega)
  rw [m_be71 h, hop]
  unfold b_M_behindSum_71
  rw [nv0, nv1, v_neg, if_pos rfl, if_pos h.1.t, hin, Option.bind_some, nv32]
  rcases hi with e | ⟨e, e2⟩
  · rw [e, if_neg (show ¬ v 31 = v 32 by decide), if_neg (show ¬ v 31 = v (-1) by decide)]
  · rw [e, e2, if_neg (show ¬ v (-1) = v 32 by decide), if_pos rfl, if_neg (show ¬ v 1 = v 0 by decide)]
/-- a comparison is told -/
theorem m_told {X Y : PIL} {c a : Int} (h : RfS s m A B n ord st len (X ++ (c, a) :: Y)) (hop : opB B st = -1) (hX : sumOps X) (hc : 25 ≤ c ∧ c ≤ 27) (hi : innL (X ++ (c, a) :: Y) = 31 ∨ (innL (X ++ (c, a) :: Y) = -1 ∧ tst = 1)) : f_M_behindSum s m (v tst) = some (v 2, s) := by
  have hst : 0 ≤ st.1 ∧ st.1 ≤ st.2.1 ∧ st.2.1 ≤ n := h.2.1.2.2.1.1
  have hn := h.2.1.1.2.1
  have hcm := m_isCompared h (by omega) hX (fun y hy => by have e : (c, a) = y := (by simpa using hy); rw [← e]; show ¬ (20 ≤ c ∧ c ≤ 24); omega)
  rw [m_be163 h hop hi]
  unfold b_M_behindSum_163
  rw [if_pos h.1.t, hcm, Option.bind_some, bi_t ⟨(c, a), rfl, hc⟩, nv0, nv2, if_neg (show ¬ v 1 = v 0 by decide)]
/-- a comparison comes -/
theorem m_cmp {X Y : PIL} (h : RfS s m A B n ord st len (X ++ Y)) (hop : opB B st = -1) (hX : sumOps X) (hY : ∀ y, Y.head? = some y → 28 ≤ y.1) (hi : innL (X ++ Y) = 31 ∨ (innL (X ++ Y) = -1 ∧ tst = 1)) :
    ∃ s' A', f_M_behindSum s m (v tst) = some (v 1, s') ∧ AF scrR A A' ∧ Fr (inM m) s s' ∧ (wd B st 15 ≠ -1 → RfS s' m A' B n ord (nxS B n st) (stl X (A 11, A 12, len)).2.2 ((25 + wd B st 15, 0) :: Y) ∧ A' 11 = (stl X (A 11, A 12, len)).1 ∧ A' 12 = (stl X (A 11, A 12, len)).2.1) ∧ (wd B st 15 = -1 → ErM s' m A' st.1) := by
  obtain ⟨h2, h3, h4⟩ := h.2.1
  have hst : 0 ≤ st.1 ∧ st.1 ≤ st.2.1 ∧ st.2.1 ≤ n := h4.1.1
  have hn := h2.2.1
  have e60 : f_M_isSign s m (nI 60) = some (v (bi (wd B st 15 = 0))) := m_sgK h.1 h2 h3 h4 (k := 15) (i := 0) (c := 60) (by decide) rfl (by decide)
  have e62 : f_M_isSign s m (nI 62) = some (v (bi (wd B st 15 = 1))) := m_sgK h.1 h2 h3 h4 (k := 15) (i := 1) (c := 62) (by decide) rfl (by decide)
  have e61 : f_M_isSign s m (nI 61) = some (v (bi (wd B st 15 = 2))) := m_sgK h.1 h2 h3 h4 (k := 15) (i := 2) (c := 61) (by decide) rfl (by decide)
  have w15 := wd_r B st 15
  have l15 : ((wrdZ 15).length : Int) = 3 := rfl
  have hcm := m_isCompared h (by omega) hX (fun y hy => by have := hY y hy; omega)
  have hno : ¬ ∃ y, Y.head? = some y ∧ 25 ≤ y.1 ∧ y.1 ≤ 27 := fun d => by
    obtain ⟨y, d1, d2⟩ := d
    have := hY y d1
    omega
  have good : wd B st 15 ≠ -1 → ∃ s' A', b_M_behindSum_224 m (v (25 + wd B st 15)) (v 1) m s = some (v 1, s') ∧ AF scrR A A' ∧ Fr (inM m) s s' ∧ RfS s' m A' B n ord (nxS B n st) (stl X (A 11, A 12, len)).2.2 ((25 + wd B st 15, 0) :: Y) ∧ A' 11 = (stl X (A 11, A 12, len)).1 ∧ A' 12 = (stl X (A 11, A 12, len)).2.1 := by
    intro c
    obtain ⟨s1, A1, q1, q2, q3, q4⟩ := m_mustT h
    have r11 := q3.row (j := 11) (fun z => by omega)
    have r12 := q3.row (j := 12) (fun z => by omega)
    have hT := nxS_T (B := B) (n := n) h.2.1.2.2.1
    have ge : st.2.1 ≤ (nxS B n st).1 := hT.2.1
    obtain ⟨s2, A2, p1, p2, p3, p4, p5, p6⟩ := m_settleG (least := 5) q2 (by omega) (by omega) (fun x hx => by have := bndO_sum (hX x hx); omega) (fun y hy => by have := hY y hy; exact bndO_oth (by omega) (by omega))
    obtain ⟨s3, A3, g1, g2, g3, g4, g5, g6⟩ := m_pushG (op := 25 + wd B st 15) p2 (by omega) (by omega)
    rw [r11, r12] at p3 p4 g2
    refine ⟨s3, A3, ?_, ((tok_R q3).tr p5).tr g5, (q4.tr p6).tr g6, g2.mo (by omega), by rw [g3, p3], by rw [g4, p4]⟩
    unfold b_M_behindSum_224
    rw [if_pos h.1.t, q1, Option.bind_some, if_pos q2.1.t, Rf_bad q2, nv0, if_pos rfl, nv5, p1, Option.bind_some, if_pos p2.1.t, g1, Option.bind_some, nv1]
  rw [m_be163 h hop hi]
  unfold b_M_behindSum_163
  rw [if_pos h.1.t, hcm, Option.bind_some, bi_f hno, nv0, nv25, nv26, nv27, if_pos rfl, e60, Option.bind_some]
  unfold b_M_behindSum_202 b_M_behindSum_219
  rw [nv0, nv1, nv27]
  by_cases c0 : wd B st 15 = 0
  · obtain ⟨s', A', g1, g2, g3, g4⟩ := good (by omega)
    rw [c0] at g1
    rw [bi_t c0, if_neg (show ¬ v 1 = v 0 by decide), if_neg (show ¬ v 25 = v 27 by decide)]
    exact ⟨s', A', g1, g2, g3, fun _ => g4, fun d => by omega⟩
  · rw [bi_f c0, if_pos rfl, e62, Option.bind_some]
    by_cases c1 : wd B st 15 = 1
    · obtain ⟨s', A', g1, g2, g3, g4⟩ := good (by omega)
      rw [c1] at g1
      rw [bi_t c1, if_neg (show ¬ v 1 = v 0 by decide), if_neg (show ¬ v 26 = v 27 by decide)]
      exact ⟨s', A', g1, g2, g3, fun _ => g4, fun d => by omega⟩
    · rw [bi_f c1, if_pos rfl, if_pos rfl, if_pos h.1.t, e61, Option.bind_some]
      by_cases c2 : wd B st 15 = 2
      · obtain ⟨s', A', g1, g2, g3, g4⟩ := good (by omega)
        rw [c2] at g1
        rw [bi_t c2, if_neg (show ¬ v 1 = v 0 by decide)]
        exact ⟨s', A', g1, g2, g3, fun _ => g4, fun d => by omega⟩
      · obtain ⟨s1, A1, q1, q2, q3, q4⟩ := m_mustF h
        rw [bi_f c2, if_pos rfl]
        unfold b_M_behindSum_224
        rw [if_pos h.1.t, q1, Option.bind_some, if_pos q2.1.t, Er_bad q2, nv0, if_neg (show ¬ v 1 = v 0 by decide), nv1]
        exact ⟨s1, A1, rfl, q3, q4, fun d => by omega, fun _ => q2⟩
end RSG
