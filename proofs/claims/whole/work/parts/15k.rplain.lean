/-! THE REFERENCE'S READER: plain tests -/
def notsS : Nat → SEM → SEM
  | 0, g => g
  | j + 1, g => notsS j (notS g)
def parB : Nat → Bool
  | 0 => false
  | j + 1 => !(parB j)
theorem nots_if : ∀ (j : Nat) (g : SEM), notsS j g = notIf (parB j) g := by
  intro j
  induction j with
  | zero => intro g; rfl
  | succ j ih =>
    intro g
    show notsS j (notS g) = notIf (!(parB j)) g
    rw [ih]
    cases parB j with
    | false => rfl
    | true => exact notS_notS g
abbrev notL (j : Nat) : PIL := List.replicate j (28, 0)
theorem nots_stl {ord : Bool} : ∀ (j : Nat) (O R : Int → Int) (i0 len : Int) (g : SEM), 0 ≤ i0 → Seg (insF ord O R) i0 len g → Seg (insF ord (stl (notL j) (O, R, len)).1 (stl (notL j) (O, R, len)).2.1) i0 (stl (notL j) (O, R, len)).2.2 (notsS j g) := by
  intro j
  induction j with
  | zero => intro O R i0 len g _ h; exact h
  | succ j ih =>
    intro O R i0 len g hi h
    have hl := h.1
    have e : notL (j + 1) = (28, 0) :: notL j := List.replicate_succ
    rw [e, stl_c, if_neg (by decide)]
    refine ih _ _ i0 (len + 1) (notS g) hi (Seg.not (a := 0) (h.agr (fun z _ z1 => ?_)) ?_)
    · show insM ord (bu O len 28 z) (bu R len 0 z) = insM ord (O z) (R z)
      rw [bu_ne (by omega), bu_ne (by omega)]
    · show insM ord (bu O len 28 len) (bu R len 0 len) = _
      rw [bu_eq, bu_eq]
      rfl
def SpcW (r : RSL) (lo : Int) (m : Nat) (s : AS) (A : MA) (B : Int → Int) (n : Int) (ord : Bool) (st : STK) (i0 : Int) (L : PIL) : Prop := match r with
  | .error e => ErrR m 1 s 0 A st e
  | .ok (g, st') => ∃ (s' : AS) (A' : MA) (len' : Int) (X : PIL) (k : Nat), Rch m 1 s 0 s' 2 k ∧ (k : Int) ≤ 2 * (st'.1 - st.1) ∧ RfS s' m A' B n ord st' len' (X ++ L) ∧ (∀ x ∈ X, (lo ≤ bndO x.1 ∧ x.1 ≤ 30) ∧ (28 < x.1 → i0 ≤ x.2)) ∧ PdS ord A' i0 len' X g ∧ CodK A A' i0 ∧ AF scrR A A' ∧ Fr (inM m) s s' ∧ st.1 < st'.1 ∧ i0 < len' ∧ (lo = 1 → wd B st' 16 = -1)
def PlainOK (m : Nat) (B : Int → Int) (n : Int) (ord : Bool) (b : Nat) (plain : STK → RSL) : Prop := ∀ (s : AS) (A : MA) (st : STK) (len : Int) (L : PIL), RfS s m A B n ord st len L → opnL L + b = 8 → (∀ y, L.head? = some y → 28 ≤ y.1) → (innL L = 31 ∨ innL L = -1) → SpcW (plain st) 3 m s A B n ord st len L
def TestOK (m : Nat) (B : Int → Int) (n : Int) (ord : Bool) (b : Nat) (test : STK → RSL) : Prop := ∀ (s : AS) (A : MA) (st : STK) (len : Int) (L : PIL), RfS s m A B n ord st len L → opnL L + b = 8 → stopL L 1 → (innL L = 31 ∨ innL L = -1) → SpcW (test st) 1 m s A B n ord st len L
section RPN
variable {m : Nat} {B : Int → Int} {n : Int} {ord : Bool} {st : STK} {s : AS} {A : MA} {len rm : Int} {L : PIL}
theorem m_isNot (h : RfG s m A B n ord st len L rm) : f_M_isWord s m (lN 14836) = some (v (bi (wd B st 12 = 0))) := m_wdK h.1 h.2.1.1 h.2.1.2.1 h.2.1.2.2 (k := 12) (i := 0) (c := 14836) (x := [110, 111, 116]) (by decide) rfl (by decide)
theorem m_isRound (h : RfG s m A B n ord st len L rm) : f_M_isSign s m (nI 40) = some (v (bi (wd B st 13 = 0))) := m_sgK h.1 h.2.1.1 h.2.1.2.1 h.2.1.2.2 (k := 13) (i := 0) (c := 40) (by decide) rfl (by decide)
theorem wd_lt {B : Int → Int} {st : STK} {k : Nat} (h : wd B st k ≠ -1) : st.1 < st.2.1 := by
  rcases wd_r B st k with e | e
  · exact absurd e h
  · exact e.2.2
theorem m_plainNot (h : RfS s m A B n ord st len L) (c : wd B st 12 = 0) :
    ∃ s' A', f_M_readPlain s m = some (v 0, s') ∧ RfS s' m A' B n ord (nxS B n st) len ((28, 0) :: L) ∧ A' 11 = A 11 ∧ A' 12 = A 12 ∧ AF scrR A A' ∧ Fr (inM m) s s' := by
  have hlt := wd_lt (B := B) (st := st) (k := 12) (by omega)
  have hst : 0 ≤ st.1 ∧ st.1 ≤ st.2.1 ∧ st.2.1 ≤ n := h.2.1.2.2.1.1
  have hn := h.2.1.1.2.1
  have hT := nxS_T (B := B) (n := n) h.2.1.2.2.1
  have ge : st.2.1 ≤ (nxS B n st).1 := hT.2.1
  obtain ⟨s1, A1, q1, q2, q3, q4, q5, q6⟩ := m_pushG (op := 28) h (by omega) (by omega)
  obtain ⟨s2, A2, p1, p2, p3, p4⟩ := m_next q2
  refine ⟨s2, A2, ?_, p2.mo (by omega), by rw [p3.row (j := 11) (fun z => by omega), q3], by rw [p3.row (j := 12) (fun z => by omega), q4], q5.tr (tok_R p3), q6.tr p4⟩
  unfold f_M_readPlain
  rw [if_pos h.1.t, m_isNot h, Option.bind_some, bi_t c, nv0, if_neg (show ¬ v 1 = v 0 by decide), nv28, q1, Option.bind_some, if_pos q2.1.t, p1, Option.bind_some]
theorem m_plainRound (h : RfS s m A B n ord st len L) (c1 : wd B st 12 ≠ 0) (c : wd B st 13 = 0) :
    ∃ s' A', f_M_readPlain s m = some (v 0, s') ∧ AF scrR A A' ∧ Fr (inM m) s s' ∧ (opnL L < 8 → RfS s' m A' B n ord (nxS B n st) len ((31, 0) :: L) ∧ A' 11 = A 11 ∧ A' 12 = A 12) ∧ (¬ opnL L < 8 → ErM s' m A' st.1) := by
  have hlt := wd_lt (B := B) (st := st) (k := 13) (by omega)
  obtain ⟨s1, A1, q1, q2⟩ := m_open h hlt (op := 31) (Or.inl rfl)
  refine ⟨s1, A1, ?_, q2⟩
  unfold f_M_readPlain
  rw [if_pos h.1.t, m_isNot h, Option.bind_some, bi_f c1, nv0, if_pos rfl, m_isRound h, Option.bind_some, bi_t c, if_neg (show ¬ v 1 = v 0 by decide), nv31, q1, Option.bind_some]
theorem at_plain (h : RfG s m A B n ord st len L rm) (c1 : wd B st 12 ≠ 0) (c : wd B st 13 ≠ 0) : AtPart m 1 s 0 := fun s' t' hp => rch_plain h (by
  unfold f_M_readPlain
  rw [if_pos h.1.t, m_isNot h, Option.bind_some, bi_f c1, nv0, if_pos rfl, m_isRound h, Option.bind_some, bi_f c, if_pos rfl, hp, Option.bind_some])
/-- a round bracket closes -/
theorem m_closeRd {X Y : PIL} {a : Int} (h : RfS s m A B n ord st len (X ++ (31, a) :: Y)) (h16 : wd B st 16 = -1) (hX : ∀ x ∈ X, 1 ≤ bndO x.1 ∧ x.1 ≤ 30) :
    ∃ s' A', f_M_behindTest s m = some (v 2, s') ∧ AF scrR A A' ∧ Fr (inM m) s s' ∧ (wd B st 14 = 0 → RfS s' m A' B n ord (nxS B n st) (stl X (A 11, A 12, len)).2.2 Y ∧ A' 11 = (stl X (A 11, A 12, len)).1 ∧ A' 12 = (stl X (A 11, A 12, len)).2.1) ∧ (wd B st 14 ≠ 0 → ErM s' m A' st.1) := by
  obtain ⟨h2, h3, h4⟩ := h.2.1
  have hst : 0 ≤ st.1 ∧ st.1 ≤ st.2.1 ∧ st.2.1 ≤ n := h4.1.1
  have hn := h2.2.1
  have ea : f_M_isWord s m (lN 1476) = some (v (bi (wd B st 16 = 0))) := m_wdK h.1 h2 h3 h4 (k := 16) (i := 0) (c := 1476) (x := [97, 110, 100]) (by decide) rfl (by decide)
  have eo : f_M_isWord s m (lN 498) = some (v (bi (wd B st 16 = 1))) := m_wdK h.1 h2 h3 h4 (k := 16) (i := 1) (c := 498) (x := [111, 114]) (by decide) rfl (by decide)
  have e41 : f_M_isSign s m (nI 41) = some (v (bi (wd B st 14 = 0))) := m_sgK h.1 h2 h3 h4 (k := 14) (i := 0) (c := 41) (by decide) rfl (by decide)
  have hin := m_inner h (by omega)
  have hi31 : innL (X ++ (31, a) :: Y) = 31 := by
    rw [innL_app X _ (fun x hx => by have := hX x hx; omega)]
    rfl
  rw [hi31] at hin
  unfold f_M_behindTest
  rw [if_pos h.1.t, ea, Option.bind_some, bi_f (by omega), nv0, if_pos rfl, eo, Option.bind_some, bi_f (by omega), if_pos rfl, hin, Option.bind_some, nv1, v_neg, if_neg (show ¬ v 31 = v (-1) by decide), e41, Option.bind_some]
  by_cases c : wd B st 14 = 0
  · obtain ⟨s1, A1, q1, q2, q3, q4⟩ := m_mustT h
    have r11 := q3.row (j := 11) (fun z => by omega)
    have r12 := q3.row (j := 12) (fun z => by omega)
    obtain ⟨s2, A2, p1, p2, p3, p4, p5, p6⟩ := m_settleG (least := 1) q2 (by omega) (by omega) (fun x hx => (hX x hx).1) (fun y hy => by have e : ((31 : Int), a) = y := (by simpa using hy); rw [← e]; show bndO 31 < 1; decide)
    obtain ⟨s3, A3, g1, g2, g3, g4, g5, g6⟩ := m_closeG p2 (by show (31 : Int) ≤ 31; decide)
    have hT := nxS_T (B := B) (n := n) h.2.1.2.2.1
    have ge : st.2.1 ≤ (nxS B n st).1 := hT.2.1
    rw [bi_t c, q1, Option.bind_some, if_pos q2.1.t, Rf_bad q2, if_pos rfl, p1, Option.bind_some, if_pos p2.1.t, ← nv1, g1, nv2]
    rw [r11, r12] at p3 p4 g2
    exact ⟨s3, A3, rfl, ((tok_R q3).tr p5).tr g5, (q4.tr p6).tr g6, fun _ => ⟨g2.mo (by omega), by rw [g3, p3], by rw [g4, p4]⟩, fun d => absurd c d⟩
  · obtain ⟨s1, A1, q1, q2, q3, q4⟩ := m_mustF h
    rw [bi_f c, q1, Option.bind_some, if_pos q2.1.t, Er_bad q2, if_neg (show ¬ v 1 = v 0 by decide), nv2]
    exact ⟨s1, A1, rfl, q3, q4, fun d => absurd d c, fun _ => q2⟩
theorem opn_nots (j : Nat) (L : PIL) : opnL (notL j ++ L) = opnL L := opnL_app _ _ (fun x hx => by rw [(List.mem_replicate.mp hx).2]; decide)
theorem inn_nots (j : Nat) (L : PIL) : innL (notL j ++ L) = innL L := innL_app _ _ (fun x hx => by rw [(List.mem_replicate.mp hx).2]; decide)
theorem hd_nots {L : PIL} (h : ∀ y, L.head? = some y → 28 ≤ y.1) : ∀ (j : Nat) (y : Int × Int), (notL j ++ L).head? = some y → 28 ≤ y.1 := by
  intro j y hy
  cases j with
  | zero => exact h y hy
  | succ j =>
    have e : ((28 : Int), (0 : Int)) = y := (by simpa [List.replicate_succ] using hy)
    rw [← e]
    decide
/-- behind the NOTs -/
theorem m_base {b : Nat} {inner : STK → RSL} (hin : b ≠ 0 → TestOK m B n ord (b - 1) inner) {j : Nat} (h : RfS s m A B n ord st len (notL j ++ L)) (hb : opnL L + b = 8) (hL : ∀ y, L.head? = some y → 28 ≤ y.1) (hi : innL L = 31 ∨ innL L = -1) (c1 : wd B st 12 ≠ 0) :
    SpcW (baseP B n ord b inner (parB j) st) 3 m s A B n ord st len L := by
  have hst : 0 ≤ st.1 ∧ st.1 ≤ st.2.1 ∧ st.2.1 ≤ n := h.2.1.2.2.1.1
  have hn := h.2.1.1.2.1
  have hfl := h.2.2.2.2.2.2
  have hT := nxS_T (B := B) (n := n) h.2.1.2.2.1
  have ge : st.2.1 ≤ (nxS B n st).1 := hT.2.1
  have hop := opn_nots j L
  have hin2 := inn_nots j L
  have hmem : ∀ x ∈ notL j, (3 ≤ bndO x.1 ∧ x.1 ≤ 30) ∧ (28 < x.1 → len ≤ x.2) := fun x hx => by rw [(List.mem_replicate.mp hx).2]; exact ⟨by decide, fun d => absurd d (by decide)⟩
  unfold baseP
  by_cases c : wd B st 13 = 0
  · have hlt := wd_lt (B := B) (st := st) (k := 13) (by omega)
    obtain ⟨s1, A1, q1, q2, q3, q4, q5⟩ := m_plainRound h c1 c
    have r1 : Rch m 1 s 0 s1 0 1 := rch_plain h q1
    rw [if_pos c]
    by_cases cb : b = 0
    · rw [if_pos cb]
      exact ⟨s1, A1, 0, 1, r1, by omega, q5 (by omega), q2, q3⟩
    · rw [if_neg cb]
      obtain ⟨y1, y2, y3⟩ := q4 (by omega)
      have hsp := hin cb s1 A1 (nxS B n st) len ((31, 0) :: (notL j ++ L)) y1 (by show (if (31 : Int) ≤ 31 then 1 else 0) + opnL (notL j ++ L) + ((b - 1 : Nat) : Int) = 8; rw [if_pos (by decide)]; omega) (fun y hy => by have e : ((31 : Int), (0 : Int)) = y := (by simpa using hy); rw [← e]; show bndO 31 < 1; decide) (Or.inl rfl)
      cases hr : inner (nxS B n st) with
      | error e =>
        rw [hr] at hsp
        exact ErrR.pre hsp r1 (by omega) q2 q3
      | ok x =>
        obtain ⟨g, st2⟩ := x
        rw [hr] at hsp
        obtain ⟨s2, A2, len2, X, k2, z1, z2, z3, z4, z5, z6, z7, z8, z9, z10, z11⟩ := hsp
        obtain ⟨s3, A3, p1, p2, p3, p4, p5⟩ := m_closeRd z3 (z11 rfl) (fun x hx => (z4 x hx).1)
        have hst2 : 0 ≤ st2.1 ∧ st2.1 ≤ st2.2.1 ∧ st2.2.1 ≤ n := z3.2.1.2.2.1.1
        have hc12 : CodK A A1 len := CodK.eq y2 y3
        show SpcW (if wd B st2 14 = 0 then _ else _) 3 m s A B n ord st len L
        have hrr := (r1.tr z1).tr (rch_test z3 p1)
        by_cases c3 : wd B st2 14 = 0
        · rw [if_pos c3]
          obtain ⟨u1, u2, u3⟩ := p4 c3
          have hT2 := nxS_T (B := B) (n := n) z3.2.1.2.2.1
          have ge2 : st2.2.1 ≤ (nxS B n st2).1 := hT2.2.1
          have hlt2 := wd_lt (B := B) (st := st2) (k := 14) (by omega)
          have hseg : Seg (insF ord (A3 11) (A3 12)) len (stl X (A2 11, A2 12, len2)).2.2 g := by rw [u2, u3]; exact z5
          have hsl := stl_len X (A2 11) (A2 12) len2
          refine ⟨s3, A3, _, notL j, _, hrr, by omega, u1, hmem, ?_, ?_, (q2.tr z7).tr p2, (q3.tr z8).tr p3, by omega, by omega, fun d => by omega⟩
          · unfold PdS
            rw [← nots_if]
            exact nots_stl j _ _ len _ g hfl.1 hseg
          · intro z w0 w1
            rw [u2, u3, stl_O X _ _ _ _ (by omega), stl_R X _ _ _ _ (by omega) (fun x hx d => by have := (z4 x hx).2 (by omega); omega)]
            exact (hc12.tr z6) z w0 w1
        · rw [if_neg c3]
          exact ⟨s3, A3, 2, _, hrr, by omega, p5 c3, (q2.tr z7).tr p2, (q3.tr z8).tr p3⟩
  · rw [if_neg c]
    have hstop : stopL (notL j ++ L) 5 := fun y hy => by
      have h1 := hd_nots hL j y hy
      have h2 := h.2.2.2.2.2.1.2 y (List.mem_of_mem_head? hy)
      exact bndO_oth (by omega) (by omega)
    have hsp := m_sumD (m := m) (B := B) (n := n) (ord := ord) (tst := 1) b s 0 A st len (notL j ++ L) h (by omega) hstop (at_plain h c1 c)
    cases hr : sumD B n ord b st with
    | error e =>
      rw [hr] at hsp
      exact hsp
    | ok x =>
      obtain ⟨g1, st1⟩ := x
      rw [hr] at hsp
      obtain ⟨s1, A1, len1, X1, k1, z1, z2, z3, z4, z5, z6, z7, z8, z9, z10, z11⟩ := hsp
      have hX31 : ∀ x ∈ X1, x.1 < 31 := fun x hx => by have := z4 x hx; omega
      have hin3 : innL (X1 ++ (notL j ++ L)) = innL L := by rw [innL_app X1 _ hX31, hin2]
      obtain ⟨s2, A2, p1, p2, p3, p4, p5⟩ := m_cmp (tst := 1) z3 z10 z4 (hd_nots hL j) (by rw [hin3]; omega)
      have hst1 : 0 ≤ st1.1 ∧ st1.1 ≤ st1.2.1 ∧ st1.2.1 ≤ n := z3.2.1.2.2.1.1
      have hrr := z1.tr (rch_sum z3 p1)
      show SpcW (if wd B st1 15 = -1 then _ else _) 3 m s A B n ord st len L
      by_cases c15 : wd B st1 15 = -1
      · rw [if_pos c15]
        exact ⟨s2, A2, 1, _, hrr, by omega, p5 c15, z7.tr p2, z8.tr p3⟩
      · rw [if_neg c15]
        obtain ⟨u1, u2, u3⟩ := p4 c15
        have w15 := wd_r B st1 15
        have l15 : ((wrdZ 15).length : Int) = 3 := rfl
        have hT1 := nxS_T (B := B) (n := n) z3.2.1.2.2.1
        have ge1 : st1.2.1 ≤ (nxS B n st1).1 := hT1.2.1
        have hlt1 := wd_lt (B := B) (st := st1) (k := 15) c15
        have hsl := stl_len X1 (A1 11) (A1 12) len1
        have hcb : ∀ y, ((25 + wd B st1 15, (0 : Int)) :: (notL j ++ L)).head? = some y → bndO y.1 < 5 := fun y hy => by
          have e : (25 + wd B st1 15, (0 : Int)) = y := (by simpa using hy)
          rw [← e]
          exact bndO_oth (by show ¬ (20 ≤ 25 + wd B st1 15 ∧ 25 + wd B st1 15 ≤ 24); omega) (by show 20 ≤ 25 + wd B st1 15; omega)
        have hsp2 := m_sumD (m := m) (B := B) (n := n) (ord := ord) (tst := 1) b s2 1 A2 (nxS B n st1) _ _ u1 (by
          show (if 31 ≤ 25 + wd B st1 15 then 1 else 0) + opnL (notL j ++ L) + (b : Int) = 8
          rw [if_neg (by omega)]; omega) hcb (at_part u1)
        have hk12 : CodK A A2 len := fun z w0 w1 => by
          rw [u2, u3, stl_O X1 _ _ _ _ (by omega), stl_R X1 _ _ _ _ (by omega) (fun x hx d => by have := z4 x hx; omega)]
          exact z6 z w0 w1
        have hseg1 : Seg (insR ord A2) len (stl X1 (A1 11, A1 12, len1)).2.2 g1 := by
          show Seg (insF ord (A2 11) (A2 12)) len _ g1
          rw [u2, u3]
          exact z5
        cases hr2 : sumD B n ord b (nxS B n st1) with
        | error e =>
          rw [hr2] at hsp2
          exact ErrR.pre hsp2 hrr (by omega) (z7.tr p2) (z8.tr p3)
        | ok x2 =>
          obtain ⟨g2, st2⟩ := x2
          rw [hr2] at hsp2
          obtain ⟨s3, A3, len3, X3, k3, y1, y2, y3, y4, y5, y6, y7, y8, y9, y10, y11⟩ := hsp2
          have hX3 : ∀ x ∈ X3, x.1 < 31 := fun x hx => by have := y4 x hx; omega
          have hin4 : innL (X3 ++ (25 + wd B st1 15, 0) :: (notL j ++ L)) = innL L := by
            rw [innL_app X3 _ hX3]
            show (if 31 ≤ 25 + wd B st1 15 then _ else innL (notL j ++ L)) = _
            rw [if_neg (by omega), hin2]
          have ht := m_told (tst := 1) y3 y10 y4 (by omega) (by rw [hin4]; omega)
          have hst2 : 0 ≤ st2.1 ∧ st2.1 ≤ st2.2.1 ∧ st2.2.1 ≤ n := y3.2.1.2.2.1.1
          have hsl3 := stl_len X3 (A3 11) (A3 12) len3
          refine ⟨s3, A3, len3, X3 ++ ((25 + wd B st1 15, 0) :: notL j), _, (hrr.tr y1).tr (rch_sum y3 ht), by omega, ?_, fun x hx => ?_, ?_, hk12.tr (y6.mo (by omega)), (z7.tr p2).tr y7, (z8.tr p3).tr y8, by omega, by omega, fun d => by omega⟩
          · rw [List.append_assoc]; exact y3
          · rcases List.mem_append.mp hx with d | d
            · have h1 := y4 x d
              have h2 := bndO_sum h1
              exact ⟨⟨by omega, by omega⟩, fun e => by omega⟩
            · rcases List.mem_cons.mp d with e | d
              · rw [e]
                refine ⟨⟨?_, by show 25 + wd B st1 15 ≤ 30; omega⟩, fun e => by have e' : 28 < 25 + wd B st1 15 := e; omega⟩
                show 3 ≤ bndO (25 + wd B st1 15)
                unfold bndO
                rw [if_neg (by omega), if_neg (by omega), if_neg (by omega), if_neg (by omega), if_pos (by omega)]
                decide
              · exact hmem x d
          · unfold PdS
            rw [stl_app, ← nots_if]
            have hO : ∀ z, 0 ≤ z → z < (stl X1 (A1 11, A1 12, len1)).2.2 → (stl X3 (A3 11, A3 12, len3)).1 z = A2 11 z ∧ (stl X3 (A3 11, A3 12, len3)).2.1 z = A2 12 z := fun z w0 w1 => by
              rw [stl_O X3 _ _ _ _ (by omega), stl_R X3 _ _ _ _ (by omega) (fun x hx d => by have := y4 x hx; omega)]
              exact y6 z w0 w1
            have hs1 : Seg (insF ord (stl X3 (A3 11, A3 12, len3)).1 (stl X3 (A3 11, A3 12, len3)).2.1) len (stl X1 (A1 11, A1 12, len1)).2.2 g1 := hseg1.agr (fun z w0 w1 => by
              show insM ord _ _ = insM ord (A2 11 z) (A2 12 z)
              rw [(hO z (by omega) w1).1, (hO z (by omega) w1).2])
            have hl2 : len < (stl X1 (A1 11, A1 12, len1)).2.2 := hseg1.1
            have hl3 := y5.1
            have e3 : stl X3 (A3 11, A3 12, len3) = ((stl X3 (A3 11, A3 12, len3)).1, (stl X3 (A3 11, A3 12, len3)).2.1, (stl X3 (A3 11, A3 12, len3)).2.2) := rfl
            rw [e3, stl_c, if_neg (by show ¬ (25 + wd B st1 15 = 29 ∨ 25 + wd B st1 15 = 30); omega)]
            have ag : ∀ {x y : Int}, y ≤ (stl X3 (A3 11, A3 12, len3)).2.2 → Agr (insF ord (stl X3 (A3 11, A3 12, len3)).1 (stl X3 (A3 11, A3 12, len3)).2.1) (insF ord (bu (stl X3 (A3 11, A3 12, len3)).1 (stl X3 (A3 11, A3 12, len3)).2.2 (25 + wd B st1 15)) (bu (stl X3 (A3 11, A3 12, len3)).2.1 (stl X3 (A3 11, A3 12, len3)).2.2 0)) x y := fun hb z _ z1 => by
              show insM ord (bu _ _ _ z) (bu _ _ _ z) = insM ord _ _
              rw [bu_ne (by omega), bu_ne (by omega)]
            refine nots_stl j _ _ len _ _ hfl.1 (Seg.bin (hs1.agr (ag (by omega))) (Seg.agr y5 (ag (Int.le_refl _))) (op := 7 + wd B st1 15) (a := 0) ?_ (by omega))
            show insM ord (bu _ _ _ _) (bu _ _ _ _) = _
            rw [bu_eq, bu_eq, insM_bin ord (by omega), show 25 + wd B st1 15 - 18 = 7 + wd B st1 15 by omega]
theorem m_plainLoop {b : Nat} {inner : STK → RSL} (hin : b ≠ 0 → TestOK m B n ord (b - 1) inner) (hb : opnL L + b = 8) (hL : ∀ y, L.head? = some y → 28 ≤ y.1) (hi : innL L = 31 ∨ innL L = -1) {s0 : AS} {A0 : MA} {st0 : STK} :
    ∀ (k j : Nat) (s : AS) (A : MA) (st : STK) (kk : Nat), j + k = 400 → 3 * (j : Int) ≤ st.1 → RfS s m A B n ord st len (notL j ++ L) → Rch m 1 s0 0 s 0 kk → (kk : Int) ≤ 2 * (st.1 - st0.1) → st0.1 ≤ st.1 → CodK A0 A len → AF scrR A0 A → Fr (inM m) s0 s →
    SpcW (plainL B n (baseP B n ord b inner) k (parB j) st) 3 m s0 A0 B n ord st0 len L := by
  intro k
  induction k with
  | zero =>
    intro j s A st kk hj h3 h
    have hst : 0 ≤ st.1 ∧ st.1 ≤ st.2.1 ∧ st.2.1 ≤ n := h.2.1.2.2.1.1
    have hn := h.2.1.1.2.1
    omega
  | succ k ih =>
    intro j s A st kk hj h3 h hr hkk hle hc ha hf
    have hst : 0 ≤ st.1 ∧ st.1 ≤ st.2.1 ∧ st.2.1 ≤ n := h.2.1.2.2.1.1
    have hT := nxS_T (B := B) (n := n) h.2.1.2.2.1
    have ge : st.2.1 ≤ (nxS B n st).1 := hT.2.1
    unfold plainL
    by_cases c : wd B st 12 = 0
    · rw [if_pos c]
      obtain ⟨s1, A1, q1, q2, q3, q4, q5, q6⟩ := m_plainNot h c
      have h12 : st.1 + 3 = st.2.1 := by
        have := (wd_at (B := B) (st := st) (k := 12) (i := 0) (w := [110, 111, 116]) (by decide) rfl).mp c
        unfold isWd at this
        simp only [Bool.and_eq_true] at this
        have := wdB_le _ _ this.2
        exact this
      have e : notL (j + 1) ++ L = (28, 0) :: (notL j ++ L) := by show List.replicate (j + 1) ((28 : Int), (0 : Int)) ++ L = _; rw [List.replicate_succ]; rfl
      exact ih (j + 1) s1 A1 (nxS B n st) (1 + kk) (by omega) (by omega) (by rw [e]; exact q2) (hr.tr (rch_plain h q1)) (by omega) (by omega) (hc.tr (CodK.eq q3 q4)) (ha.tr q5) (hf.tr q6)
    · rw [if_neg c]
      have hsp := m_base hin h hb hL hi c
      cases hr2 : baseP B n ord b inner (parB j) st with
      | error e =>
        rw [hr2] at hsp
        exact ErrR.pre hsp hr hkk ha hf
      | ok x =>
        obtain ⟨g, st'⟩ := x
        rw [hr2] at hsp
        obtain ⟨s1, A1, len1, X1, k1, z1, z2, z3, z4, z5, z6, z7, z8, z9, z10, z11⟩ := hsp
        exact ⟨s1, A1, len1, X1, _, hr.tr z1, by omega, z3, z4, z5, hc.tr z6, ha.tr z7, hf.tr z8, by omega, z10, z11⟩
theorem m_plainD {b : Nat} {inner : STK → RSL} (hin : b ≠ 0 → TestOK m B n ord (b - 1) inner) : PlainOK m B n ord b (plainD B n ord b inner) := by
  intro s A st len L h hb hL hi
  have hst : 0 ≤ st.1 ∧ st.1 ≤ st.2.1 ∧ st.2.1 ≤ n := h.2.1.2.2.1.1
  exact m_plainLoop hin hb hL hi 400 0 s A st 0 (by omega) (by omega) h Rch.rf (by omega) (Int.le_refl _) (CodK.rf _ _) (AF.rf _ _) (Fr.rf _ _)
end RPN
