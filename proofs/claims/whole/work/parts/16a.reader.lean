/-! THE CLASS'S READER: a clause, whole -/
section RCW
variable {rd tp : Nat} {B : Int → Int} {n : Int} {ord : Bool} {mk : Int → Int} {cl : Int}
theorem s_clause36 {s s0 : AS} {st st0 : STK} {ct : Int} {cd cd0 : Int → Int} {len len0 : Int} {mk0 : Int → Int} (h : RdC s rd tp B n ord st ct cd mk len cl) (hf : Fr (inRd rd) s0 s) : SpecC (.error st.1) (b_Reader_readClause_36 rd s) s0 rd tp B n ord st0 cd0 mk0 len0 cl := by
  refine ⟨setI s rd 7 (v st.1), ?_, by rw [sI_setI, if_pos ⟨rfl, rfl⟩], hf.tr (Fr.si (by unfold inRd; omega))⟩
  unfold b_Reader_readClause_36
  rw [if_pos h.1.1, (s_stopS h).1, Option.bind_some]
  show (if nI 0 = nI 0 ∨ nI 0 = nI 1 then some (nI 0, _) else none) = _
  rw [if_pos (Or.inl rfl)]
  rfl
/-- the end of a clause: its test -/
theorem s_clauseIf {s s0 : AS} {st st0 : STK} {cd cd0 : Int → Int} {len len0 a : Int} {mk0 : Int → Int} {x : CLS} {f g : SEM} {kind tm : Int} (hc : 0 ≤ cl ∧ cl < 12) (h : RdS s rd tp B n ord st cd (bu (bu (bu (bu mk0 (cl * 6) kind) (cl * 6 + 2) len0) (cl * 6 + 3) a) (cl * 6 + 1) tm) len cl)
    (hs : SegE (insC cd) len0 a f ∧ SegE (insC cd) a len g ∧ len0 ≤ a ∧ a ≤ len) (h0 : 0 ≤ len0) (hcd : ∀ z, 0 ≤ z → z < len0 → cd z = cd0 z) (hle : st0.1 ≤ st.1) (hfr : Fr (inRd rd) s0 s) :
    SpecC (match ifP B n ord st with
      | .error e => .error e
      | .ok (k, st3) => .ok ((kind, tm, f, g, k), st3))
      (if sT s (sR s rd 0) = 12 then (f_Text_mark s (sR s rd 0) (nI 4) (sI s (sR s rd 0) 2)).bind fun r6 =>
        if sT r6 rd = 8 then
        (f_Reader_placeIn r6 rd (strB + 11)).bind fun r7 =>
        if r7 = (nI 0) then
          (f_Reader_next r6 rd).bind fun r8 =>
          if sT r8 rd = 8 then
          (f_Reader_readTest r8 rd (nI 0)).bind fun r9 =>
          if r9.1 = (nI 0) then
            some (nI 0, r9.2)
          else
            b_Reader_readClause_109 rd r9.2
          else none
        else
          b_Reader_readClause_109 rd r6
        else none
        else none) s0 rd tp B n ord st0 cd0 mk0 len0 cl := by
  obtain ⟨s1, q1, q2, q3⟩ := s_markS (what := 4) (x := len) h hc (by omega)
  have hp := s_placeS q2 (k := 11) (by decide)
  have hw := wd_r B st 11
  have l11 : ((wrdZ 11).length : Int) = 1 := rfl
  have hst : 0 ≤ st.1 ∧ st.1 ≤ st.2.1 ∧ st.2.1 ≤ n := h.2.2.2.1.1.1
  have hT := nxS_T (B := B) (n := n) h.2.2.2.1.1
  have ge : st.2.1 ≤ (nxS B n st).1 := hT.2.1
  rw [h.1.2.1.1, if_pos h.2.2.1.1.1, h.2.2.1.2.1.1, show nI 4 = v 4 from rfl, q1, Option.bind_some, if_pos q2.1.1, hp, Option.bind_some, nv0]
  have fin : ∀ (s2 : AS) (st2 : STK) (cd2 : Int → Int) (len2 : Int) (k : SEM), RdS s2 rd tp B n ord st2 cd2 (bu (bu (bu (bu (bu mk0 (cl * 6) kind) (cl * 6 + 2) len0) (cl * 6 + 3) a) (cl * 6 + 1) tm) (cl * 6 + 4) len) len2 cl → SegE (insC cd2) len len2 k → (∀ z, 0 ≤ z → z < len → cd2 z = cd z) → st.1 ≤ st2.1 → Fr (inRd rd) s0 s2 →
      SpecC (.ok ((kind, tm, f, g, k), st2)) (b_Reader_readClause_109 rd s2) s0 rd tp B n ord st0 cd0 mk0 len0 cl := by
    intro s2 st2 cd2 len2 k y1 y2 y3 y4 y5
    obtain ⟨s3, z1, z2, z3⟩ := s_clause109 hc y1
    have hl := y2.le
    have M : ∀ (w : Int) (x : Int), bu (bu (bu (bu (bu (bu mk0 (cl * 6) kind) (cl * 6 + 2) len0) (cl * 6 + 3) a) (cl * 6 + 1) tm) (cl * 6 + 4) len) (cl * 6 + 5) len2 w = x ↔ (if w = cl * 6 + 5 then len2 else if w = cl * 6 + 4 then len else if w = cl * 6 + 1 then tm else if w = cl * 6 + 3 then a else if w = cl * 6 + 2 then len0 else if w = cl * 6 then kind else mk0 w) = x := fun w x => Iff.rfl
    have m0 : bu (bu (bu (bu (bu (bu mk0 (cl * 6) kind) (cl * 6 + 2) len0) (cl * 6 + 3) a) (cl * 6 + 1) tm) (cl * 6 + 4) len) (cl * 6 + 5) len2 (cl * 6) = kind := by
      rw [bu_ne (by omega), bu_ne (by omega), bu_ne (by omega), bu_ne (by omega), bu_ne (by omega), bu_eq]
    have m1 : bu (bu (bu (bu (bu (bu mk0 (cl * 6) kind) (cl * 6 + 2) len0) (cl * 6 + 3) a) (cl * 6 + 1) tm) (cl * 6 + 4) len) (cl * 6 + 5) len2 (cl * 6 + 1) = tm := by
      rw [bu_ne (by omega), bu_ne (by omega), bu_eq]
    have m2 : bu (bu (bu (bu (bu (bu mk0 (cl * 6) kind) (cl * 6 + 2) len0) (cl * 6 + 3) a) (cl * 6 + 1) tm) (cl * 6 + 4) len) (cl * 6 + 5) len2 (cl * 6 + 2) = len0 := by
      rw [bu_ne (by omega), bu_ne (by omega), bu_ne (by omega), bu_ne (by omega), bu_eq]
    have m3 : bu (bu (bu (bu (bu (bu mk0 (cl * 6) kind) (cl * 6 + 2) len0) (cl * 6 + 3) a) (cl * 6 + 1) tm) (cl * 6 + 4) len) (cl * 6 + 5) len2 (cl * 6 + 3) = a := by
      rw [bu_ne (by omega), bu_ne (by omega), bu_ne (by omega), bu_eq]
    have m4 : bu (bu (bu (bu (bu (bu mk0 (cl * 6) kind) (cl * 6 + 2) len0) (cl * 6 + 3) a) (cl * 6 + 1) tm) (cl * 6 + 4) len) (cl * 6 + 5) len2 (cl * 6 + 4) = len := by
      rw [bu_ne (by omega), bu_eq]
    have m5 : bu (bu (bu (bu (bu (bu mk0 (cl * 6) kind) (cl * 6 + 2) len0) (cl * 6 + 3) a) (cl * 6 + 1) tm) (cl * 6 + 4) len) (cl * 6 + 5) len2 (cl * 6 + 5) = len2 := bu_eq
    refine ⟨s3, cd2, _, len2, z1, z2, ⟨⟨⟨m0, m1⟩, ?_, ?_, ?_, ?_⟩, m5⟩, fun z w0 w1 => by rw [y3 z w0 (by omega), hcd z w0 w1], fun z hz => ?_, ⟨by omega, by omega⟩, y5.tr z3⟩
    · rw [m2, m3, m4, m5]
      exact ⟨⟨h0, hs.2.2.1⟩, hs.2.2.2, hl⟩
    · rw [m2, m3]
      exact hs.1.agr (agr_ins (fun z w0 w1 => y3 z (by omega) (by omega)))
    · rw [m3, m4]
      exact hs.2.1.agr (agr_ins (fun z w0 w1 => y3 z (by omega) (by omega)))
    · rw [m4, m5]
      exact y2
    · rw [bu_ne (by omega), bu_ne (by omega), bu_ne (by omega), bu_ne (by omega), bu_ne (by omega), bu_ne (by omega)]
  unfold ifP
  by_cases c : wd B st 11 = 0
  · obtain ⟨s2, n1, n2, n3⟩ := s_nextS q2
    have hsp := s_readTest (b := 8) (d := 0) ⟨by omega, by omega⟩ s2 (nxS B n st) cd len n2
    rw [if_pos (peq c), if_pos c, n1, Option.bind_some, if_pos n2.1.1]
    cases hr : testD B n ord 8 (nxS B n st) with
    | error e =>
      rw [hr] at hsp
      obtain ⟨s3, a1, a2, a3⟩ := hsp
      rw [a1, Option.bind_some, if_pos (show (v 0, s3).1 = v 0 from rfl)]
      exact ⟨s3, rfl, a2, ((hfr.tr q3).tr n3).tr a3⟩
    | ok y =>
      obtain ⟨k, st3⟩ := y
      rw [hr] at hsp
      obtain ⟨s3, cd3, len3, a1, a2, a3, a4, a5, a6⟩ := hsp
      rw [a1, Option.bind_some, if_neg (show ¬ (v 1, s3).1 = v 0 by show ¬ v 1 = v 0; decide)]
      exact fin s3 st3 cd3 len3 k a2 (Or.inr a3) a4 (by omega) (((hfr.tr q3).tr n3).tr a6)
  · rw [if_neg (pne (by omega)), if_neg c]
    exact fin s1 st cd len semE q2 (Or.inl ⟨rfl, rfl⟩) (fun _ _ _ => rfl) (Int.le_refl _) (hfr.tr q3)
theorem s_readClause {s : AS} {st : STK} {cd : Int → Int} {len : Int} (hc : 0 ≤ cl ∧ cl ≤ 12) (h : RdS s rd tp B n ord st cd mk len cl) : SpecC (clauseP B n ord cl st) (f_Reader_readClause s rd) s rd tp B n ord st cd mk len cl := by
  have hst : 0 ≤ st.1 ∧ st.1 ≤ st.2.1 ∧ st.2.1 ≤ n := h.2.2.2.1.1.1
  have hT := nxS_T (B := B) (n := n) h.2.2.2.1.1
  have ge : st.2.1 ≤ (nxS B n st).1 := hT.2.1
  have hp := s_placeS h (k := hdK ord) (by show (if ord = true then 0 else 1) < 18; split <;> decide)
  have hw := wd_r B st (hdK ord)
  have hwl : ((wrdZ (hdK ord)).length : Int) ≤ 5 := by show ((wrdZ (if ord = true then 0 else 1)).length : Int) ≤ 5; split <;> decide
  have hlen := h.2.2.2.2.2.1.2.1
  have e : f_Reader_readClause s rd = b_Reader_readClause_15 rd (strB + hdK ord) rd s := by
    unfold f_Reader_readClause
    rw [if_pos h.1.1, h.2.1.1, nv0]
    cases ord with
    | false => rw [if_pos (show v (if false = true then 1 else 0) = v 0 by decide)]; rfl
    | true => rw [if_neg (show ¬ v (if true = true then 1 else 0) = v 0 by decide)]; rfl
  rw [e]
  unfold b_Reader_readClause_15 clauseP
  rw [if_pos h.1.1, hp, Option.bind_some, if_pos h.1.1, h.1.2.1.1, if_pos h.2.2.1.1.1, h.2.2.1.2.1.2, nv12, nv0, nv1, v_neg]
  generalize hW : wd B st (hdK ord) = W at *
  by_cases c12 : cl < 12
  · rw [if_pos (plt (by omega))]
    by_cases cW : W = -1
    · rw [if_pos (peq cW), if_pos (Or.inr cW)]
      exact s_clause36 h (Fr.rf _ _)
    · obtain ⟨s1, n1, n2, n3⟩ := s_nextS h
      obtain ⟨s2, k1, k2, k3⟩ := s_markS (what := 0) (x := W) n2 ⟨hc.1, c12⟩ (by omega)
      rw [Int.add_zero] at k2
      have hsp := s_readSums (kind := W) (by omega) ⟨hc.1, c12⟩ k2
      rw [if_neg (pne (by omega)), if_neg (by omega), n1, Option.bind_some, if_pos n2.1.1, n2.1.2.1.1, if_pos n2.2.2.1.1.1, k1, Option.bind_some, if_pos k2.1.1]
      unfold clsS
      cases hr : sumsP B n ord W (nxS B n st) with
      | error e =>
        rw [hr] at hsp
        obtain ⟨s3, a1, a2, a3⟩ := hsp
        rw [a1, Option.bind_some, if_pos (show (v 0, s3).1 = v 0 from rfl)]
        exact ⟨s3, rfl, a2, (n3.tr k3).tr a3⟩
      | ok y =>
        obtain ⟨⟨f, g⟩, st1⟩ := y
        rw [hr] at hsp
        obtain ⟨s3, cd3, len3, a, a1, a2, a3, a4, a5, a6⟩ := hsp
        have hst1 : 0 ≤ st1.1 ∧ st1.1 ≤ st1.2.1 ∧ st1.2.1 ≤ n := a2.2.2.2.1.1.1
        rw [a1, Option.bind_some, if_neg (show ¬ (v 1, s3).1 = v 0 by show ¬ v 1 = v 0; decide)]
        show SpecC (clsT B n ord W f g st1) (if sT s3 rd = 8 then _ else none) s rd tp B n ord st cd mk len cl
        have htm := s_readTimes a2 ⟨hc.1, c12⟩
        rw [if_pos a2.1.1]
        unfold clsT
        cases hq : timesP B n ord st1 with
        | error e =>
          rw [hq] at htm
          obtain ⟨s4, b1, b2, b3⟩ := htm
          show SpecC (.error e) ((f_Reader_readTimes s3 rd).bind _) s rd tp B n ord st cd mk len cl
          rw [b1, Option.bind_some, if_pos (show (v 0, s4).1 = v 0 from rfl)]
          exact ⟨s4, rfl, b2, ((n3.tr k3).tr a6).tr b3⟩
        | ok z =>
          obtain ⟨tm, st2⟩ := z
          rw [hq] at htm
          obtain ⟨s4, b1, b2, b3, b4⟩ := htm
          show SpecC (match ifP B n ord st2 with
            | .error e => .error e
            | .ok (k, st3) => .ok ((W, tm, f, g, k), st3)) ((f_Reader_readTimes s3 rd).bind _) s rd tp B n ord st cd mk len cl
          rw [b1, Option.bind_some, if_neg (show ¬ (v 1, s4).1 = v 0 by show ¬ v 1 = v 0; decide)]
          show SpecC _ (if sT s4 rd = 8 then _ else none) s rd tp B n ord st cd mk len cl
          rw [if_pos b2.1.1]
          exact s_clauseIf (x := (W, tm, f, g, semE)) ⟨hc.1, c12⟩ b2 a3 hlen a4 (by omega) (((n3.tr k3).tr a6).tr b4)
  · rw [if_neg (nlt (by omega)), if_pos (Or.inl (by omega))]
    exact s_clause36 h (Fr.rf _ _)
end RCW
