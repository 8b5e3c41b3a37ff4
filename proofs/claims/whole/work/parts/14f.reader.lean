/-! THE CLASS'S READER: sums -/
section RS
variable {rd tp : Nat} {B : Int → Int} {n : Int} {ord : Bool} {mk : Int → Int} {cl : Int}
def ReadOK (rd tp : Nat) (B : Int → Int) (n : Int) (ord : Bool) (mk : Int → Int) (cl : Int) (F : AS → Nat → Int32 → Option (Int32 × AS)) (d : Int) (p : STK → RSL) : Prop := ∀ (s : AS) (st : STK) (cd : Int → Int) (len : Int), RdS s rd tp B n ord st cd mk len cl → SpecR (p st) (F s rd (v d)) s rd tp B n ord st cd mk len cl 0
theorem stop01 {s : AS} {st : STK} {ct : Int} {cd : Int → Int} {len : Int} (h : RdC s rd tp B n ord st ct cd mk len cl) : ((f_Reader_stop s rd).bind fun r7 => if r7.1 = nI 0 ∨ r7.1 = nI 1 then some (r7.1, r7.2) else none) = some (v 0, setI s rd 7 (v st.1)) := by
  rw [(s_stopS h).1, Option.bind_some]
  show (if nI 0 = nI 0 ∨ nI 0 = nI 1 then some (nI 0, _) else none) = _
  rw [if_pos (Or.inl rfl)]
  rfl
theorem s_readPart {Rg : RgAT} {b : Nat} {d : Int} (hd : d + b = 8 ∧ 0 ≤ d) {inner : STK → RSL} (hin : b ≠ 0 → ReadOK rd tp B n ord mk cl (rg_Reader_readSum Rg) (d + 1) inner) : ReadOK rd tp B n ord mk cl (fun s a x => g_Reader_readPart Rg s a x) d (partP B n ord b inner) := by
  intro s st cd len h
  have hp2 := s_placeS h (k := 2) (by decide)
  have hst : 0 ≤ st.1 ∧ st.1 ≤ st.2.1 ∧ st.2.1 ≤ n := h.2.2.2.1.1.1
  have hwr := wd_r B st 2
  show SpecR _ (g_Reader_readPart Rg s rd (v d)) s rd tp B n ord st cd mk len cl 0
  unfold g_Reader_readPart partP
  rw [if_pos h.1.1, hp2, Option.bind_some, nv0]
  by_cases c : wd B st 2 = 0
  · have hlt : st.1 < st.2.1 := by
      rcases hwr with e | e
      · omega
      · exact e.2.2
    rw [if_pos (peq c), if_pos c, nv8]
    by_cases cb : b = 0
    · rw [if_neg (nlt (by omega)), if_pos cb, ← nv0, stop01 h]
      exact stop_spec (F := inRd rd) h (Fr.rf _ _) rfl
    · obtain ⟨s1, n1, n2, n3⟩ := s_nextS h
      have hT := nxS_T (B := B) (n := n) h.2.2.2.1.1
      have hsp := hin cb s1 (nxS B n st) cd len n2
      rw [if_pos (plt (by omega)), if_neg cb, n1, Option.bind_some, if_pos n2.1.1, nv1, v_add]
      cases hr : inner (nxS B n st) with
      | error e =>
        rw [hr] at hsp
        obtain ⟨s2, a1, a2, a3⟩ := hsp
        rw [a1, Option.bind_some]
        exact ⟨s2, by rw [if_pos (show (v 0, s2).1 = v 0 from rfl)], a2, n3.tr a3⟩
      | ok x =>
        obtain ⟨g, st2⟩ := x
        rw [hr] at hsp
        obtain ⟨s2, cd2, len2, a1, a2, a3, a4, a5, a6⟩ := hsp
        have hp3 := s_placeS a2 (k := 3) (by decide)
        rw [a1, Option.bind_some, if_neg (show ¬ (v 1, s2).1 = v 0 by show ¬ v 1 = v 0; decide)]
        show SpecR (if wd B st2 3 = 0 then _ else _) (if sT s2 rd = 8 then (f_Reader_placeIn s2 rd (strB + 3)).bind _ else none) s rd tp B n ord st cd mk len cl 0
        rw [if_pos a2.1.1, hp3, Option.bind_some]
        have ge : st.2.1 ≤ (nxS B n st).1 := hT.2.1
        by_cases c3 : wd B st2 3 = 0
        · obtain ⟨s3, y1, y2, y3⟩ := s_nextS a2
          have hT2 := nxS_T (B := B) (n := n) a2.2.2.2.1.1
          have hs2 : 0 ≤ st2.1 ∧ st2.1 ≤ st2.2.1 ∧ st2.2.1 ≤ n := a2.2.2.2.1.1.1
          have ge2 : st2.2.1 ≤ (nxS B n st2).1 := hT2.2.1
          rw [if_pos (peq c3), if_pos c3]
          show SpecR _ ((f_Reader_next s2 rd).bind _) s rd tp B n ord st cd mk len cl 0
          rw [y1, Option.bind_some]
          exact ⟨s3, cd2, len2, rfl, y2, a3, a4, ⟨by omega, by omega⟩, (n3.tr a6).tr y3⟩
        · have hw3 := wd_r B st2 3
          have hl3 : ((wrdZ 3).length : Int) = 1 := rfl
          rw [if_neg (pne (by omega)), if_neg c3]
          show SpecR (.error st2.1) ((f_Reader_stop s2 rd).bind _) s rd tp B n ord st cd mk len cl 0
          have hs := stop01 a2
          rw [nv0, nv1] at hs
          rw [hs]
          exact stop_spec (F := inRd rd) a2 (n3.tr a6) rfl
  · have hl2 : ((wrdZ 2).length : Int) = 1 := rfl
    have hnum := s_numS h (lo := 0) (hi := 1000) (by decide)
    have h1 := s_onePart (Rg := Rg) h
    have h3 := h.2.1.1
    rw [if_neg (pne (by omega)), if_neg c, show nI 1000 = v 1000 from rfl, hnum, Option.bind_some, h3]
    cases ord with
    | false =>
      rw [if_pos (show v (if false = true then 1 else 0) = v 0 by decide)]
      exact h1
    | true =>
      rw [if_neg (show ¬ v (if true = true then 1 else 0) = v 0 by decide)]
      exact h1
/-- signs that wait: where their left sides are -/
def psOK (cd : Int → Int) (i0 i1 lo hi : Int) (p : Option (Int × SEM)) : Prop := match p with
  | none => i1 = i0
  | some (op, h) => Seg (insC cd) i0 i1 h ∧ lo ≤ op ∧ op ≤ hi
def PendOK (cd : Int → Int) (i0 len : Int) (ps pt : Option (Int × SEM)) : Prop := ∃ i1, psOK cd i0 i1 2 3 ps ∧ psOK cd i1 len 4 6 pt
def opN (p : Option (Int × SEM)) : Int := match p with
  | none => -1
  | some (op, _) => op
def pdN (p : Option (Int × SEM)) : Int := match p with
  | none => 0
  | some _ => 1
/-- a sign that waited comes -/
theorem s_wait {s : AS} {st : STK} {cd : Int → Int} {len i0 i1 : Int} {p : Option (Int × SEM)} {g : SEM} (h : RdS s rd tp B n ord st cd mk len cl) (hl : len + pdN p ≤ st.1) (hp : psOK cd i0 i1 2 9 p) (hg : Seg (insC cd) i1 len g) :
    ∃ s' cd' len', (∀ (K : AS → Option (Int32 × AS)), (if v (opN p) = v (-1) then K s else (f_Text_add s (rd + 1) (v (opN p)) (nI 0)).bind K) = K s') ∧ RdS s' rd tp B n ord st cd' mk len' cl ∧ Seg (insC cd') i0 len' (waitS p g) ∧ len' = len + pdN p ∧ (∀ z, 0 ≤ z → z < len → cd' z = cd z) ∧ Fr (inRd rd) s s' := by
  cases p with
  | none =>
    have e : i1 = i0 := hp
    subst e
    exact ⟨s, cd, len, fun K => if_pos rfl, h, hg, by show len = len + 0; omega, fun _ _ _ => rfl, Fr.rf _ _⟩
  | some x =>
    obtain ⟨op, f⟩ := x
    obtain ⟨h1, h2, h3⟩ := hp
    have hl' : len + 1 ≤ st.1 := hl
    have hg1 := hg.1
    have hcl := h.2.2.2.2.2.1.2.1
    obtain ⟨s', q1, q2, q3⟩ := s_addS (ct' := st.2.2) h (step := op) (wth := 0) (by omega) (by omega) (by omega) (fun c => by omega) ⟨by rw [if_neg (by omega)]; omega, h.2.2.2.2.2.1.2.2.2⟩
    refine ⟨s', bu cd len (op + 16 * 0), len + 1, fun K => ?_, q2, ?_, rfl, fun z z0 z1 => ?_, q3⟩
    · show (if v op = v (-1) then _ else (f_Text_add s (rd + 1) (v op) (nI 0)).bind K) = K s'
      rw [if_neg (pne (by omega)), nv0, q1, Option.bind_some]
    · have h1' := h1.1
      exact Seg.bin (h1.agr (agr_bu (by omega))) (hg.agr (agr_bu (Int.le_refl _))) (insC_bu (step := op) (wth := 0) (by omega)) ⟨h2, h3⟩
    · unfold bu
      rw [if_neg (by omega)]
end RS
