/-! THE CLASS'S READER: plain tests -/
section RPM
variable {rd tp : Nat} {B : Int → Int} {n : Int} {ord : Bool} {mk : Int → Int} {cl : Int}
theorem SpecR.mo {r : RSL} {o : Option (Int32 × AS)} {s s1 : AS} {st st1 : STK} {cd : Int → Int} {len slk slk1 : Int} (h : SpecR r o s1 rd tp B n ord st1 cd mk len cl slk1) (hf : Fr (inRd rd) s s1) (h1 : st.1 ≤ st1.1) (h2 : slk1 - st1.1 ≤ slk - st.1) : SpecR r o s rd tp B n ord st cd mk len cl slk := by
  cases r with
  | error e =>
    obtain ⟨s2, a1, a2, a3⟩ := h
    exact ⟨s2, a1, a2, hf.tr a3⟩
  | ok x =>
    obtain ⟨g, st'⟩ := x
    obtain ⟨s2, cd2, len2, a1, a2, a3, a4, ⟨a5, a7⟩, a6⟩ := h
    exact ⟨s2, cd2, len2, a1, a2, a3, a4, ⟨by omega, by omega⟩, hf.tr a6⟩
theorem s_base {Rg : RgBT} {b : Nat} {d : Int} (hd : d + b = 8 ∧ 0 ≤ d) {inner : STK → RSL} (hin : b ≠ 0 → ReadOK rd tp B n ord mk cl (rg_Reader_readTest Rg) (d + 1) inner) {tr : Bool} {s : AS} {st : STK} {cd : Int → Int} {len : Int} (h : RdS s rd tp B n ord st cd mk len cl) (hl : len + (if tr = true then 1 else 0) ≤ st.1) :
    SpecR (baseP B n ord b inner tr st) (b_Reader_readPlain_40 Rg rd (v d) (v (if tr = true then 1 else 0)) s) s rd tp B n ord st cd mk len cl (if tr = true then 1 else 0) := by
  have ht : 0 ≤ (if tr = true then (1 : Int) else 0) ∧ (if tr = true then (1 : Int) else 0) ≤ 1 := by cases tr <;> decide
  have hp := s_placeS h (k := 13) (by decide)
  have hst : 0 ≤ st.1 ∧ st.1 ≤ st.2.1 ∧ st.2.1 ≤ n := h.2.2.2.1.1.1
  have hwr := wd_r B st 13
  have hl2 : ((wrdZ 13).length : Int) = 1 := rfl
  have hT := nxS_T (B := B) (n := n) h.2.2.2.1.1
  have hcl : 0 ≤ len := h.2.2.2.2.2.1.2.1
  unfold b_Reader_readPlain_40 baseP
  rw [if_pos h.1.1, hp, Option.bind_some, nv0]
  by_cases c : wd B st 13 = 0
  · have hlt : st.1 < st.2.1 := by
      rcases hwr with e | e
      · omega
      · exact e.2.2
    rw [if_pos (peq c), if_pos c, nv8]
    by_cases cb : b = 0
    · rw [if_neg (nlt (by omega)), if_pos cb, ← nv0, stop01 h]
      exact stop_spec (F := inRd rd) h (Fr.rf _ _) rfl
    · obtain ⟨s1, n1, n2, n3⟩ := s_nextS h
      have hsp := hin cb s1 (nxS B n st) cd len n2
      rw [if_pos (plt (by omega)), if_neg cb, n1, Option.bind_some, if_pos n2.1.1, nv1, v_add]
      cases hr : inner (nxS B n st) with
      | error e =>
        rw [hr] at hsp
        obtain ⟨s2, a1, a2, a3⟩ := hsp
        rw [a1, Option.bind_some]
        exact ⟨s2, by rw [if_pos (show (v 0, s2).1 = v 0 from rfl)], a2, n3.tr a3⟩
      | ok x =>
        obtain ⟨g, st2⟩ := x
        rw [hr] at hsp
        obtain ⟨s2, cd2, len2, a1, a2, a3, a4, ⟨a5, a7⟩, a6⟩ := hsp
        have hp3 := s_placeS a2 (k := 14) (by decide)
        rw [a1, Option.bind_some, if_neg (show ¬ (v 1, s2).1 = v 0 by show ¬ v 1 = v 0; decide)]
        show SpecR (if wd B st2 14 = 0 then _ else _) (if sT s2 rd = 8 then (f_Reader_placeIn s2 rd (strB + 14)).bind _ else none) s rd tp B n ord st cd mk len cl _
        rw [if_pos a2.1.1, hp3, Option.bind_some]
        have ge : st.2.1 ≤ (nxS B n st).1 := hT.2.1
        have hw3 := wd_r B st2 14
        by_cases c3 : wd B st2 14 = 0
        · obtain ⟨s3, y1, y2, y3⟩ := s_nextS a2
          have hT2 := nxS_T (B := B) (n := n) a2.2.2.2.1.1
          have hs2 : 0 ≤ st2.1 ∧ st2.1 ≤ st2.2.1 ∧ st2.2.1 ≤ n := a2.2.2.2.1.1.1
          have ge2 : st2.2.1 ≤ (nxS B n st2).1 := hT2.2.1
          have hlt2 : st2.1 < st2.2.1 := by
            rcases hw3 with e | e
            · omega
            · exact e.2.2
          have hle2 : len2 ≤ st2.1 := a2.2.2.2.2.2.2
          have hll := a3.1
          obtain ⟨s4, cd4, len4, z1, z2, z3, z4, z5, z6⟩ := s_plain150 (Rg := Rg) (tr := tr) y2 a3 hcl (by omega)
          rw [if_pos (peq c3), if_pos c3]
          show SpecR _ ((f_Reader_next s2 rd).bind _) s rd tp B n ord st cd mk len cl _
          rw [y1, Option.bind_some, z1]
          exact ⟨s4, cd4, len4, rfl, z2, z3, fun z q0 q1 => by rw [z4 z q0 (by omega), a4 z q0 q1], ⟨by omega, by omega⟩, ((n3.tr a6).tr y3).tr z6⟩
        · have hl3 : ((wrdZ 14).length : Int) = 1 := rfl
          rw [if_neg (pne (by omega)), if_neg c3]
          show SpecR (.error st2.1) ((f_Reader_stop s2 rd).bind _) s rd tp B n ord st cd mk len cl _
          have hs := stop01 a2
          rw [nv0, nv1] at hs
          rw [hs]
          exact stop_spec (F := inRd rd) a2 (n3.tr a6) rfl
  · have hsp := s_readSum (b := b) (d := d) hd s st cd len h
    rw [if_neg (pne (by omega)), if_neg c]
    cases hr : sumD B n ord b st with
    | error e =>
      rw [hr] at hsp
      obtain ⟨s2, a1, a2, a3⟩ := hsp
      rw [a1, Option.bind_some]
      exact ⟨s2, by rw [if_pos (show (v 0, s2).1 = v 0 from rfl)], a2, a3⟩
    | ok x =>
      obtain ⟨g1, st1⟩ := x
      rw [hr] at hsp
      obtain ⟨s1, cd1, len1, a1, a2, a3, a4, ⟨a5, a7⟩, a6⟩ := hsp
      have hp15 := s_placeS a2 (k := 15) (by decide)
      have hw := wd_r B st1 15
      have hl15 : ((wrdZ 15).length : Int) = 3 := rfl
      rw [a1, Option.bind_some, if_neg (show ¬ (v 1, s1).1 = v 0 by show ¬ v 1 = v 0; decide)]
      show SpecR (if wd B st1 15 = -1 then .error st1.1 else _) (if sT s1 rd = 8 then (f_Reader_placeIn s1 rd (strB + 15)).bind _ else none) s rd tp B n ord st cd mk len cl _
      rw [if_pos a2.1.1, hp15, Option.bind_some, nv1, v_neg]
      by_cases c15 : wd B st1 15 = -1
      · rw [if_pos (peq c15), if_pos c15]
        show SpecR (.error st1.1) ((f_Reader_stop s1 rd).bind _) s rd tp B n ord st cd mk len cl _
        have hs := stop01 a2
        rw [nv0, nv1] at hs
        rw [hs]
        exact stop_spec (F := inRd rd) a2 a6 rfl
      · obtain ⟨s2, y1, y2, y3⟩ := s_nextS a2
        have hT1 := nxS_T (B := B) (n := n) a2.2.2.2.1.1
        have ge1 : st1.2.1 ≤ (nxS B n st1).1 := hT1.2.1
        have hlt1 : st1.1 < st1.2.1 := by
          rcases hw with e | e
          · exact absurd e c15
          · exact e.2.2
        have hsp2 := s_readSum (b := b) (d := d) hd s2 (nxS B n st1) cd1 len1 y2
        have hle1 : len1 ≤ st1.1 := a2.2.2.2.2.2.2
        rw [if_neg (pne (by omega)), if_neg c15]
        show SpecR _ ((f_Reader_next s1 rd).bind _) s rd tp B n ord st cd mk len cl _
        rw [y1, Option.bind_some, if_pos y2.1.1]
        cases hr2 : sumD B n ord b (nxS B n st1) with
        | error e =>
          rw [hr2] at hsp2
          obtain ⟨s3, b1, b2, b3⟩ := hsp2
          rw [b1, Option.bind_some]
          exact ⟨s3, by rw [if_pos (show (v 0, s3).1 = v 0 from rfl)], b2, (a6.tr y3).tr b3⟩
        | ok x =>
          obtain ⟨g2, st2⟩ := x
          rw [hr2] at hsp2
          obtain ⟨s3, cd3, len3, b1, b2, b3, b4, ⟨b5, b7⟩, b6⟩ := hsp2
          have hll := a3.1
          have hll2 := b3.1
          obtain ⟨s4, q1, q2, q3⟩ := s_addS (ct' := st2.2.2) b2 (step := 7 + wd B st1 15) (wth := 0) (by omega) (by omega) (by decide) (fun c => by omega) ⟨by rw [if_neg (by omega)]; omega, b2.2.2.2.2.2.1.2.2.2⟩
          have agr : Agr (insC cd1) (insC cd3) len len1 := fun z z0 z1 => by
            show (cd3 z % 16, cd3 z / 16) = (cd1 z % 16, cd1 z / 16)
            rw [b4 z (by omega) (by omega)]
          have hseg : Seg (insC (bu cd3 len3 (7 + wd B st1 15 + 16 * 0))) len (len3 + 1) (binS (7 + wd B st1 15) g1 g2) :=
            Seg.bin ((a3.agr agr).agr (agr_bu (by omega))) (b3.agr (agr_bu (Int.le_refl _))) (insC_bu (step := 7 + wd B st1 15) (wth := 0) (by omega)) ⟨by omega, by omega⟩
          obtain ⟨s5, cd5, len5, z1, z2, z3, z4, z5, z6⟩ := s_plain150 (Rg := Rg) (tr := tr) (st := st2) q2 hseg hcl (by omega)
          rw [b1, Option.bind_some, if_neg (show ¬ (v 1, s3).1 = v 0 by show ¬ v 1 = v 0; decide)]
          show SpecR _ (if sT s3 rd = 8 then (if sT s3 (sR s3 rd 0) = 12 then (f_Text_add s3 (sR s3 rd 0) (nI 7 + v (wd B st1 15)) (v 0)).bind _ else none) else none) s rd tp B n ord st cd mk len cl _
          rw [if_pos b2.1.1, b2.1.2.1.1, if_pos b2.2.2.1.1.1, nv7, v_add, q1, Option.bind_some, z1]
          refine ⟨s5, cd5, len5, rfl, z2, z3, fun z u0 u1 => ?_, ⟨by omega, by omega⟩, (((a6.tr y3).tr b6).tr q3).tr z6⟩
          rw [z4 z u0 (by omega)]
          unfold bu
          rw [if_neg (by omega), b4 z u0 (by omega), a4 z u0 u1]
theorem s_plainL {Rg : RgBT} {b : Nat} {d : Int} (hd : d + b = 8 ∧ 0 ≤ d) {inner : STK → RSL} (hin : b ≠ 0 → ReadOK rd tp B n ord mk cl (rg_Reader_readTest Rg) (d + 1) inner) :
    ∀ (k m : Nat) (i : Int) (tr : Bool) (s : AS) (st : STK) (cd : Int → Int) (len : Int), i + k = 400 → 0 ≤ i → k < m → RdS s rd tp B n ord st cd mk len cl → len + (if tr = true then 1 else 0) ≤ st.1 →
    SpecR (plainL B n (baseP B n ord b inner) k tr st) (l_Reader_readPlain_4 Rg m rd (v d) (v (if tr = true then 1 else 0)) (v i) s) s rd tp B n ord st cd mk len cl (if tr = true then 1 else 0) := by
  intro k
  induction k with
  | zero =>
    intro m i tr s st cd len hi hi0 hm h hl
    obtain ⟨m, rfl⟩ : ∃ x, m = x + 1 := ⟨m - 1, by omega⟩
    show SpecR (baseP B n ord b inner tr st) (b_Reader_readPlain_4 Rg (l_Reader_readPlain_4 Rg m) _ _ _ _ _) s rd tp B n ord st cd mk len cl _
    unfold b_Reader_readPlain_4
    rw [nv400, if_neg (nlt (by omega))]
    exact s_base hd hin h hl
  | succ k ih =>
    intro m i tr s st cd len hi hi0 hm h hl
    obtain ⟨m, rfl⟩ : ∃ x, m = x + 1 := ⟨m - 1, by omega⟩
    have hp := s_placeS h (k := 12) (by decide)
    have hw := wd_r B st 12
    have hl12 : ((wrdZ 12).length : Int) = 1 := rfl
    have hT := nxS_T (B := B) (n := n) h.2.2.2.1.1
    have ht : 0 ≤ (if tr = true then (1 : Int) else 0) ∧ (if tr = true then (1 : Int) else 0) ≤ 1 := by cases tr <;> decide
    have ht2 : 0 ≤ (if (!tr) = true then (1 : Int) else 0) ∧ (if (!tr) = true then (1 : Int) else 0) ≤ 1 := by cases tr <;> decide
    show SpecR (if wd B st 12 = 0 then plainL B n (baseP B n ord b inner) k (!tr) (nxS B n st) else baseP B n ord b inner tr st) (b_Reader_readPlain_4 Rg (l_Reader_readPlain_4 Rg m) _ _ _ _ _) s rd tp B n ord st cd mk len cl _
    unfold b_Reader_readPlain_4
    rw [nv400, if_pos (plt (by omega)), if_pos h.1.1, hp, Option.bind_some, nv0]
    by_cases c : wd B st 12 = 0
    · obtain ⟨s1, n1, n2, n3⟩ := s_nextS h
      have ge : st.2.1 ≤ (nxS B n st).1 := hT.2.1
      have hlt : st.1 < st.2.1 := by
        rcases hw with e | e
        · omega
        · exact e.2.2
      rw [if_pos (peq c), if_pos c]
      unfold b_Reader_readPlain_29
      rw [if_pos h.1.1, n1, Option.bind_some, nv1, v_add, show (if v (if tr = true then 1 else 0) = v 0 then v 1 else v 0) = v (if (!tr) = true then 1 else 0) by cases tr <;> decide]
      exact (ih m (i + 1) (!tr) s1 (nxS B n st) cd len (by omega) (by omega) (by omega) n2 (by omega)).mo n3 (by omega) (by omega)
    · rw [if_neg (pne (by omega)), if_neg c]
      exact s_base hd hin h hl
theorem s_readPlain {Rg : RgBT} {b : Nat} {d : Int} (hd : d + b = 8 ∧ 0 ≤ d) {inner : STK → RSL} (hin : b ≠ 0 → ReadOK rd tp B n ord mk cl (rg_Reader_readTest Rg) (d + 1) inner) : ReadOK rd tp B n ord mk cl (fun s a x => g_Reader_readPlain Rg s a x) d (plainD B n ord b inner) := by
  intro s st cd len h
  have hle : len ≤ st.1 := h.2.2.2.2.2.2
  have := s_plainL (Rg := Rg) hd hin 400 fuel 0 false s st cd len (by omega) (by omega) (by unfold fuel; omega) h (by show len + 0 ≤ _; omega)
  show SpecR _ (g_Reader_readPlain Rg s rd (v d)) s rd tp B n ord st cd mk len cl 0
  unfold g_Reader_readPlain
  rw [nv0]
  exact this
end RPM
