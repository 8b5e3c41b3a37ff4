/-! THE CLASS'S READER: tests, whole -/
section RTL
variable {rd tp : Nat} {B : Int → Int} {n : Int} {ord : Bool} {mk : Int → Int} {cl : Int}
theorem l_test0 {Rg : RgBT} {m : Nat} {d a q : Int} {i : Int} {s : AS} : l_Reader_readTest_14 Rg (m + 1) rd (v d) (v a) (v q) (v 0) (v i) s = some (v 0, s) := by
  show b_Reader_readTest_14 _ _ _ _ _ _ _ _ _ = _
  unfold b_Reader_readTest_14
  rw [nv0, if_pos (c := v 0 = v 0) rfl]
  by_cases c : v i < nI 400
  · rw [if_pos c]
  · rw [if_neg c]
theorem s_testL {Rg : RgBT} {d : Int} {plain : STK → RSL} (hpl : ReadOK rd tp B n ord mk cl (rg_Reader_readPlain Rg) d plain) {s0 : AS} {st0 : STK} {cd0 : Int → Int} {i0 : Int} (hi0 : 0 ≤ i0) :
    ∀ (k m : Nat) (i a q : Int) (F G : SEM) (s : AS) (st : STK) (cd : Int → Int) (len : Int), i + k = 400 → 0 ≤ i ∧ 2 * i ≤ st.1 → k < m → RdS s rd tp B n ord st cd mk len cl →
    ((a = -1 ∨ (i0 ≤ a ∧ cd a % 16 = 11)) ∧ a < len) → ((q = -1 ∨ (i0 ≤ q ∧ cd q % 16 = 12)) ∧ q < len) → Ch (insC (aimC cd a len)) i0 len q F G → (len - st.1 ≤ i0 - st0.1 ∧ st0.1 < st.1) → (∀ z, 0 ≤ z → z < i0 → cd z = cd0 z) → Fr (inRd rd) s0 s →
    SpecR (testL B n plain k F G st) (l_Reader_readTest_14 Rg m rd (v d) (v a) (v q) (v 1) (v i) s) s0 rd tp B n ord st0 cd0 mk i0 cl 0 := by
  intro k
  induction k with
  | zero =>
    intro m i a q F G s st cd len hi hi2 hm h
    have hst : 0 ≤ st.1 ∧ st.1 ≤ st.2.1 ∧ st.2.1 ≤ n := h.2.2.2.1.1.1
    have hn := h.2.2.2.2.1.1
    omega
  | succ k ih =>
    intro m i a q F G s st cd len hi hi2 hm h ha hq hch hsl hcd hf
    obtain ⟨m, rfl⟩ : ∃ x, m = x + 1 := ⟨m - 1, by omega⟩
    have hst : 0 ≤ st.1 ∧ st.1 ≤ st.2.1 ∧ st.2.1 ≤ n := h.2.2.2.1.1.1
    have hn := h.2.2.2.2.1.1
    have hp := s_placeS h (k := 16) (by decide)
    have hw := wd_r B st 16
    have hl16 : ((wrdZ 16).length : Int) = 2 := rfl
    have hT := nxS_T (B := B) (n := n) h.2.2.2.1.1
    have ge : st.2.1 ≤ (nxS B n st).1 := hT.2.1
    have hcl : 0 ≤ len := h.2.2.2.2.2.1.2.1
    have hil := hch.1
    obtain ⟨s1, a1, a2, a3⟩ := s_aimS h (j := a) ⟨by omega, ha.2⟩ (fun c => by omega)
    have hfA : Fr (inRd rd) s0 s1 := hf.tr a3
    have hcdA : ∀ z, 0 ≤ z → z < i0 → aimC cd a len z = cd0 z := fun z z0 z1 => by rw [aimC_ne (by omega), hcd z z0 z1]
    have hqA : q ≠ -1 → aimC cd a len q % 16 = 12 := fun c => by rw [aimC_mod]; omega
    obtain ⟨s2, b1, b2, b3⟩ := s_aimS a2 (j := q) ⟨by omega, hq.2⟩ (fun c => by have := hqA (by omega); omega)
    have hqB : q ≠ -1 → insC (aimC (aimC cd a len) q len) q = (12, len) := fun c => by
      show (aimC (aimC cd a len) q len q % 16, aimC (aimC cd a len) q len q / 16) = _
      have := hqA c
      rw [aimC_at c, this, show (12 + 16 * len) % 16 = 12 by omega, show (12 + 16 * len) / 16 = len by omega]
    have hcdB : ∀ z, 0 ≤ z → z < i0 → aimC (aimC cd a len) q len z = cd0 z := fun z z0 z1 => by rw [aimC_ne (by omega), hcdA z z0 z1]
    show SpecR (if wd B st 16 = -1 then .ok (orS F G, st) else match plain (nxS B n st) with
      | .error e => .error e
      | .ok (h, st1) => if wd B st 16 = 0 then testL B n plain k F (andS G h) st1 else testL B n plain k (orS F G) h st1) (b_Reader_readTest_14 _ _ _ _ _ _ _ _ _) s0 rd tp B n ord st0 cd0 mk i0 cl 0
    unfold b_Reader_readTest_14
    rw [nv400, if_pos (plt (by omega)), nv0, if_neg (show ¬ v 1 = v 0 by decide), if_pos h.1.1, hp, Option.bind_some, h.1.2.1.1, if_pos h.2.2.1.1.1, a1, Option.bind_some]
    by_cases c0 : wd B st 16 = 0
    · have hlt : st.1 < st.2.1 := by
        rcases hw with e | e
        · omega
        · exact e.2.2
      obtain ⟨s3, s4, j1, j2, j3, j4, j5⟩ := s_jumpN a2 (step := 11) (by omega) hlt
      have hsp := hpl s4 (nxS B n st) _ _ j4
      rw [if_pos (peq c0), if_neg (c := wd B st 16 = -1) (by omega)]
      unfold b_Reader_readTest_56 b_Reader_readTest_82 b_Reader_readTest_101
      rw [nv1, v_neg, if_neg (pne (by omega)), nv0, if_pos (peq c0), if_pos a2.1.1, a2.1.2.1.1, if_pos a2.2.2.1.1.1, show nI 11 = v 11 from rfl, j1, Option.bind_some, if_pos (peq c0), if_pos j2, j3, Option.bind_some, if_pos j4.1.1]
      cases hr : plain (nxS B n st) with
      | error e =>
        rw [hr] at hsp
        obtain ⟨s5, d1, d2, d3⟩ := hsp
        rw [d1, Option.bind_some, v_add]
        obtain ⟨m, rfl⟩ : ∃ x, m = x + 1 := ⟨m - 1, by omega⟩
        exact ⟨s5, l_test0, d2, (hfA.tr j5).tr d3⟩
      | ok x =>
        obtain ⟨g, st1⟩ := x
        rw [hr] at hsp
        obtain ⟨s5, cd5, len5, d1, d2, d3, d4, ⟨d5, d7⟩, d6⟩ := hsp
        have hll := d3.1
        have hcd5 : ∀ z, 0 ≤ z → z < len → cd5 z = aimC cd a len z := fun z z0 z1 => by
          rw [d4 z z0 (by omega)]
          unfold bu
          rw [if_neg (by omega)]
        have h5len : cd5 len = 11 := by
          rw [d4 len hcl (by omega)]
          unfold bu
          rw [if_pos rfl]
        rw [d1, Option.bind_some, v_add]
        show SpecR (if wd B st 16 = 0 then _ else _) _ s0 rd tp B n ord st0 cd0 mk i0 cl 0
        rw [if_pos (c := wd B st 16 = 0) c0]
        refine ih m (i + 1) len q F (andS G g) s5 st1 cd5 len5 (by omega) ⟨by omega, by omega⟩ (by omega) d2 ⟨Or.inr ⟨by omega, by omega⟩, by omega⟩ ⟨?_, by omega⟩ ?_ ⟨by omega, by omega⟩ (fun z z0 z1 => by rw [hcd5 z z0 (by omega), hcdA z z0 z1]) ((hfA.tr j5).tr d6)
        · rcases hq.1 with e | e
          · exact Or.inl e
          · exact Or.inr ⟨e.1, by rw [hcd5 q (by omega) hq.2, aimC_mod]; exact e.2⟩
        · refine Ch.and (I := insC (aimC cd a len)) (j := len) hi0 hch (d3.agr (fun z z0 z1 => ?_)) ?_ (fun z z0 z1 _ => ?_)
          · show (aimC cd5 len len5 z % 16, aimC cd5 len len5 z / 16) = (cd5 z % 16, cd5 z / 16)
            rw [aimC_ne (by omega)]
          · show (aimC cd5 len len5 len % 16, aimC cd5 len len5 len / 16) = _
            rw [aimC_at (by omega), h5len, show (11 % 16 + 16 * len5) % 16 = 11 by omega, show (11 % 16 + 16 * len5) / 16 = len5 by omega]
          · show (aimC cd5 len len5 z % 16, aimC cd5 len len5 z / 16) = (aimC cd a len z % 16, aimC cd a len z / 16)
            rw [aimC_ne (by omega), hcd5 z (by omega) z1]
    · rw [if_neg (pne (by omega)), if_pos a2.1.1, a2.1.2.1.1, if_pos a2.2.2.1.1.1, b1, Option.bind_some]
      by_cases c1 : wd B st 16 = -1
      · unfold b_Reader_readTest_56
        rw [nv1, v_neg, if_pos (peq c1), if_pos (c := wd B st 16 = -1) c1]
        refine ⟨s2, _, len, rfl, b2, Ch.fin hch (fun z z0 z1 zq => ?_) hqB, hcdB, ⟨by omega, by omega⟩, hfA.tr b3⟩
        show (aimC (aimC cd a len) q len z % 16, aimC (aimC cd a len) q len z / 16) = _
        rw [aimC_ne zq]
      · have hlt : st.1 < st.2.1 := by
          rcases hw with e | e
          · omega
          · exact e.2.2
        obtain ⟨s3, s4, j1, j2, j3, j4, j5⟩ := s_jumpN b2 (step := 12) (by omega) hlt
        have hsp := hpl s4 (nxS B n st) _ _ j4
        rw [if_neg (c := wd B st 16 = -1) c1]
        unfold b_Reader_readTest_56 b_Reader_readTest_82 b_Reader_readTest_101
        rw [nv1, v_neg, if_neg (pne (by omega)), nv0, if_neg (pne (by omega)), if_neg (pne (by omega)), if_pos b2.1.1, b2.1.2.1.1, if_pos b2.2.2.1.1.1, show nI 12 = v 12 from rfl, j1, Option.bind_some, if_pos j2, j3, Option.bind_some, if_pos j4.1.1]
        cases hr : plain (nxS B n st) with
        | error e =>
          rw [hr] at hsp
          obtain ⟨s5, d1, d2, d3⟩ := hsp
          rw [d1, Option.bind_some, v_add]
          obtain ⟨m, rfl⟩ : ∃ x, m = x + 1 := ⟨m - 1, by omega⟩
          exact ⟨s5, l_test0, d2, ((hfA.tr b3).tr j5).tr d3⟩
        | ok x =>
          obtain ⟨g, st1⟩ := x
          rw [hr] at hsp
          obtain ⟨s5, cd5, len5, d1, d2, d3, d4, ⟨d5, d7⟩, d6⟩ := hsp
          have hll := d3.1
          have hcd5 : ∀ z, 0 ≤ z → z < len → cd5 z = aimC (aimC cd a len) q len z := fun z z0 z1 => by
            rw [d4 z z0 (by omega)]
            unfold bu
            rw [if_neg (by omega)]
          have h5len : cd5 len = 12 := by
            rw [d4 len hcl (by omega)]
            unfold bu
            rw [if_pos rfl]
          rw [d1, Option.bind_some, v_add]
          show SpecR (if wd B st 16 = 0 then _ else _) _ s0 rd tp B n ord st0 cd0 mk i0 cl 0
          rw [if_neg (c := wd B st 16 = 0) c0]
          refine ih m (i + 1) (-1) len (orS F G) g s5 st1 cd5 len5 (by omega) ⟨by omega, by omega⟩ (by omega) d2 ⟨Or.inl rfl, by omega⟩ ⟨Or.inr ⟨by omega, by omega⟩, by omega⟩ ?_ ⟨by omega, by omega⟩ (fun z z0 z1 => by rw [hcd5 z z0 (by omega), hcdB z z0 z1]) (((hfA.tr b3).tr j5).tr d6)
          show Ch (insC cd5) i0 len5 len (orS F G) g
          refine Ch.or (I := insC (aimC cd a len)) (j := len) (q := q) (a := 0) hi0 hch d3 ?_ (fun z z0 z1 zq => ?_) (fun c => ?_)
          · show (cd5 len % 16, cd5 len / 16) = _
            rw [h5len]
            rfl
          · show (cd5 z % 16, cd5 z / 16) = (aimC cd a len z % 16, aimC cd a len z / 16)
            rw [hcd5 z (by omega) z1, aimC_ne zq]
          · rw [← hqB c]
            show (cd5 q % 16, cd5 q / 16) = (aimC (aimC cd a len) q len q % 16, aimC (aimC cd a len) q len q / 16)
            rw [hcd5 q (by omega) hq.2]
end RTL
