/-! THE CLASS'S READER: a sum, whole -/
section RSL
variable {rd tp : Nat} {B : Int → Int} {n : Int} {ord : Bool} {mk : Int → Int} {cl : Int}
theorem s_sumL {Rg : RgAT} {d : Int} {part : STK → RSL} (hpart : ReadOK rd tp B n ord mk cl (rg_Reader_readPart Rg) d part) {s0 : AS} {st0 : STK} {cd0 : Int → Int} {i0 : Int} (hi0 : 0 ≤ i0) :
    ∀ (k m : Nat) (i : Int) (ps pt : Option (Int × SEM)) (s : AS) (st : STK) (cd : Int → Int) (len : Int), i + k = 400 → 0 ≤ i ∧ 2 * i ≤ st.1 → k < m → RdS s rd tp B n ord st cd mk len cl → PendOK cd i0 len ps pt → (len + pdN ps + pdN pt - st.1 ≤ i0 - st0.1 ∧ i0 ≤ st0.1 ∧ st0.1 ≤ st.1) → (∀ z, 0 ≤ z → z < i0 → cd z = cd0 z) → Fr (inRd rd) s0 s →
    SpecR (sumLp B n part k ps pt st) (l_Reader_readSum_7 Rg m rd (v d) (v (opN pt)) (v (opN ps)) (v i) s) s0 rd tp B n ord st0 cd0 mk i0 cl 0 := by
  intro k
  induction k with
  | zero =>
    intro m i ps pt s st cd len hi hi2 hm h
    have hst : 0 ≤ st.1 ∧ st.1 ≤ st.2.1 ∧ st.2.1 ≤ n := h.2.2.2.1.1.1
    have hn := h.2.2.2.2.1.1
    omega
  | succ k ih =>
    intro m i ps pt s st cd len hi hi2 hm h hP hsl hcd hf
    obtain ⟨m, rfl⟩ : ∃ x, m = x + 1 := ⟨m - 1, by omega⟩
    obtain ⟨i1, hp1, hp2⟩ := hP
    have hst : 0 ≤ st.1 ∧ st.1 ≤ st.2.1 ∧ st.2.1 ≤ n := h.2.2.2.1.1.1
    have hn := h.2.2.2.2.1.1
    have hsp := hpart s st cd len h
    have hpd1 : 0 ≤ pdN ps ∧ pdN ps ≤ 1 := by
      cases ps with
      | none => exact ⟨by decide, by decide⟩
      | some x => exact ⟨show (0 : Int) ≤ 1 by decide, show (1 : Int) ≤ 1 by decide⟩
    have hpd2 : 0 ≤ pdN pt ∧ pdN pt ≤ 1 := by
      cases pt with
      | none => exact ⟨by decide, by decide⟩
      | some x => exact ⟨show (0 : Int) ≤ 1 by decide, show (1 : Int) ≤ 1 by decide⟩
    have hops : -1 ≤ opN ps ∧ opN ps ≤ 9 := by
      cases ps with
      | none => exact ⟨by decide, by decide⟩
      | some x => obtain ⟨op, f⟩ := x; have := hp1.2; exact ⟨by show -1 ≤ op; omega, by show op ≤ 9; omega⟩
    have hopt : -1 ≤ opN pt ∧ opN pt ≤ 9 := by
      cases pt with
      | none => exact ⟨by decide, by decide⟩
      | some x => obtain ⟨op, f⟩ := x; have := hp2.2; exact ⟨by show -1 ≤ op; omega, by show op ≤ 9; omega⟩
    have hi1 : i0 ≤ i1 ∧ i1 ≤ len := by
      constructor
      · cases ps with
        | none => have e : i1 = i0 := hp1; omega
        | some x => have := hp1.1.1; omega
      · cases pt with
        | none => have e : len = i1 := hp2; omega
        | some x => have := hp2.1.1; omega
    show SpecR _ (b_Reader_readSum_7 _ _ _ _ _ _ _ _) s0 rd tp B n ord st0 cd0 mk i0 cl 0
    unfold b_Reader_readSum_7
    rw [nv400, if_pos (plt (by omega)), if_pos h.1.1, nv0, nv1, v_neg]
    unfold sumLp
    cases hr : part st with
    | error e =>
      rw [hr] at hsp
      obtain ⟨s2, a1, a2, a3⟩ := hsp
      rw [a1, Option.bind_some]
      exact ⟨s2, by rw [if_pos (show (v 0, s2).1 = v 0 from rfl)], a2, hf.tr a3⟩
    | ok x =>
      obtain ⟨g, st1⟩ := x
      rw [hr] at hsp
      obtain ⟨s1, cd1, len1, a1, a2, a3, a4, ⟨a5, a7⟩, a6⟩ := hsp
      have hst1 : 0 ≤ st1.1 ∧ st1.1 ≤ st1.2.1 ∧ st1.2.1 ≤ n := a2.2.2.2.1.1.1
      -- what waited is where it was
      have agr : ∀ a b, 0 ≤ a → b ≤ len → Agr (insC cd) (insC cd1) a b := fun a b h0 hb z z0 z1 => by
        show (cd1 z % 16, cd1 z / 16) = (cd z % 16, cd z / 16)
        rw [a4 z (by omega) (by omega)]
      obtain ⟨s2, cd2, len2, b1, b2, b3, b4, b5, b6⟩ := s_wait (i0 := i1) (i1 := len) (p := pt) (g := g) a2 (by omega) (by
        cases pt with
        | none => exact hp2
        | some x => exact ⟨hp2.1.agr (agr _ _ (by omega) (Int.le_refl _)), by have := hp2.2; omega, by have := hp2.2; omega⟩) a3
      have hf2 : Fr (inRd rd) s0 s2 := (hf.tr a6).tr b6
      have hcd2 : ∀ z, 0 ≤ z → z < len → cd2 z = cd z := fun z z0 z1 => by rw [b5 z z0 (by have := a3.1; omega), a4 z z0 z1]
      have agr2 : ∀ a b, 0 ≤ a → b ≤ len → Agr (insC cd) (insC cd2) a b := fun a b h0 hb z z0 z1 => by
        show (cd2 z % 16, cd2 z / 16) = (cd z % 16, cd z / 16)
        rw [hcd2 z (by omega) (by omega)]
      have hps2 : psOK cd2 i0 i1 2 3 ps := by
        cases ps with
        | none => exact hp1
        | some x => exact ⟨hp1.1.agr (agr2 _ _ hi0 (by omega)), hp1.2⟩
      rw [a1, Option.bind_some, if_neg (show ¬ (v 1, s1).1 = v 0 by show ¬ v 1 = v 0; decide)]
      show SpecR (if wd B st1 6 ≠ -1 then sumLp B n part k ps (some (4 + wd B st1 6, waitS pt g)) (nxS B n st1) else if wd B st1 7 ≠ -1 then sumLp B n part k (some (2 + wd B st1 7, waitS ps (waitS pt g))) none (nxS B n st1) else .ok (waitS ps (waitS pt g), st1)) (if v (opN pt) = v (-1) then b_Reader_readSum_37 Rg (l_Reader_readSum_7 Rg m) rd (v d) (v (opN ps)) (v i) s1 else if sT s1 rd = 8 then (if sT s1 (sR s1 rd 0) = 12 then (f_Text_add s1 (sR s1 rd 0) (v (opN pt)) (v 0)).bind _ else none) else none) s0 rd tp B n ord st0 cd0 mk i0 cl 0
      rw [if_pos a2.1.1, a2.1.2.1.1, if_pos a2.2.2.1.1.1]
      have hb1 := b1 (b_Reader_readSum_37 Rg (l_Reader_readSum_7 Rg m) rd (v d) (v (opN ps)) (v i))
      rw [nv0] at hb1
      rw [hb1]
      have hp6 := s_placeS b2 (k := 6) (by decide)
      have hw6 := wd_r B st1 6
      have hl6 : ((wrdZ 6).length : Int) = 3 := rfl
      have hT := nxS_T (B := B) (n := n) b2.2.2.2.1.1
      have hge : st1.2.1 ≤ (nxS B n st1).1 := hT.2.1
      unfold b_Reader_readSum_37 b_Reader_readSum_59
      rw [if_pos b2.1.1, hp6, Option.bind_some, nv1, v_neg]
      by_cases c6 : wd B st1 6 = -1
      · rw [if_pos (peq c6), if_pos (peq c6), if_neg (c := wd B st1 6 ≠ -1) (fun e => e c6)]
        obtain ⟨s3, cd3, len3, d1, d2, d3, d4, d5, d6⟩ := s_wait (i0 := i0) (i1 := i1) (p := ps) (g := waitS pt g) b2 (by omega) (by
          cases ps with
          | none => exact hps2
          | some x => exact ⟨hps2.1, hps2.2.1, by have := hps2.2.2; omega⟩) b3
        have hf3 : Fr (inRd rd) s0 s3 := hf2.tr d6
        have hcd3 : ∀ z, 0 ≤ z → z < i0 → cd3 z = cd0 z := fun z z0 z1 => by rw [d5 z z0 (by have := b3.1; omega), hcd2 z z0 (by omega), hcd z z0 z1]
        rw [if_pos b2.1.1, b2.1.2.1.1, if_pos b2.2.2.1.1.1]
        have hd1 := d1 (b_Reader_readSum_80 Rg (l_Reader_readSum_7 Rg m) rd (v d) (v (-1)) (v i))
        rw [hd1]
        have hp7 := s_placeS d2 (k := 7) (by decide)
        have hw7 := wd_r B st1 7
        have hl7 : ((wrdZ 7).length : Int) = 2 := rfl
        unfold b_Reader_readSum_80 b_Reader_readSum_101
        rw [if_pos d2.1.1, hp7, Option.bind_some, nv1, v_neg]
        by_cases c7 : wd B st1 7 = -1
        · rw [if_pos (peq c7), if_neg (c := wd B st1 7 ≠ -1) (fun e => e c7)]
          exact ⟨s3, cd3, len3, rfl, d2, d3, hcd3, ⟨by omega, by omega⟩, hf3⟩
        · obtain ⟨s4, y1, y2, y3⟩ := s_nextS d2
          have h7lt : st1.1 < st1.2.1 := by rcases hw7 with e | e; · exact absurd e c7
                                            · exact e.2.2
          rw [if_neg (pne (by omega)), if_pos (c := wd B st1 7 ≠ -1) c7, if_pos d2.1.1, y1, Option.bind_some, nv2, v_add, v_add]
          exact ih m (i + 1) (some (2 + wd B st1 7, waitS ps (waitS pt g))) none s4 (nxS B n st1) cd3 len3 (by omega) ⟨by omega, by omega⟩ (by omega) y2 ⟨len3, ⟨d3, by omega, by omega⟩, rfl⟩ ⟨by show len3 + 1 + 0 - _ ≤ _; omega, hsl.2.1, by omega⟩ hcd3 (hf3.tr y3)
      · obtain ⟨s4, y1, y2, y3⟩ := s_nextS b2
        have h6lt : st1.1 < st1.2.1 := by rcases hw6 with e | e; · exact absurd e c6
                                          · exact e.2.2
        rw [if_neg (pne (by omega)), if_neg (pne (by omega)), if_pos (c := wd B st1 6 ≠ -1) c6]
        unfold b_Reader_readSum_101
        rw [if_pos b2.1.1, y1, Option.bind_some, nv4, v_add, nv1, v_add]
        exact ih m (i + 1) ps (some (4 + wd B st1 6, waitS pt g)) s4 (nxS B n st1) cd2 len2 (by omega) ⟨by omega, by omega⟩ (by omega) y2 ⟨i1, hps2, ⟨b3, by omega, by omega⟩⟩ ⟨by show len2 + pdN ps + 1 - _ ≤ _; omega, hsl.2.1, by omega⟩ (fun z z0 z1 => by rw [hcd2 z z0 (by omega), hcd z z0 z1]) (hf2.tr y3)
end RSL
