/-! THE CLASS'S READER -/
def CdI (cd : Int → Int) (len cnt : Int) : Prop := (∀ z, 0 ≤ z → z < len → (0 ≤ cd z ∧ cd z < 100000) ∧ (cd z % 16 = 1 → cd z / 16 < 20)) ∧ 0 ≤ len ∧ sumZ (prtC cd) len.toNat = cnt ∧ cnt ≤ 50
def RdC (s : AS) (rd tp : Nat) (B : Int → Int) (n : Int) (ord : Bool) (st : STK) (ct : Int) (cd mk : Int → Int) (len cl : Int) : Prop := RdK s rd tp B n ∧ (sI s rd 3 = v (if ord = true then 1 else 0) ∧ sI s rd 4 = v st.1 ∧ sI s rd 5 = v st.2.1 ∧ sI s rd 6 = v st.2.2 ∧ sI s rd 7 = v (-1)) ∧ TxF s (rd + 1) cd mk len cl ∧ StT B n st ∧ ((0 ≤ n ∧ n ≤ 400) ∧ ∀ z, 0 ≤ z → z < n → 0 ≤ B z ∧ B z ≤ 255) ∧ CdI cd len ct ∧ len ≤ st.1
abbrev RdS (s : AS) (rd tp : Nat) (B : Int → Int) (n : Int) (ord : Bool) (st : STK) (cd mk : Int → Int) (len cl : Int) : Prop := RdC s rd tp B n ord st st.2.2 cd mk len cl
abbrev inRd (rd : Nat) : Nat → Prop := fun q => rd ≤ q ∧ q ≤ rd + 3
/-- what a reading tells: the place of FAULT, or what was read -/
def SpecR (r : RSL) (o : Option (Int32 × AS)) (s : AS) (rd tp : Nat) (B : Int → Int) (n : Int) (ord : Bool) (st : STK) (cd mk : Int → Int) (len cl slk : Int) : Prop := match r with
  | .error e => ∃ s', o = some (v 0, s') ∧ sI s' rd 7 = v e ∧ Fr (inRd rd) s s'
  | .ok (g, st') => ∃ s' cd' len', o = some (v 1, s') ∧ RdS s' rd tp B n ord st' cd' mk len' cl ∧ Seg (insC cd') len len' g ∧ (∀ z, 0 ≤ z → z < len → cd' z = cd z) ∧ (len' - st'.1 ≤ len - st.1 + slk ∧ st.1 < st'.1) ∧ Fr (inRd rd) s s'
section RD
variable {s : AS} {rd tp : Nat} {B : Int → Int} {n : Int} {ord : Bool} {st : STK} {cd mk : Int → Int} {len cl ct : Int}
theorem s_nextS (h : RdC s rd tp B n ord st ct cd mk len cl) : ∃ s', f_Reader_next s rd = some s' ∧ RdC s' rd tp B n ord (nxS B n st) ct cd mk len cl ∧ Fr (inRd rd) s s' := by
  obtain ⟨h1, ⟨h2, h3, h4, h5, h6⟩, h7, h8, h9, h10, h11⟩ := h
  obtain ⟨t1, t2, t3⟩ := nxS_T (B := B) h8.1
  have hst := h8.1.1
  refine ⟨_, s_next h9.1 h1 (by omega) h4, ⟨(h1.set 4 _).set 5 _, ⟨?_, ?_, ?_, ?_, ?_⟩, ?_, t1, h9, h10, by omega⟩, (Fr.si (by unfold inRd; omega)).tr (Fr.si (by unfold inRd; omega))⟩
  · rw [sI_setI, if_neg (by omega), sI_setI, if_neg (by omega)]; exact h2
  · rw [sI_setI, if_neg (by omega), sI_setI, if_pos ⟨rfl, rfl⟩]; rfl
  · rw [sI_setI, if_pos ⟨rfl, rfl⟩]; rfl
  · rw [sI_setI, if_neg (by omega), sI_setI, if_neg (by omega)]; exact h5
  · rw [sI_setI, if_neg (by omega), sI_setI, if_neg (by omega)]; exact h6
  · exact (h7.fr (Fr.si (F := fun q => q = rd) rfl) (by omega) (by omega) (by omega)).fr (Fr.si (F := fun q => q = rd) rfl) (by omega) (by omega) (by omega)
theorem s_stopS (h : RdC s rd tp B n ord st ct cd mk len cl) : f_Reader_stop s rd = some (nI 0, setI s rd 7 (v st.1)) ∧ sI (setI s rd 7 (v st.1)) rd 7 = v st.1 ∧ Fr (inRd rd) s (setI s rd 7 (v st.1)) := by
  refine ⟨?_, by rw [sI_setI, if_pos ⟨rfl, rfl⟩], Fr.si (by unfold inRd; omega)⟩
  unfold f_Reader_stop
  rw [if_pos h.1.1, h.2.1.2.1]
theorem s_placeS (h : RdC s rd tp B n ord st ct cd mk len cl) {k : Nat} (hk : k < 18) : f_Reader_placeIn s rd (strB + k) = some (v (wd B st k)) := by
  obtain ⟨h1, ⟨h2, h3, h4, h5, h6⟩, h7, h8, h9, -⟩ := h
  exact s_placeIn h1 h9.1 h9.2 ⟨h8.1.1.1, h8.1.1.2.1, h8.1.1.2.2⟩ h3 h4 hk
theorem s_numS (h : RdC s rd tp B n ord st ct cd mk len cl) {lo hi : Int} (hl : r32 lo ∧ r32 hi) : f_Reader_numberIn s rd (v lo) (v hi) = some (v (nm B n st lo hi)) := by
  obtain ⟨h1, ⟨h2, h3, h4, h5, h6⟩, h7, h8, h9, -⟩ := h
  have hst := h8.1.1
  have := s_numberIn (f := st.1) (lo := lo) (hi := hi) h1 h9.1 (by omega) h3 (by rw [← h8.2.1]; exact h4) hl
  unfold nm
  rw [h8.2.1]
  exact this
/-- an instruction comes -/
theorem s_addS (h : RdC s rd tp B n ord st ct cd mk len cl) {step wth : Int} (hl : len < st.1) (hs : 0 ≤ step ∧ step < 16) (hw : 0 ≤ wth ∧ wth ≤ 1000) (h1w : step = 1 → wth < 20) {ct' : Int} (hct : ct' = ct + (if step ≤ 1 then 1 else 0) ∧ ct' ≤ 50) : ∃ s', f_Text_add s (rd + 1) (v step) (v wth) = some s' ∧ RdC s' rd tp B n ord st ct' (bu cd len (step + 16 * wth)) mk (len + 1) cl ∧ Fr (inRd rd) s s' := by
  obtain ⟨h1, h2, h7, h8, h9, h10, h11⟩ := h
  have hst := h8.1.1
  obtain ⟨c1, c2, c3, c4⟩ := h10
  obtain ⟨s', q1, q2, q3⟩ := s_tadd (step := step) (wth := wth) h7 (by omega)
  have q3' : Fr (inRd rd) s s' := q3.mo (fun q hq => by unfold inTx at hq; unfold inRd; omega)
  have hrd : ¬ inTx (rd + 1) rd := by unfold inTx; omega
  refine ⟨s', q1, ⟨h1.fr q3 (by unfold inTx; omega) (by unfold inTx; have := h1.2.2.2.2.2; omega) (by unfold inTx; have := h1.2.2.2.2.2; omega), by rw [(q3.2 rd hrd).1]; exact h2, q2, h8, h9, ⟨fun z z0 z1 => ?_, by omega, ?_, hct.2⟩, by omega⟩, q3'⟩
  · unfold bu
    by_cases e : z = len
    · rw [if_pos e]; omega
    · rw [if_neg e]; exact c1 z z0 (by omega)
  · rw [show (len + 1).toNat = len.toNat + 1 by omega]
    simp only [sumZ]
    rw [sumZ_ext (g := prtC cd) (fun k hk => by
      unfold prtC bu
      rw [if_neg (show ¬ (k : Int) = len by omega)]), c3, hct.1]
    unfold prtC bu
    rw [if_pos (show ((len.toNat : Nat) : Int) = len by omega), show (step + 16 * wth) % 16 = step by omega]
theorem insC_bu {cd : Int → Int} {len step wth : Int} (hs : 0 ≤ step ∧ step < 16) : insC (bu cd len (step + 16 * wth)) len = (step, wth) := by
  show (bu cd len (step + 16 * wth) len % 16, bu cd len (step + 16 * wth) len / 16) = _
  unfold bu
  rw [if_pos rfl, show (step + 16 * wth) % 16 = step by omega, show (step + 16 * wth) / 16 = wth by omega]
theorem agr_bu {cd : Int → Int} {i j len x : Int} (h : j ≤ len) : Agr (insC cd) (insC (bu cd len x)) i j := by
  intro z z0 z1
  show (bu cd len x z % 16, bu cd len x z / 16) = _
  unfold bu
  rw [if_neg (by omega)]
theorem s_cnt (h : RdC s rd tp B n ord st ct cd mk len cl) : RdC (setI s rd 6 (v (st.2.2 + 1))) rd tp B n ord (st.1, st.2.1, st.2.2 + 1) ct cd mk len cl ∧ Fr (inRd rd) s (setI s rd 6 (v (st.2.2 + 1))) := by
  obtain ⟨h1, ⟨h2, h3, h4, h5, h6⟩, h7, h8, h9, h10, h11⟩ := h
  have hst := h8.1
  have hs2 : 0 ≤ st.2.2 := hst.2
  refine ⟨⟨h1.set 6 _, ⟨?_, ?_, ?_, ?_, ?_⟩, h7.fr (Fr.si (F := fun q => q = rd) rfl) (by omega) (by omega) (by omega), ⟨⟨hst.1, by show 0 ≤ st.2.2 + 1; omega⟩, h8.2⟩, h9, h10, h11⟩, Fr.si (by unfold inRd; omega)⟩
  · rw [sI_setI, if_neg (by omega)]; exact h2
  · rw [sI_setI, if_neg (by omega)]; exact h3
  · rw [sI_setI, if_neg (by omega)]; exact h4
  · rw [sI_setI, if_pos ⟨rfl, rfl⟩]
  · rw [sI_setI, if_neg (by omega)]; exact h6
end RD
section RP
variable {s : AS} {rd tp : Nat} {B : Int → Int} {n : Int} {ord : Bool} {st : STK} {cd mk : Int → Int} {len cl ct : Int} {Rg : RgAT}
theorem stop_spec (h : RdC s rd tp B n ord st ct cd mk len cl) {F : Nat → Prop} {s0 : AS} (hf : Fr (inRd rd) s0 s) {r : Option (Int32 × AS)} (hr : r = some (v 0, setI s rd 7 (v st.1))) {st0 : STK} {cd0 : Int → Int} {len0 slk : Int} : SpecR (.error st.1) r s0 rd tp B n ord st0 cd0 mk len0 cl slk := ⟨_, hr, by rw [sI_setI, if_pos ⟨rfl, rfl⟩], hf.tr (Fr.si (by unfold inRd; omega))⟩
theorem s_part103 (h : RdC s rd tp B n ord st ct cd mk len cl) : b_Reader_readPart_103 Rg rd s = some (v 0, setI s rd 7 (v st.1)) := by
  unfold b_Reader_readPart_103
  rw [if_pos h.1.1, (s_stopS h).1, Option.bind_some, if_pos (Or.inl rfl)]
  rfl
/-- a number or a word -/
theorem s_onePart (h : RdS s rd tp B n ord st cd mk len cl) : SpecR (oneP B n ord st) (b_Reader_readPart_80 Rg rd (v (nm B n st 0 1000)) (strB + (if ord = true then 4 else 5)) rd s) s rd tp B n ord st cd mk len cl 0 := by
  have hk : (if ord = true then 4 else 5) < 18 := by split <;> decide
  have hpl := s_placeS h hk
  have hcnt := h.2.1.2.2.2.1
  have hc50 := h.2.2.2.2.2.1.2.2.2
  have hst := h.2.2.2.1.1
  have hs1 : 0 ≤ st.1 ∧ st.1 ≤ st.2.1 ∧ st.2.1 ≤ n := hst.1
  have hs2 : 0 ≤ st.2.2 := hst.2
  have hnr := numP_r (B := B) (n := n) (f := st.1) (t := st.2.1) (lo := 0) (hi := 1000) (by decide)
  have hnm : nm B n st 0 1000 = -1 ∨ (0 ≤ nm B n st 0 1000 ∧ nm B n st 0 1000 ≤ 1000) := hnr
  have hwr := wd_r B st (if ord = true then 4 else 5)
  have hwl : (wrdZ (if ord = true then 4 else 5)).length ≤ 7 := by split <;> decide
  have hlen := h.2.2.2.2.2.2
  unfold b_Reader_readPart_80 oneP
  rw [if_pos h.1.1, hpl, Option.bind_some, if_pos h.1.1, hcnt, nv50, nv1, v_neg]
  generalize hw : wd B st (if ord = true then 4 else 5) = w at *
  by_cases c50 : 50 ≤ st.2.2
  · rw [if_neg (nlt (by omega)), if_pos (Or.inl c50), s_part103 h]
    exact stop_spec (F := inRd rd) h (Fr.rf _ _) rfl
  · rw [if_pos (plt (by omega))]
    by_cases cb : nm B n st 0 1000 = -1 ∧ w = -1
    · rw [if_pos (peq cb.1), if_pos (peq cb.2), if_pos (Or.inr cb), s_part103 h]
      exact stop_spec (F := inRd rd) h (Fr.rf _ _) rfl
    · obtain ⟨k1, k2⟩ := s_cnt h
      obtain ⟨s1, n1, n2, n3⟩ := s_nextS k1
      have hT := nxS_T (B := B) (n := n) (st := (st.1, st.2.1, st.2.2 + 1)) ⟨hs1, by show 0 ≤ st.2.2 + 1; omega⟩
      have hnx : st.2.1 ≤ (nxS B n (st.1, st.2.1, st.2.2 + 1)).1 := hT.2.1
      have hf1 : Fr (inRd rd) s s1 := k2.tr n3
      have hlt : st.1 < st.2.1 := by
        rcases hwr with e | e
        · have hnm2 : nm B n st 0 1000 ≠ -1 := fun c => cb ⟨c, e⟩
          have hfn : st.1 < n := by
            by_cases c : st.1 < n
            · exact c
            · exfalso
              apply hnm2
              unfold nm numP
              rw [if_neg (fun d => c d.1)]
          have := (tokE_r (B := B) (n := n) (f := st.1) (by omega)).2.2 hfn
          rw [← h.2.2.2.1.2.1] at this
          exact this
        · exact e.2.2
      have fin : ∀ (s2 : AS) (st2 : STK) (step wth : Int) (g : SEM), RdC s2 rd tp B n ord st2 st.2.2 cd mk len cl → st2.2.2 = st.2.2 + 1 → (nxS B n (st.1, st.2.1, st.2.2 + 1)).1 ≤ st2.1 → Fr (inRd rd) s s2 → (step = 0 ∨ step = 1) → 0 ≤ wth ∧ wth ≤ 1000 → (step = 1 → wth < 20) → (∀ I : Int → Int × Int, I len = (step, wth) → Seg I len (len + 1) g) →
          SpecR (.ok (g, st2)) (((f_Text_add s2 (rd + 1) (v step) (v wth))).bind fun r => some (v 1, r)) s rd tp B n ord st cd mk len cl 0 := by
        intro s2 st2 step wth g m1 m2 m3 m4 m5 m6 m7 m8
        obtain ⟨s3, a1, a2, a3⟩ := s_addS (ct' := st.2.2 + 1) m1 (step := step) (wth := wth) (by omega) (by omega) m6 m7 ⟨by rw [if_pos (by omega)], by omega⟩
        refine ⟨s3, bu cd len (step + 16 * wth), len + 1, by rw [a1]; rfl, ?_, m8 _ (insC_bu (by omega)), fun z z0 z1 => ?_, ⟨by omega, by omega⟩, m4.tr a3⟩
        · show RdC s3 rd tp B n ord st2 st2.2.2 _ mk _ cl
          rw [m2]
          exact a2
        · unfold bu
          rw [if_neg (by omega)]
      have b186 : ∀ (s2 : AS) (w2 : Int), sT s2 rd = 8 → sR s2 rd 0 = rd + 1 → sT s2 (rd + 1) = 12 → b_Reader_readPart_186 Rg rd (v w2) s2 = ((f_Text_add s2 (rd + 1) (v 1) (v w2))).bind fun r => some (v 1, r) := by
        intro s2 w2 e1 e2 e3
        unfold b_Reader_readPart_186
        rw [if_pos e1, e2, if_pos e3, nv1]
      have h108 : SpecR (if nm B n st 0 1000 ≠ -1 then .ok (fun _ => some (nm B n st 0 1000), nxS B n (st.1, st.2.1, st.2.2 + 1)) else
          if ord = true ∧ 4 ≤ wd B st 4 then
            (if nm B n (nxS B n (st.1, st.2.1, st.2.2 + 1)) 0 7 = -1 then .error (nxS B n (st.1, st.2.1, st.2.2 + 1)).1 else
             .ok (fun W => some (W (4 + (wd B st 4 - 4) * 8 + nm B n (nxS B n (st.1, st.2.1, st.2.2 + 1)) 0 7)), nxS B n (nxS B n (st.1, st.2.1, st.2.2 + 1)))) else
          .ok (fun W => some (W w), nxS B n (st.1, st.2.1, st.2.2 + 1))) (b_Reader_readPart_108 Rg rd (v (nm B n st 0 1000)) (v w) s) s rd tp B n ord st cd mk len cl 0 := by
        unfold b_Reader_readPart_108
        rw [if_pos h.1.1, hcnt, nv1, v_add, n1, Option.bind_some, v_neg]
        by_cases cn : nm B n st 0 1000 = -1
        · have hw0 : 0 ≤ w ∧ w < 7 := by
            rcases hwr with e | e
            · exact absurd ⟨cn, e⟩ cb
            · omega
          have h3 := n2.2.1.1
          have wfin : ∀ (s2 : AS) (st2 : STK) (w2 : Int), RdC s2 rd tp B n ord st2 st.2.2 cd mk len cl → st2.2.2 = st.2.2 + 1 → (nxS B n (st.1, st.2.1, st.2.2 + 1)).1 ≤ st2.1 → Fr (inRd rd) s s2 → 0 ≤ w2 ∧ w2 < 20 → SpecR (.ok (fun W => some (W w2), st2)) (b_Reader_readPart_186 Rg rd (v w2) s2) s rd tp B n ord st cd mk len cl 0 := by
            intro s2 st2 w2 m1 m2 m3 m4 m5
            rw [b186 s2 w2 m1.1.1 m1.1.2.1.1 m1.2.2.1.1.1]
            exact fin s2 st2 1 w2 _ m1 m2 m3 m4 (Or.inr rfl) (by omega) (fun _ => m5.2) (fun I hI => Seg.word hI)
          rw [if_pos (peq cn), if_neg (fun c => c cn), if_pos n2.1.1, h3, nv0]
          cases ord with
          | false =>
            rw [if_pos (show v (if false = true then 1 else 0) = v 0 by decide), if_neg (fun c => by cases c.1)]
            exact wfin s1 _ w n2 rfl (Int.le_refl _) hf1 (by omega)
          | true =>
            have hww : wd B st 4 = w := hw
            have hl6 : ((wrdZ (if true = true then 4 else 5)).length : Int) = 6 := rfl
            have hw6 : w < 6 := by
              rcases hwr with e | e
              · omega
              · omega
            rw [if_neg (show ¬ v (if true = true then 1 else 0) = v 0 by decide), hww, nv4]
            by_cases c4 : w < 4
            · rw [if_pos (plt (by omega)), if_neg (fun c => by omega)]
              exact wfin s1 _ w n2 rfl (Int.le_refl _) hf1 (by omega)
            · have hnum := s_numS n2 (lo := 0) (hi := 7) (by decide)
              have hnr2 := numP_r (B := B) (n := n) (f := (nxS B n (st.1, st.2.1, st.2.2 + 1)).1) (t := (nxS B n (st.1, st.2.1, st.2.2 + 1)).2.1) (lo := 0) (hi := 7) (by decide)
              have hnm2 : nm B n (nxS B n (st.1, st.2.1, st.2.2 + 1)) 0 7 = -1 ∨ (0 ≤ nm B n (nxS B n (st.1, st.2.1, st.2.2 + 1)) 0 7 ∧ nm B n (nxS B n (st.1, st.2.1, st.2.2 + 1)) 0 7 ≤ 7) := hnr2
              rw [if_neg (nlt (by omega)), if_pos ⟨rfl, by omega⟩, nv7, hnum, Option.bind_some]
              by_cases cp : nm B n (nxS B n (st.1, st.2.1, st.2.2 + 1)) 0 7 = -1
              · rw [if_pos (peq cp), if_pos cp, (s_stopS n2).1, Option.bind_some]
                refine stop_spec (F := inRd rd) n2 hf1 ?_
                show (if nI 0 = v 0 ∨ nI 0 = v 1 then some (nI 0, _) else none) = _
                rw [if_pos (Or.inl nv0)]
                rfl
              · obtain ⟨s3, y1, y2, y3⟩ := s_nextS n2
                have hT2 := nxS_T (B := B) (n := n) (st := nxS B n (st.1, st.2.1, st.2.2 + 1)) n2.2.2.2.1.1
                have hge : (nxS B n (st.1, st.2.1, st.2.2 + 1)).1 ≤ (nxS B n (nxS B n (st.1, st.2.1, st.2.2 + 1))).1 := by
                  have a1 := n2.2.2.2.1.1.1.2.1
                  have a2 := hT2.2.1
                  omega
                rw [if_neg (pne (by omega)), if_neg cp, y1, Option.bind_some, nv8, v_sub, v_mul, v_add, v_add]
                exact wfin s3 _ (4 + (w - 4) * 8 + nm B n (nxS B n (st.1, st.2.1, st.2.2 + 1)) 0 7) y2 rfl hge (hf1.tr y3) (by omega)
        · rw [if_neg (pne (by omega)), if_pos cn, if_pos n2.1.1, n2.1.2.1.1, if_pos n2.2.2.1.1.1, nv0]
          have := fin s1 (nxS B n (st.1, st.2.1, st.2.2 + 1)) 0 (nm B n st 0 1000) (fun _ => some (nm B n st 0 1000)) n2 rfl (Int.le_refl _) hf1 (Or.inl rfl) (by omega) (fun c => by omega) (fun I hI => Seg.num hI)
          exact this
      rw [if_neg (by omega)]
      by_cases cn : nm B n st 0 1000 = -1
      · rw [if_pos (peq cn), if_neg (pne ⟨by omega, fun c => cb ⟨cn, c⟩⟩)]
        exact h108
      · rw [if_neg (pne (by omega))]
        exact h108
end RP
