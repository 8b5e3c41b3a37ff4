/-! THE REFERENCE'S READER: sums -/
def insF (ord : Bool) (O R : Int → Int) : Int → Int × Int := fun z => insM ord (O z) (R z)
def PsI (I : Int → Int × Int) (i0 i1 lo hi : Int) (p : Option (Int × SEM)) : Prop := match p with
  | none => i1 = i0
  | some (op, h) => Seg I i0 i1 h ∧ lo ≤ op ∧ op ≤ hi
def opsT (p : Option (Int × SEM)) : PIL := match p with
  | none => []
  | some (op, _) => [(op + 18, 0)]
theorem PsI.agr {I I' : Int → Int × Int} {i0 i1 lo hi : Int} {p : Option (Int × SEM)} (h : PsI I i0 i1 lo hi p) (k : Agr I I' i0 i1) : PsI I' i0 i1 lo hi p := by
  cases p with
  | none => exact h
  | some x => exact ⟨h.1.agr k, h.2⟩
theorem PsI.le {I : Int → Int × Int} {i0 i1 lo hi : Int} {p : Option (Int × SEM)} (h : PsI I i0 i1 lo hi p) : i0 ≤ i1 := by
  cases p with
  | none => have e : i1 = i0 := h; omega
  | some x => have := h.1.1; omega
theorem PsI.mo {I : Int → Int × Int} {i0 i1 lo hi lo' hi' : Int} {p : Option (Int × SEM)} (h : PsI I i0 i1 lo hi p) (h1 : lo' ≤ lo) (h2 : hi ≤ hi') : PsI I i0 i1 lo' hi' p := by
  cases p with
  | none => exact h
  | some x => exact ⟨h.1, by have := h.2.1; omega, by have := h.2.2; omega⟩
theorem opsT_b {I : Int → Int × Int} {i0 i1 lo hi : Int} {p : Option (Int × SEM)} (h : PsI I i0 i1 lo hi p) : ∀ x ∈ opsT p, lo + 18 ≤ x.1 ∧ x.1 ≤ hi + 18 := by
  cases p with
  | none => intro x hx; cases hx
  | some y =>
    intro x hx
    have e : x = (y.1 + 18, 0) := (by simpa [opsT] using hx)
    rw [e]
    have := h.2
    show lo + 18 ≤ y.1 + 18 ∧ y.1 + 18 ≤ hi + 18
    omega
theorem insM_bin (ord : Bool) {op arg : Int} (h : 20 ≤ op ∧ op ≤ 27) : insM ord op arg = (op - 18, arg) := by
  unfold insM
  rw [if_neg (by omega), if_neg (by omega), if_pos (by omega)]
theorem wait_stl {ord : Bool} {O R : Int → Int} {i0 i1 len : Int} {p : Option (Int × SEM)} {g : SEM} (hi : 0 ≤ i0) (hp : PsI (insF ord O R) i0 i1 2 9 p) (hg : Seg (insF ord O R) i1 len g) :
    Seg (insF ord (stl (opsT p) (O, R, len)).1 (stl (opsT p) (O, R, len)).2.1) i0 (stl (opsT p) (O, R, len)).2.2 (waitS p g) ∧ (∀ z, z < len → (stl (opsT p) (O, R, len)).1 z = O z ∧ (stl (opsT p) (O, R, len)).2.1 z = R z) ∧ len ≤ (stl (opsT p) (O, R, len)).2.2 := by
  cases p with
  | none =>
    have e : i1 = i0 := hp
    subst e
    exact ⟨hg, fun z _ => ⟨rfl, rfl⟩, Int.le_refl _⟩
  | some x =>
    obtain ⟨op, f⟩ := x
    obtain ⟨h1, h2, h3⟩ := hp
    have hg1 := hg.1
    have h11 := h1.1
    have e : stl (opsT (some (op, f))) (O, R, len) = (bu O len (op + 18), bu R len 0, len + 1) := by
      show (if op + 18 = 29 ∨ op + 18 = 30 then _ else _) = _
      rw [if_neg (by omega)]
      rfl
    rw [e]
    have ag : ∀ {a b : Int}, b ≤ len → Agr (insF ord O R) (insF ord (bu O len (op + 18)) (bu R len 0)) a b := fun hb z _ z1 => by
      show insM ord (bu O len (op + 18) z) (bu R len 0 z) = insM ord (O z) (R z)
      rw [bu_ne (by omega), bu_ne (by omega)]
    refine ⟨Seg.bin (h1.agr (ag (by omega))) (hg.agr (ag (Int.le_refl _))) (op := op) (a := 0) ?_ ⟨h2, h3⟩, fun z hz => ⟨bu_ne (by omega), bu_ne (by omega)⟩, by show len ≤ len + 1; omega⟩
    show insM ord (bu O len (op + 18) len) (bu R len 0 len) = _
    rw [bu_eq, bu_eq, insM_bin ord (by omega), show op + 18 - 18 = op by omega]
def stopL (L : PIL) (b : Int) : Prop := ∀ y, L.head? = some y → bndO y.1 < b
/-- what a part's, a sum's reading tells -/
def ErrR (m : Nat) (tst : Int) (s : AS) (t : Int) (A : MA) (st : STK) (e : Int) : Prop := ∃ (s' : AS) (A' : MA) (t' : Int) (k : Nat), Rch m tst s t s' t' k ∧ (k : Int) ≤ 2 * (400 - st.1) + 2 ∧ ErM s' m A' e ∧ AF scrR A A' ∧ Fr (inM m) s s'
def SpcP (r : RSL) (m : Nat) (tst : Int) (s : AS) (t : Int) (A : MA) (B : Int → Int) (n : Int) (ord : Bool) (st : STK) (len : Int) (L : PIL) : Prop := match r with
  | .error e => ErrR m tst s t A st e
  | .ok (g, st') => ∃ (s' : AS) (A' : MA) (len' : Int) (k : Nat), Rch m tst s t s' 3 k ∧ (k : Int) ≤ 2 * (st'.1 - st.1) ∧ RfS s' m A' B n ord st' len' L ∧ Seg (insR ord A') len len' g ∧ CodK A A' len ∧ AF scrR A A' ∧ Fr (inM m) s s' ∧ st.1 < st'.1
/-- settled it is so -/
def PdS (ord : Bool) (A : MA) (i0 len : Int) (X : PIL) (g : SEM) : Prop := Seg (insF ord (stl X (A 11, A 12, len)).1 (stl X (A 11, A 12, len)).2.1) i0 (stl X (A 11, A 12, len)).2.2 g
def SpcS (r : RSL) (m : Nat) (tst : Int) (s : AS) (t : Int) (A : MA) (B : Int → Int) (n : Int) (ord : Bool) (st : STK) (i0 : Int) (L : PIL) : Prop := match r with
  | .error e => ErrR m tst s t A st e
  | .ok (g, st') => ∃ (s' : AS) (A' : MA) (len' : Int) (X : PIL) (k : Nat), Rch m tst s t s' 3 k ∧ (k : Int) ≤ 2 * (st'.1 - st.1) ∧ RfS s' m A' B n ord st' len' (X ++ L) ∧ sumOps X ∧ PdS ord A' i0 len' X g ∧ CodK A A' i0 ∧ AF scrR A A' ∧ Fr (inM m) s s' ∧ st.1 < st'.1 ∧ opB B st' = -1 ∧ i0 < len'
/-- at this place a part is read -/
def AtPart (m : Nat) (tst : Int) (s : AS) (t : Int) : Prop := ∀ (s' : AS) (t' : Int), f_M_readPart s m = some (v t', s') → Rch m tst s t s' t' 1
def PartOK (m : Nat) (tst : Int) (B : Int → Int) (n : Int) (ord : Bool) (b : Nat) (part : STK → RSL) : Prop := ∀ (s : AS) (t : Int) (A : MA) (st : STK) (len : Int) (L : PIL), RfS s m A B n ord st len L → opnL L + b = 8 → AtPart m tst s t → SpcP (part st) m tst s t A B n ord st len L
def SumOK (m : Nat) (tst : Int) (B : Int → Int) (n : Int) (ord : Bool) (b : Nat) (sum : STK → RSL) : Prop := ∀ (s : AS) (t : Int) (A : MA) (st : STK) (len : Int) (L : PIL), RfS s m A B n ord st len L → opnL L + b = 8 → stopL L 5 → AtPart m tst s t → SpcS (sum st) m tst s t A B n ord st len L
theorem ErrR.pre {m : Nat} {tst : Int} {s s1 : AS} {t t1 : Int} {A A1 : MA} {st st1 : STK} {e : Int} {k : Nat} (h : ErrR m tst s1 t1 A1 st1 e) (hr : Rch m tst s t s1 t1 k) (hk : (k : Int) ≤ 2 * (st1.1 - st.1)) (ha : AF scrR A A1) (hf : Fr (inM m) s s1) : ErrR m tst s t A st e := by
  obtain ⟨s', A', t', k', h1, h2, h3, h4, h5⟩ := h
  exact ⟨s', A', t', k' + k, hr.tr h1, by omega, h3, ha.tr h4, hf.tr h5⟩
section RSM
variable {m : Nat} {B : Int → Int} {n : Int} {ord : Bool} {tst : Int}
theorem at_part {s : AS} {A : MA} {st : STK} {len rm : Int} {L : PIL} (h : RfG s m A B n ord st len L rm) : AtPart m tst s 1 := fun _ _ hp => rch_part h hp
theorem opB_wd {st : STK} (h : opB B st = -1) : wd B st 6 = -1 ∧ wd B st 7 = -1 := by
  have w7 := wd_r B st 7
  have w6 := wd_r B st 6
  unfold opB at h
  by_cases c : wd B st 6 = -1
  · refine ⟨c, ?_⟩
    rw [if_neg (fun d => d c)] at h
    by_cases d : wd B st 7 = -1
    · exact d
    · rw [if_pos d] at h; omega
  · rw [if_pos c] at h; omega
theorem m_sumLoop {b : Nat} {part : STK → RSL} (hpart : PartOK m tst B n ord b part) {L : PIL} (hb : opnL L + b = 8) (hL : stopL L 5) {s0 : AS} {t0 : Int} {A0 : MA} {st0 : STK} {i0 : Int} (hi0 : 0 ≤ i0) :
    ∀ (k : Nat) (i : Int) (ps pt : Option (Int × SEM)) (s : AS) (t : Int) (A : MA) (st : STK) (len i1 : Int) (kk : Nat), i + k = 400 → 0 ≤ i ∧ 2 * i ≤ st.1 → RfS s m A B n ord st len (opsT pt ++ (opsT ps ++ L)) → AtPart m tst s t → PsI (insR ord A) i0 i1 2 3 ps → PsI (insR ord A) i1 len 4 6 pt →
    Rch m tst s0 t0 s t kk → (kk : Int) ≤ 2 * (st.1 - st0.1) → st0.1 ≤ st.1 → CodK A0 A i0 → AF scrR A0 A → Fr (inM m) s0 s →
    SpcS (sumLp B n part k ps pt st) m tst s0 t0 A0 B n ord st0 i0 L := by
  intro k
  induction k with
  | zero =>
    intro i ps pt s t A st len i1 kk hi hii h
    have hst : 0 ≤ st.1 ∧ st.1 ≤ st.2.1 ∧ st.2.1 ≤ n := h.2.1.2.2.1.1
    have hn := h.2.1.1.2.1
    omega
  | succ k ih =>
    intro i ps pt s t A st len i1 kk hi hii h hat hps hpt hr hkk hle hc ha hf
    have hn := h.2.1.1.2.1
    have bps := opsT_b hps
    have bpt := opsT_b hpt
    have hop : opnL (opsT pt ++ (opsT ps ++ L)) = opnL L := by
      rw [opnL_app _ _ (fun x hx => by have := bpt x hx; omega), opnL_app _ _ (fun x hx => by have := bps x hx; omega)]
    have hsp := hpart s t A st len _ h (by rw [hop]; exact hb) hat
    have l1 := hps.le
    have l2 := hpt.le
    unfold sumLp
    cases hp : part st with
    | error e =>
      rw [hp] at hsp
      exact ErrR.pre hsp hr hkk ha hf
    | ok x =>
      obtain ⟨g, st1⟩ := x
      rw [hp] at hsp
      obtain ⟨s1, A1, len1, k1, r1, r2, r3, r4, r5, r6, r7, r8⟩ := hsp
      have hgl := r4.1
      have hst1 : 0 ≤ st1.1 ∧ st1.1 ≤ st1.2.1 ∧ st1.2.1 ≤ n := r3.2.1.2.2.1.1
      have hps1 : PsI (insR ord A1) i0 i1 2 3 ps := hps.agr ((r5.mo (by omega)).agr hi0)
      have hpt1 : PsI (insR ord A1) i1 len 4 6 pt := hpt.agr (r5.agr (by omega))
      have hc1 : CodK A0 A1 i0 := hc.tr (r5.mo (by omega))
      have ha1 := ha.tr r6
      have hf1 := hf.tr r7
      have hr1 := hr.tr r1
      have hT := nxS_T (B := B) (n := n) r3.2.1.2.2.1
      have ge : st1.2.1 ≤ (nxS B n st1).1 := hT.2.1
      -- what waits for a part comes
      obtain ⟨w1, w2, w3⟩ := wait_stl (O := A1 11) (R := A1 12) (by omega) (hpt1.mo (by decide) (by decide)) r4
      have or := opB_r B st1
      by_cases c6 : wd B st1 6 = -1
      · by_cases c7 : wd B st1 7 = -1
        · -- the sum ends
          have e6 : ¬ wd B st1 6 ≠ -1 := fun d => d c6
          have e7 : ¬ wd B st1 7 ≠ -1 := fun d => d c7
          have ob : opB B st1 = -1 := by unfold opB; rw [if_neg e6, if_neg e7]
          show SpcS (if wd B st1 6 ≠ -1 then _ else if wd B st1 7 ≠ -1 then _ else _) m tst s0 t0 A0 B n ord st0 i0 L
          rw [if_neg e6, if_neg e7]
          have hps2 : PsI (insF ord (stl (opsT pt) (A1 11, A1 12, len1)).1 (stl (opsT pt) (A1 11, A1 12, len1)).2.1) i0 i1 2 3 ps := hps1.agr (fun z z0 z1 => by
            show insM ord _ _ = insM ord (A1 11 z) (A1 12 z)
            rw [(w2 z (by omega)).1, (w2 z (by omega)).2])
          obtain ⟨x1, x2, x3⟩ := wait_stl hi0 (hps2.mo (by decide) (by decide)) w1
          refine ⟨s1, A1, len1, opsT pt ++ opsT ps, k1 + kk, hr1, by omega, ?_, fun x hx => ?_, ?_, hc1, ha1, hf1, by omega, ob, by omega⟩
          · rw [List.append_assoc]; exact r3
          · rcases List.mem_append.mp hx with d | d
            · have := bpt x d; omega
            · have := bps x d; omega
          · unfold PdS
            rw [stl_app]
            exact x1
        · -- + or -
          have e6 : ¬ wd B st1 6 ≠ -1 := fun d => d c6
          have ob : opB B st1 = 20 + wd B st1 7 := by unfold opB; rw [if_neg e6, if_pos c7]
          have w7 := wd_r B st1 7
          have l7 : ((wrdZ 7).length : Int) = 2 := rfl
          have hb5 : bndO (opB B st1) = 5 := by
            rw [ob]; unfold bndO
            rw [if_neg (by omega), if_neg (by omega), if_neg (by omega), if_neg (by omega), if_neg (by omega), if_neg (by omega)]
          have r3' : RfS s1 m A1 B n ord st1 len1 ((opsT pt ++ opsT ps) ++ L) := by rw [List.append_assoc]; exact r3
          obtain ⟨s2, A2, p1, p2, p3, p4, p5, p6⟩ := m_signStep (tst := tst) r3' (by rw [ob]; omega) (fun x hx => by
            rw [hb5]
            rcases List.mem_append.mp hx with d | d
            · exact (bndO_sum (by have := bpt x d; omega)).1
            · exact (bndO_sum (by have := bps x d; omega)).1) (fun y hy => by rw [hb5]; exact hL y hy)
          have hps2 : PsI (insF ord (stl (opsT pt) (A1 11, A1 12, len1)).1 (stl (opsT pt) (A1 11, A1 12, len1)).2.1) i0 i1 2 3 ps := hps1.agr (fun z z0 z1 => by
            show insM ord _ _ = insM ord (A1 11 z) (A1 12 z)
            rw [(w2 z (by omega)).1, (w2 z (by omega)).2])
          obtain ⟨x1, x2, x3⟩ := wait_stl hi0 (hps2.mo (by decide) (by decide)) w1
          have hsl : (stl (opsT pt ++ opsT ps) (A1 11, A1 12, len1)) = stl (opsT ps) (stl (opsT pt) (A1 11, A1 12, len1)) := stl_app _ _ _
          rw [hsl] at p2 p3 p4
          show SpcS (if wd B st1 6 ≠ -1 then _ else if wd B st1 7 ≠ -1 then _ else _) m tst s0 t0 A0 B n ord st0 i0 L
          rw [if_neg e6, if_pos c7]
          have hst2 : 0 ≤ (nxS B n st1).1 := by omega
          refine ih (i + 1) (some (2 + wd B st1 7, waitS ps (waitS pt g))) none s2 1 A2 (nxS B n st1) (stl (opsT ps) (stl (opsT pt) (A1 11, A1 12, len1))).2.2 (stl (opsT ps) (stl (opsT pt) (A1 11, A1 12, len1))).2.2 (1 + (k1 + kk)) (by omega) (by omega) ?_ (at_part p2) ?_ rfl (hr1.tr (rch_sum r3 p1)) (by omega) (by omega) (fun z z0 z1 => ?_) (ha1.tr p5) (hf1.tr p6)
          · show RfS s2 m A2 B n ord (nxS B n st1) _ ((2 + wd B st1 7 + 18, 0) :: L)
            rw [show 2 + wd B st1 7 + 18 = opB B st1 by omega]
            exact p2
          · refine ⟨?_, by omega, by omega⟩
            show Seg (insF ord (A2 11) (A2 12)) i0 _ _
            rw [p3, p4]
            exact x1
          · rw [p3, p4, (x2 z (by omega)).1, (x2 z (by omega)).2, (w2 z (by omega)).1, (w2 z (by omega)).2]
            exact hc1 z z0 z1
      · -- * / %
        have ob : opB B st1 = 22 + wd B st1 6 := by unfold opB; rw [if_pos c6]
        have w6 := wd_r B st1 6
        have l6 : ((wrdZ 6).length : Int) = 3 := rfl
        have hb6 : ∀ x : Int, 22 ≤ x ∧ x ≤ 24 → bndO x = 6 := fun x hx => by
          unfold bndO
          rw [if_neg (by omega), if_neg (by omega), if_neg (by omega), if_neg (by omega), if_neg (by omega), if_pos (by omega)]
        have hb5 : ∀ x : Int, 20 ≤ x ∧ x ≤ 21 → bndO x = 5 := fun x hx => by
          unfold bndO
          rw [if_neg (by omega), if_neg (by omega), if_neg (by omega), if_neg (by omega), if_neg (by omega), if_neg (by omega)]
        obtain ⟨s2, A2, p1, p2, p3, p4, p5, p6⟩ := m_signStep (tst := tst) r3 (by rw [ob]; omega) (fun x hx => by
          have := bpt x hx
          rw [hb6 (opB B st1) (by omega), hb6 x.1 (by omega)]
          exact Int.le_refl _) (fun y hy => by
          rw [hb6 (opB B st1) (by omega)]
          cases ps with
          | none => have := hL y hy; omega
          | some x =>
            have e : (x.1 + 18, (0 : Int)) = y := (by simpa [opsT] using hy)
            have hx := hps.2
            rw [← e]
            show bndO (x.1 + 18) < 6
            rw [hb5 _ (by omega)]
            omega)
        show SpcS (if wd B st1 6 ≠ -1 then _ else _) m tst s0 t0 A0 B n ord st0 i0 L
        rw [if_pos c6]
        refine ih (i + 1) ps (some (4 + wd B st1 6, waitS pt g)) s2 1 A2 (nxS B n st1) (stl (opsT pt) (A1 11, A1 12, len1)).2.2 i1 (1 + (k1 + kk)) (by omega) (by omega) ?_ (at_part p2) ?_ ?_ (hr1.tr (rch_sum r3 p1)) (by omega) (by omega) (fun z z0 z1 => ?_) (ha1.tr p5) (hf1.tr p6)
        · show RfS s2 m A2 B n ord (nxS B n st1) _ ((4 + wd B st1 6 + 18, 0) :: (opsT ps ++ L))
          rw [show 4 + wd B st1 6 + 18 = opB B st1 by omega]
          exact p2
        · refine hps1.agr (fun z z0 z1 => ?_)
          show insM ord (A2 11 z) (A2 12 z) = insM ord (A1 11 z) (A1 12 z)
          rw [p3, p4, (w2 z (by omega)).1, (w2 z (by omega)).2]
        · refine ⟨?_, by omega, by omega⟩
          show Seg (insF ord (A2 11) (A2 12)) i1 _ _
          rw [p3, p4]
          exact w1
        · rw [p3, p4, (w2 z (by omega)).1, (w2 z (by omega)).2]
          exact hc1 z z0 z1
theorem m_sumOf {b : Nat} {part : STK → RSL} (hpart : PartOK m tst B n ord b part) : SumOK m tst B n ord b (sumLp B n part 400 none none) := by
  intro s t A st len L h hb hL hat
  have hst : 0 ≤ st.1 ∧ st.1 ≤ st.2.1 ∧ st.2.1 ≤ n := h.2.1.2.2.1.1
  have hfl := h.2.2.2.2.2.2
  exact m_sumLoop hpart hb hL hfl.1 400 0 none none s t A st len len 0 (by omega) (by omega) h hat rfl rfl Rch.rf (by omega) (Int.le_refl _) (CodK.rf _ _) (AF.rf _ _) (Fr.rf _ _)
/-- a part, brackets within -/
theorem m_partOf {b : Nat} {inner : STK → RSL} (hin : b ≠ 0 → SumOK m tst B n ord (b - 1) inner) : PartOK m tst B n ord b (partP B n ord b inner) := by
  intro s t A st len L h hb hat
  have hst : 0 ≤ st.1 ∧ st.1 ≤ st.2.1 ∧ st.2.1 ≤ n := h.2.1.2.2.1.1
  have hn := h.2.1.1.2.1
  have hfl := h.2.2.2.2.2.2
  unfold partP
  by_cases c : wd B st 2 = 0
  · obtain ⟨s1, A1, q1, q2, q3, q4, q5⟩ := m_readSquare h c
    have r1 := hat _ _ q1
    have hlt : st.1 < st.2.1 := by
      rcases wd_r B st 2 with e | e
      · omega
      · exact e.2.2
    rw [if_pos c]
    by_cases cb : b = 0
    · rw [if_pos cb]
      exact ⟨s1, A1, 1, 1, r1, by omega, q5 (by omega), q2, q3⟩
    · rw [if_neg cb]
      obtain ⟨y1, y2, y3⟩ := q4 (by omega)
      have hT := nxS_T (B := B) (n := n) h.2.1.2.2.1
      have ge : st.2.1 ≤ (nxS B n st).1 := hT.2.1
      have hsp := hin cb s1 1 A1 (nxS B n st) len ((32, 0) :: L) y1 (by show (if (31 : Int) ≤ 32 then 1 else 0) + opnL L + ((b - 1 : Nat) : Int) = 8; rw [if_pos (by decide)]; omega) (fun y hy => by have e : ((32 : Int), (0 : Int)) = y := (by simpa using hy); rw [← e]; show bndO 32 < 5; decide) (at_part y1)
      cases hr : inner (nxS B n st) with
      | error e =>
        rw [hr] at hsp
        exact ErrR.pre hsp r1 (by omega) q2 q3
      | ok x =>
        obtain ⟨g, st2⟩ := x
        rw [hr] at hsp
        obtain ⟨s2, A2, len2, X, k2, z1, z2, z3, z4, z5, z6, z7, z8, z9, z10, z11⟩ := hsp
        obtain ⟨s3, A3, p1, p2, p3, p4, p5⟩ := m_closeSq (tst := tst) z3 z10 z4
        have hst2 : 0 ≤ st2.1 ∧ st2.1 ≤ st2.2.1 ∧ st2.2.1 ≤ n := z3.2.1.2.2.1.1
        have hc12 : CodK A A1 len := CodK.eq y2 y3
        show SpcP (if wd B st2 3 = 0 then _ else _) m tst s t A B n ord st len L
        have hrr := (r1.tr z1).tr (rch_sum z3 p1)
        by_cases c3 : wd B st2 3 = 0
        · rw [if_pos c3]
          obtain ⟨u1, u2, u3⟩ := p4 c3
          have hT2 := nxS_T (B := B) (n := n) z3.2.1.2.2.1
          have ge2 : st2.2.1 ≤ (nxS B n st2).1 := hT2.2.1
          have hlt2 : st2.1 < st2.2.1 := by
            rcases wd_r B st2 3 with e | e
            · omega
            · exact e.2.2
          refine ⟨s3, A3, _, _, hrr, by omega, u1, ?_, ?_, (q2.tr z7).tr p2, (q3.tr z8).tr p3, by omega⟩
          · show Seg (insF ord (A3 11) (A3 12)) len _ g
            rw [u2, u3]
            exact z5
          · have hX : ∀ x ∈ X, (x.1 = 29 ∨ x.1 = 30) → x.2 ≠ 0 := fun x hx d => by have := z4 x hx; omega
            intro z w0 w1
            rw [u2, u3, stl_O X _ _ _ _ (by omega), stl_R X _ _ _ _ (by omega) (fun x hx d => by have := z4 x hx; omega)]
            exact (hc12.tr z6) z w0 w1
        · rw [if_neg c3]
          exact ⟨s3, A3, 3, _, hrr, by omega, p5 c3, (q2.tr z7).tr p2, (q3.tr z8).tr p3⟩
  · rw [if_neg c]
    have hsp := m_readPart h c
    cases hr : oneP B n ord st with
    | error e =>
      rw [hr] at hsp
      obtain ⟨s1, A1, q1, q2, q3, q4⟩ := hsp
      exact ⟨s1, A1, 3, 1, hat _ _ q1, by omega, q2, q3, q4⟩
    | ok x =>
      obtain ⟨g, st1⟩ := x
      rw [hr] at hsp
      obtain ⟨s1, A1, q1, q2, q3, q4, q5, q6, q7⟩ := hsp
      exact ⟨s1, A1, len + 1, 1, hat _ _ q1, by omega, q2, q3, q4, q5, q6, q7⟩
theorem m_sumD : ∀ b : Nat, SumOK m tst B n ord b (sumD B n ord b) := by
  intro b
  induction b with
  | zero => exact m_sumOf (m_partOf (fun d => absurd rfl d))
  | succ b ih => exact m_sumOf (m_partOf (fun _ => ih))
end RSM
