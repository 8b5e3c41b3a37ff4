/-! PAIRS: law, on the class -/
theorem IsRd.st {s s' : AS} {rd : Nat} (h : IsRd s rd) (k : St s s') : IsRd s' rd := by
  unfold IsRd IsTx
  rw [k.1, k.2.1, k.2.2.1]
  exact h
theorem s_copyOf {s : AS} {a m : Nat} {A : Int → Int} {k : Int} (hT : sT s a = 20) (hN : sN s a = m) (hm : m ≤ 400) (hk : 0 ≤ k ∧ k ≤ m) (hX : sX s < 900000) (ha : a ≠ sX s) (hv : ∀ z : Int, 0 ≤ z ∧ z < m → sI s a z.toNat = v (A z)) : ∃ s', f_Arrays_copyOf s a (v k) = some (sX s, s') ∧ (sT s' (sX s) = 20 ∧ sN s' (sX s) = k.toNat ∧ ∀ z : Int, 0 ≤ z ∧ z < k → sI s' (sX s) z.toNat = v (A z)) ∧ (∀ q, q ≠ sX s → EqA s s' q) ∧ sX s' = sX s + 1 ∧ sZ s' = sZ s + k.toNat := by
  unfold f_Arrays_copyOf
  rw [if_pos (show 20 ≤ sT s a by rw [hT]; exact Nat.le_refl _), hN, nI_v]
  by_cases e : k = m
  · rw [if_pos (peq e), hT, if_pos ⟨rfl, hX, by omega⟩, if_pos (show sT (rowI (newA s 20 m) (sX s) (sI s a)) (sX s) = 20 from if_pos rfl)]
    refine ⟨_, rfl, ⟨if_pos rfl, ?_, fun z hz => ?_⟩, fun q hq => (eqA_new hq).tr ((Fr.ri (F := fun q => q = sX s) rfl).eqA hq), rfl, ?_⟩
    · show (if sX s = sX s then m else _) = k.toNat
      rw [if_pos rfl]; omega
    · rw [sI_rowI, if_pos rfl]; exact hv z (by omega)
    · show sZ s + m = sZ s + k.toNat
      omega
  · have E := eqA_new (s := s) (t := 20) (n := k.toNat) ha
    have nT : sT (newA s 20 k.toNat) (sX s) = 20 := if_pos rfl
    have nN : sN (newA s 20 k.toNat) (sX s) = k.toNat := if_pos rfl
    have c1 := cp_gen (s := newA s 20 k.toNat) (x := a) (y := sX s) (m := m) (n := k.toNat) (sp := 0) (dp := 0) (k := k) (by rw [E.1]; exact hT) nT (by rw [E.2.1]; exact hN) nN (by omega)
    have cv := cp_val (f := sI (newA s 20 k.toNat) a) (g := sI (newA s 20 k.toNat) (sX s)) (A := A) (B := fun _ => 0) (sp := 0) (dp := 0) (k := k) (m := m) (n := k) (fun z hz => by rw [E.2.2.2.1]; exact hv z hz) (fun z hz => by rw [sI_new, if_pos rfl]; rfl) (by omega)
    refine ⟨rowI (newA s 20 k.toNat) (sX s) (va_cpy (sI (newA s 20 k.toNat) a) (sI (newA s 20 k.toNat) (sX s)) (0 : Int).toNat (0 : Int).toNat k.toNat), ?_, ⟨nT, nN, fun z hz => ?_⟩, fun q hq => (eqA_new hq).tr ((Fr.ri (F := fun q => q = sX s) rfl).eqA hq), rfl, rfl⟩
    · rw [if_neg (pne (by omega)), nwA_s hX (by omega), Option.bind_some]
      show (if 20 ≤ sT (newA s 20 k.toNat) a then (cpA (newA s 20 k.toNat) a (nI 0) (sX s) (nI 0) (if v k < nI (sN (newA s 20 k.toNat) a) then v k else nI (sN (newA s 20 k.toNat) a))).bind fun r2 => some (sX s, r2) else none) = _
      rw [E.1, hT, if_pos (Nat.le_refl _), E.2.1, hN, show nI m = v (m : Int) from rfl, if_pos (plt (by omega)), nv0, c1, Option.bind_some]
    · rw [sI_rowI, if_pos rfl, cv z hz, if_pos (by omega), show 0 + (z - 0) = z by omega]
theorem s_trimmed {s : AS} {t : Nat} {cd mk : Int → Int} {len cl : Int} (h : TxF s t cd mk len cl) (hl : 0 ≤ len ∧ len ≤ 400) (hc : 0 ≤ cl ∧ cl ≤ 12) (hX : t + 2 < sX s ∧ sX s + 3 < 900000) : ∃ s', f_Text_trimmed s t = some (sX s, s') ∧ TxR s' (sX s) len.toNat (cl * 6).toNat cd mk len cl ∧ (∀ q, ¬ (sX s ≤ q ∧ q < sX s + 3) → EqA s s' q) ∧ sX s' = sX s + 3 ∧ sZ s' ≤ sZ s + 476 := by
  obtain ⟨⟨a1, ⟨a2, a3, a4⟩, a5, a6, a7⟩, ⟨a8, a9⟩, a10, a11⟩ := h
  have e1 : ∀ q, q ≠ sX s → EqA s (newA s 12 4) q := fun q hq => eqA_new hq
  have x1 : sX (newA s 12 4) = sX s + 1 := rfl
  have z1 : sZ (newA s 12 4) = sZ s + 4 := rfl
  have E0 := e1 t (by omega)
  have E1 := e1 (t + 1) (by omega)
  obtain ⟨s2, b1, ⟨b2, b3, b4⟩, b5, b6, b7⟩ := s_copyOf (s := newA s 12 4) (a := t + 1) (m := 400) (A := cd) (k := len) (by rw [E1.1]; exact a3) (by rw [E1.2.1]; exact a4) (by omega) (by omega) (by rw [x1]; omega) (by rw [x1]; omega) (fun z hz => by rw [E1.2.2.2.1]; exact a10 z hz)
  rw [x1] at b1 b2 b3 b4 b5 b6
  have e2 : ∀ q, q ≠ sX s → q ≠ sX s + 1 → EqA s s2 q := fun q h1 h2 => (e1 q h1).tr (b5 q h2)
  have E2 := e2 t (by omega) (by omega)
  have E3 := e2 (t + 2) (by omega) (by omega)
  obtain ⟨s3, c1, ⟨c2, c3, c4⟩, c5, c6, c7⟩ := s_copyOf (s := s2) (a := t + 2) (m := 72) (A := mk) (k := cl * 6) (by rw [E3.1]; exact a6) (by rw [E3.2.1]; exact a7) (by omega) (by omega) (by omega) (by omega) (fun z hz => by rw [E3.2.2.2.1]; exact a11 z hz)
  have x2 : sX s2 = sX s + 2 := by omega
  rw [x2] at c1 c2 c3 c4 c5 c6
  have e3 : ∀ q, q ≠ sX s → q ≠ sX s + 1 → q ≠ sX s + 2 → EqA s s3 q := fun q h1 h2 h3 => (e2 q h1 h2).tr (c5 q h3)
  have E4 := e3 t (by omega) (by omega) (by omega)
  have p1 := (b5 (sX s) (by omega)).tr (c5 (sX s) (by omega))
  have p2 := c5 (sX s + 1) (by omega)
  have pT : sT s3 (sX s) = 12 := by rw [p1.1]; exact if_pos rfl
  have fR : ∀ q, q ≠ sX s → EqA s3 (setI (setI (setR (setR s3 (sX s) 0 (sX s + 1)) (sX s) 1 (sX s + 2)) (sX s) 2 (v len)) (sX s) 3 (v cl)) q := fun q hq => (((eqA_setR hq).tr (eqA_setR hq)).tr ((Fr.si (F := fun q => q = sX s) rfl).eqA hq)).tr ((Fr.si (F := fun q => q = sX s) rfl).eqA hq)
  have r0 : ∀ k, sR (setR (setR s3 (sX s) 0 (sX s + 1)) (sX s) 1 (sX s + 2)) (sX s) k = if k = 1 then sX s + 2 else if k = 0 then sX s + 1 else sR s3 (sX s) k := fun k => by
    rw [sR_setR]
    by_cases c : k = 1
    · rw [if_pos ⟨rfl, c⟩, if_pos c]
    · rw [if_neg (fun d => c d.2), if_neg c, sR_setR]
      by_cases c0 : k = 0
      · rw [if_pos ⟨rfl, c0⟩, if_pos c0]
      · rw [if_neg (fun d => c0 d.2), if_neg c0]
  have F1 := fR (sX s + 1) (by omega)
  have F2 := fR (sX s + 2) (by omega)
  refine ⟨_, ?_, ⟨⟨?_, ⟨?_, ?_, ?_⟩, ?_, ?_, ?_⟩, ⟨?_, ?_⟩, fun z hz => ?_, fun z hz => ?_⟩, fun q hq => (e3 q (by omega) (by omega) (by omega)).tr (fR q (by omega)), ?_, ?_⟩
  · have hi : f_Text_init s3 (sX s) (sX s + 1) (sX s + 2) = some (setR (setR s3 (sX s) 0 (sX s + 1)) (sX s) 1 (sX s + 2)) := by
      unfold f_Text_init
      rw [if_pos (by omega), if_pos pT]
    have g1 : sI (setR (setR s3 (sX s) 0 (sX s + 1)) (sX s) 1 (sX s + 2)) t 2 = v len := by
      rw [setR_I, setR_I, E4.2.2.2.1]; exact a8
    have g2 : sI (setI (setR (setR s3 (sX s) 0 (sX s + 1)) (sX s) 1 (sX s + 2)) (sX s) 2 (v len)) t 3 = v cl := by
      rw [sI_setI, if_neg (by omega), setR_I, setR_I, E4.2.2.2.1]; exact a9
    unfold f_Text_trimmed
    rw [nwO_s (by omega), Option.bind_some]
    show (if sT (newA s 12 4) t = 12 then (f_Arrays_copyOf (newA s 12 4) (sR (newA s 12 4) t 0) (sI (newA s 12 4) t 2)).bind _ else none) = _
    rw [E0.1, if_pos a1, E0.2.2.1, a2, E0.2.2.2.1, a8, b1, Option.bind_some]
    show (if sT s2 t = 12 then (f_Arrays_copyOf s2 (sR s2 t 1) (sI s2 t 3 * nI 6)).bind _ else none) = _
    rw [E2.1, if_pos a1, E2.2.2.1, a5, E2.2.2.2.1, a9, nv6, v_mul, c1, Option.bind_some]
    show (if ¬ sX s = 0 then (f_Text_init s3 (sX s) (sX s + 1) (sX s + 2)).bind _ else none) = _
    rw [if_pos (by omega), hi, Option.bind_some]
    show (if sT s3 t = 12 then if sT s3 (sX s) = 12 then some (sX s, setI (setI _ (sX s) 2 (sI (setR (setR s3 (sX s) 0 (sX s + 1)) (sX s) 1 (sX s + 2)) t 2)) (sX s) 3 (sI (setI _ (sX s) 2 (sI (setR (setR s3 (sX s) 0 (sX s + 1)) (sX s) 1 (sX s + 2)) t 2)) t 3)) else none else none) = _
    rw [E4.1, if_pos a1, if_pos pT, g1, g2]
  · exact pT
  · exact (r0 0).trans (by rw [if_neg (by decide), if_pos rfl])
  · rw [F1.1, p2.1]; exact b2
  · rw [F1.2.1, p2.2.1]; exact b3
  · exact (r0 1).trans (if_pos rfl)
  · rw [F2.1]; exact c2
  · rw [F2.2.1]; exact c3
  · rw [sI_setI, if_neg (by omega), sI_setI, if_pos ⟨rfl, rfl⟩]
  · rw [sI_setI, if_pos ⟨rfl, rfl⟩]
  · rw [F1.2.2.2.1, p2.2.2.2.1]; exact b4 z hz
  · rw [F2.2.2.2.1]; exact c4 z (by omega)
  · exact c6
  · show sZ s3 ≤ sZ s + 476
    omega
theorem DyO.law {s s' : AS} {D : DYN} {IM : Nat → IMG} {cn : Nat} (h : DyO s D IM cn) (hc : cn + 1 ≤ 600) (eX : sX s' = sX s + 3) (eZ : sZ s' ≤ sZ s + 480) : DyO s' (D.1, (fun q => D.2.1.1 q ∨ (sX s ≤ q ∧ q < sX s'), D.2.1.2), D.2.2) IM (cn + 1) := by
  obtain ⟨h1, h2, h3, h4, h5, h6, h7, h8, h9⟩ := h
  refine ⟨fun q hq => ?_, fun q hq => ?_, fun q hq => ?_, fun q hq => ?_, h5, by omega, ?_, ?_, hc⟩
  · rcases hq with d | d | (d | d) | d
    · have := h1 q (Or.inl d); omega
    · have := h1 q (Or.inr (Or.inl d)); omega
    · have := h1 q (Or.inr (Or.inr (Or.inl d))); omega
    · omega
    · have := h1 q (Or.inr (Or.inr (Or.inr d))); omega
  · have := h1 q (Or.inl hq)
    exact ⟨(h2 q hq).1, fun d => d.elim (h2 q hq).2.1 (fun e => by omega), (h2 q hq).2.2⟩
  · have := h1 q (Or.inr (Or.inl hq))
    exact ⟨fun d => d.elim (h3 q hq).1 (fun e => by omega), (h3 q hq).2⟩
  · rcases hq with d | d
    · exact h4 q d
    · exact fun e => by have := h1 q (Or.inr (Or.inr (Or.inr e))); omega
  · show sX s' + 7 * (32 - D.2.2.1 - D.2.2.2) + _ + _ ≤ 500 + 3 * (cn + 1)
    omega
  · show sZ s' + 918 * (32 - D.2.2.1 - D.2.2.2) + _ + _ ≤ 200000 + 480 * (cn + 1)
    omega
def lawA (r : Except Int (List CLS)) (se : ST1) : Int := if se.2.1.length = 6 then -5 else match r with
  | .error _ => -6
  | .ok _ => se.2.1.length
def lawSe (r : Except Int (List CLS)) (se : ST1) : ST1 := if se.2.1.length = 6 then se else match r with
  | .error _ => se
  | .ok CL => (se.1, se.2.1 ++ [CL], se.2.2)
def lawMs (r : Except Int (List CLS)) (se : ST1) (ms : Int → Int) : Int → Int := if se.2.1.length = 6 then msR ms (-5) else match r with
  | .error e => msR (bu ms 0 e) (-6)
  | .ok _ => msT (bu ms 0 (-1))
section CLAW
variable {s s0 : AS} {D : DYN} {tp : (Int → Int) × Int} {se : ST1} {P : PG} {LG : LGS} {IM : Nat → IMG} {ms ms' : Int → Int} {vw : (Int → Int) × Int} {dr : DRW} {cn : Nat} {r : Option (Int32 × AS)} {a : Int}
theorem CO.mo {cn' : Nat} (h : CO s r a tp se P LG IM ms vw dr cn) (hc : cn ≤ cn' ∧ cn' ≤ 600) : CO s r a tp se P LG IM ms vw dr cn' := by
  obtain ⟨s', D', h1, h2, h3⟩ := h
  exact ⟨s', D', h1, h2.mo hc, h3⟩
theorem RepD.rd (h : RepD s D tp se P LG IM ms vw dr cn) : sR s 1 3 = 8 ∧ IsRd s 8 := ⟨h.1.2.1.2.2.2.1, h.2.2.2.2.2.1.1⟩
/-- the reader has read -/
theorem RepD.read {s' : AS} {e : Int} (h : RepD s D tp se P LG IM ms vw dr cn) (hf : Fr (inRk 8) (setR s 8 2 2) s') (h7 : sI s' 8 7 = v e) : RepD s' D tp se P LG IM (bu ms 0 e) vw dr cn ∧ GrM s s' := by
  have g1 : Gr (fun q => 8 ≤ q ∧ q ≤ 12) s s' := (gr_setR (by omega)).tr (hf.gr.mo (fun q hq => hq))
  have i1 : IsRd s' 8 := by
    refine IsRd.st (s := setR s 8 2 2) ?_ hf.1
    obtain ⟨a1, ⟨a2, a3⟩, a4, a5, ⟨a6, a7⟩, a8, a9⟩ := h.rd.2
    exact ⟨a1, ⟨by rw [sR_setR, if_neg (by decide)]; exact a2, by rw [sR_setR, if_neg (by decide)]; exact a3⟩, a4, a5, ⟨by rw [sR_setR, if_neg (by decide)]; exact a6, a7⟩, by rw [sR_setR, if_neg (by decide)]; exact a8, a9⟩
  have hdy := h.dy
  have eX : sX s' = sX s := hf.1.2.2.2.1
  have eZ : sZ s' = sZ s := hf.1.2.2.2.2
  refine ⟨h.g_rd g1 ⟨i1, by rw [bu_eq]; exact h7⟩ (fun z hz => bu_ne hz) (by unfold DyO; rw [eX, eZ]; exact hdy), GrM.of g1 hdy.2.2.2.2.2.1 (fun q hq => Or.inl (by omega))⟩
theorem c_law (h : RepD s D tp se P LG IM ms vw dr cn) (hT : TpB tp) (hw : WfT se) (hc : cn + 1 ≤ 600) : CO s (f_C_law s 1) (lawA (textP tp.1 tp.2 false) se) (tp.1, 0) (lawSe (textP tp.1 tp.2 false) se) P LG IM (lawMs (textP tp.1 tp.2 false) se ms) vw dr (cn + 1) := by
  obtain ⟨t1, t2, t3, t4⟩ := h.tp2
  obtain ⟨a1, L, hL⟩ := h.st18
  obtain ⟨r1, r2⟩ := h.rd
  have h6 := hw.2.1
  have o1 := h.1.1
  unfold f_C_law lawA lawSe lawMs
  rw [if_pos o1, a1, if_pos hL.1, hL.2.2.2.2.2.1, nv6, nv0, nv1]
  by_cases c : se.2.1.length = 6
  · obtain ⟨h1, g1, -⟩ := h.tp0
    rw [if_neg (nlt (by omega)), if_pos c, if_pos c, if_pos c]
    unfold b_C_law_17 b_C_law_41 b_C_law_42
    rw [nv0, nv5, if_pos rfl, if_pos o1, t1, if_pos t2, if_pos rfl, v_neg]
    exact (CO.refu h1 g1 (by decide)).mo (by omega)
  · rw [if_pos (plt (by omega)), if_neg c, if_neg c, if_neg c]
    have hsp := s_readAll (rd := 8) (tp := 2) (ord := false) r2 t4 ⟨hT.1, fun z _ _ => hT.2 z⟩ (by omega) (by omega)
    unfold b_C_law_17
    rw [nv0, nv1, if_neg (show ¬ v 1 = v 0 by decide), if_pos o1, r1, if_pos r2.1, t1]
    cases hr : textP tp.1 tp.2 false with
    | error e =>
      rw [hr] at hsp
      obtain ⟨s1, q1, q2, q3⟩ := hsp
      obtain ⟨h1, g1⟩ := h.read q3 q2
      obtain ⟨h2, g2, -⟩ := h1.tp0
      rw [show f_Reader_readAll s 8 2 (v 0) = some (v 0, s1) from q1, Option.bind_some]
      show CO s (b_C_law_42 1 (v 1) (if v 0 = v 0 then v 0 else v 1) s1) (-6) _ se _ _ _ (msR (bu ms 0 e) (-6)) _ _ _
      rw [if_pos rfl]
      unfold b_C_law_42
      rw [nv0, nv6, if_neg (show ¬ v 1 = v 0 by decide), if_pos h1.1.1, h1.tp2.1, if_pos h1.tp2.2.1, if_pos rfl, v_neg]
      exact (CO.refu h2 (g1.tr g2) (by decide)).mo (by omega)
    | ok CL =>
      have hq := q_text hr
      rw [hr] at hsp
      obtain ⟨s1, st, cd, mk, len, q1, q2, q3, q4⟩ := hsp
      obtain ⟨k1, k2, k3, k4, k5, k6, k7⟩ := q2
      have hlen : 0 ≤ len ∧ len ≤ 400 := by
        have h1 := k6.2.1
        have h2 : 0 ≤ st.1 ∧ st.1 ≤ st.2.1 ∧ st.2.1 ≤ tp.2 := k4.1.1
        have h3 := hT.1
        omega
      obtain ⟨h1, g1⟩ := h.read (e := -1) q4 k2.2.2.2.2
      obtain ⟨h2, g2, -⟩ := h1.tp0
      have hx2 := h2.sx
      have hd2 := h2.dy
      have k3' : TxF (setI s1 2 1 (v 0)) 9 cd mk len CL.length := TxF.fr k3 (Fr.si (F := fun q => q = 2) rfl) (by omega) (by omega) (by omega)
      rw [show f_Reader_readAll s 8 2 (v 0) = some (v 1, s1) from q1, Option.bind_some]
      show CO s (b_C_law_42 1 (v 1) (if v 1 = v 0 then v 0 else v 1) s1) (se.2.1.length : Int) _ (se.1, se.2.1 ++ [CL], se.2.2) _ _ _ (msT (bu ms 0 (-1))) _ _ _
      rw [if_neg (show ¬ v 1 = v 0 by decide)]
      generalize hs2 : setI s1 2 1 (v 0) = s2 at *
      obtain ⟨s3, b1, b2, b3, b4, b5⟩ := s_trimmed k3' hlen (by omega) (by omega)
      obtain ⟨L2, m1, m2, m3⟩ := h2.2.2.2.2.2.2.2.1
      obtain ⟨n1, ⟨n2, n3, n4⟩, ⟨n5, n6, n7⟩, n8, n9, n10, n11⟩ := m1
      have E18 := b3 18 (by omega)
      have E19 := b3 19 (by omega)
      have E20 := b3 20 (by omega)
      have hn : se.2.1.length < 6 := by omega
      obtain ⟨p, hp⟩ : ∃ p, p = sX s2 := ⟨_, rfl⟩
      rw [← hp] at b1 b2 b3 b4
      have hp1 : 106 ≤ p ∧ p ≤ 2300 := by omega
      have pT : sT s3 p = 12 := b2.1.1
      obtain ⟨s4, e4⟩ : ∃ x, x = setI (setR s3 20 se.2.1.length p) 18 2 (v ((se.2.1.length : Int) + 1)) := ⟨_, rfl⟩
      have X4 : sX s4 = p + 3 := by rw [e4]; exact b4
      have N4 : ∀ q, q ≠ 18 → q ≠ 20 → EqA s3 s4 q := fun q h1 h2 => by rw [e4]; exact (eqA_setR h2).tr ((Fr.si (F := fun q => q = 18) rfl).eqA h1)
      have T4 : sT s4 = sT s3 := by rw [e4]; rfl
      have NN4 : sN s4 = sN s3 := by rw [e4]; rfl
      have R4 : ∀ q k, sR s4 q k = if q = 20 ∧ k = se.2.1.length then p else sR s3 q k := fun q k => by rw [e4]; exact sR_setR _ _ _ _ _ _
      have I4 : ∀ q k, sI s4 q k = if q = 18 ∧ k = 2 then v ((se.2.1.length : Int) + 1) else sI s3 q k := fun q k => by rw [e4, sI_setI, setR_I]
      have hadd : f_Setting_addLaw s3 18 p = some (v se.2.1.length, s4) := by
        unfold f_Setting_addLaw
        have i2 : sI s3 18 2 = v se.2.1.length := by rw [E18.2.2.2.1]; exact n10
        have x2 : (v (se.2.1.length : Int)).toNatClampNeg = se.2.1.length := by rw [v_ix (by omega)]; omega
        rw [E18.1, if_pos n1, i2, nv6, if_pos (plt (by omega)), E18.2.2.1, n5, E20.1, E20.2.1, n6, n7, if_pos (show (40 ≤ 51 ∧ inA (v (se.2.1.length : Int)) 6) ∧ (p = 0 ∨ sT s3 p + 39 = 51) from ⟨⟨by decide, v_inA (by omega) (by omega)⟩, Or.inr (by rw [pT])⟩), x2, nv1, v_add, sI_setI, if_pos ⟨rfl, rfl⟩, v_sub, show (se.2.1.length : Int) + 1 - 1 = se.2.1.length by omega, e4]
      have ED : ∀ q, D.2.1.1 q → EqA s2 s4 q := fun q hq => by
        have := hd2.1 q (Or.inr (Or.inr (Or.inl hq)))
        exact (b3 q (by omega)).tr (N4 q (by omega) (by omega))
      have hst : SetC s4 18 (se.1, se.2.1 ++ [CL], se.2.2) (fun q => D.2.1.1 q ∨ (sX s2 ≤ q ∧ q < sX s4)) := by
        have hlen2 : (((se.2.1 ++ [CL]).length : Nat) : Int) = (se.2.1.length : Int) + 1 := by rw [List.length_append]; show ((se.2.1.length + 1 : Nat) : Int) = _; omega
        refine ⟨fun z => if z = (se.2.1.length : Int) then p else L2 z, ⟨?_, ⟨?_, ?_, ?_⟩, ⟨?_, ?_, ?_⟩, fun z hz => ?_, fun z hz => ?_, ?_, ?_⟩, fun i CL' hi => ?_, fun z hz => ?_⟩
        · rw [T4, E18.1]; exact n1
        · rw [R4, if_neg (by omega), E18.2.2.1]; exact n2
        · rw [T4, E19.1]; exact n3
        · rw [NN4, E19.2.1]; exact n4
        · rw [R4, if_neg (by omega), E18.2.2.1]; exact n5
        · rw [T4, E20.1]; exact n6
        · rw [NN4, E20.2.1]; exact n7
        · rw [I4, if_neg (by omega), E19.2.2.2.1]; exact n8 z hz
        · have hz' : 0 ≤ z ∧ z < (se.2.1.length : Int) + 1 := by rw [← hlen2]; exact hz
          show sR s4 20 z.toNat = if z = (se.2.1.length : Int) then p else L2 z
          rw [R4]
          by_cases e : z = (se.2.1.length : Int)
          · rw [if_pos ⟨rfl, by omega⟩, if_pos e]
          · rw [if_neg (by omega), if_neg e, E20.2.2.1]; exact n9 z (by omega)
        · rw [I4, if_pos ⟨rfl, rfl⟩, hlen2]
        · rw [I4, if_neg (by omega), E18.2.2.2.1]; exact n11
        · rcases get_snoc hi with ⟨d1, d2⟩ | ⟨d1, d2⟩
          · obtain ⟨y1, y2, y3⟩ := m2 i CL' d2
            show LwP s4 (if (i : Int) = (se.2.1.length : Int) then p else L2 i) CL' ∧ (if (i : Int) = (se.2.1.length : Int) then p else L2 i) ≠ 0 ∧ ∀ j, j ≤ 2 → D.2.1.1 ((if (i : Int) = (se.2.1.length : Int) then p else L2 i) + j) ∨ (sX s2 ≤ (if (i : Int) = (se.2.1.length : Int) then p else L2 i) + j ∧ (if (i : Int) = (se.2.1.length : Int) then p else L2 i) + j < sX s4)
            rw [if_neg (by omega)]
            exact ⟨y1.eq (fun j hj => ED _ (y3 j hj)), y2, fun j hj => Or.inl (y3 j hj)⟩
          · subst d2
            show LwP s4 (if (i : Int) = (se.2.1.length : Int) then p else L2 i) CL' ∧ (if (i : Int) = (se.2.1.length : Int) then p else L2 i) ≠ 0 ∧ ∀ j, j ≤ 2 → D.2.1.1 ((if (i : Int) = (se.2.1.length : Int) then p else L2 i) + j) ∨ (sX s2 ≤ (if (i : Int) = (se.2.1.length : Int) then p else L2 i) + j ∧ (if (i : Int) = (se.2.1.length : Int) then p else L2 i) + j < sX s4)
            rw [if_pos (by omega)]
            refine ⟨⟨len.toNat, ((CL'.length : Int) * 6).toNat, cd, mk, len, ?_, by omega, by omega, TxS_of k6 hlen.2 q3 hq.2, LawS_of hq.1⟩, by omega, fun j hj => Or.inr (by omega)⟩
            exact b2.eq (fun j hj => N4 _ (by omega) (by omega))
        · rw [R4]
          by_cases e : z = se.2.1.length
          · rw [if_pos ⟨rfl, e⟩]
            exact Or.inr ⟨by rw [T4]; exact pT, Or.inr (by omega)⟩
          · rw [if_neg (by omega), E20.2.2.1]
            rcases m3 z hz with d | ⟨d, d2⟩
            · exact Or.inl d
            · exact Or.inr ⟨by rw [(ED _ d2).1]; exact d, Or.inl d2⟩
      have g4 : Gr (fun q => 18 ≤ q ∧ q ≤ 20) s2 s4 := ⟨fun q hq hF => (b3 q (by omega)).tr (N4 q (by omega) (by omega)), by omega⟩
      have hdl := hd2.law (s' := s4) hc (by omega) (by rw [e4]; show sZ s3 ≤ _; omega)
      have h4 := h2.g_st g4 (fun q hq => Or.inl hq) hst hdl
      have g5 : GrM s2 s4 := GrM.of g4 (by omega) (fun q hq => Or.inl (by omega))
      have e9 : sR s1 8 0 = 9 := k1.2.1.1
      have t9 : sT s1 9 = 12 := k3.1.1
      unfold b_C_law_42
      rw [nv0, if_neg (show ¬ v 1 = v 0 by decide), if_pos h1.1.1, h1.tp2.1, if_pos h1.tp2.2.1, if_neg (show ¬ v 1 = v 0 by decide), h1.rd.1, if_pos h1.rd.2.1, e9, if_pos t9, hs2, b1, Option.bind_some, h1.st18.1]
      show CO s (if sT s3 18 = 11 then (f_Setting_addLaw s3 18 p).bind _ else none) _ _ _ _ _ _ _ _ _ _
      rw [E18.1, if_pos n1, hadd, Option.bind_some, if_pos h4.1.1]
      exact CO.told h4 ((g1.tr g2).tr g5)
end CLAW
