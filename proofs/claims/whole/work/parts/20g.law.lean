/-! PAIRS: law, on the reference -/
theorem lawSe_W {r : Except Int (List CLS)} {se : ST1} (h : WfT se) (hr : ∀ CL, r = .ok CL → (∀ x ∈ CL, QC false x) ∧ CL.length ≤ 12) : WfT (lawSe r se) := by
  unfold lawSe
  by_cases c : se.2.1.length = 6
  · rw [if_pos c]; exact h
  rw [if_neg c]
  cases r with
  | error e => exact h
  | ok CL =>
    obtain ⟨h1, h2, h3, h4⟩ := h
    have hl : (se.2.1 ++ [CL]).length = se.2.1.length + 1 := by rw [List.length_append]; rfl
    refine ⟨h1, ?_, ?_, fun K hK => ?_⟩
    · show (se.2.1 ++ [CL]).length ≤ 6
      omega
    · show -1 ≤ se.2.2 ∧ se.2.2 < ((se.2.1 ++ [CL]).length : Int)
      omega
    · rcases List.mem_append.mp hK with d | d
      · exact h4 K d
      · have e : K = CL := by simpa using d
        rw [e]
        exact hr CL rfl
section RLAW
variable {s : AS} {tp : (Int → Int) × Int} {se se' : ST1} {P : PG} {LG : LGS} {IM : Nat → IMG} {ms ms' : Int → Int} {vw : (Int → Int) × Int} {dr : DRW} {A A' : MA}
theorem RepA.v_lw (h : RepA A tp se P LG IM ms vw dr) (ha : AF scrZ A A') (h12 : A' 0 12 = 0 ∧ A' 0 19 = 0) (hst : SetA (A' 2) se') (hpg : ∀ z, 5 ≤ z → z < 821 → A' 2 z = A 2 z) (hit' : A' 0 17 = ms' 0 ∧ A' 0 52 = ms' 1 ∧ A' 0 1 = ms' 2) (hrf' : A' 1 1 = ms' 3 ∧ A' 1 2 = ms' 4 ∧ A' 1 3 = ms' 5 ∧ A' 1 5 = ms' 6 ∧ A' 1 6 = ms' 7) : RepA A' (tp.1, 0) se' P LG IM ms' vw dr := by
  obtain ⟨htp, hwr, hok, -, hpg0, hlg, him, hit, hrf, hvw, hdr⟩ := h
  exact ⟨⟨h12.1, by show (0 : Int) ≤ 0 ∧ (0 : Int) ≤ 400; decide, fun z z0 z1 => absurd (show z < 0 from z1) (by omega)⟩, hwr.fr ha (fun j z hj => by omega), ⟨h12.2, hok.2.fr (ha 0 41 (by omega)) (ha 0 42 (by omega))⟩, hst, hpg0.cg (fun z z0 z1 => hpg z z0 z1), hlg.gen (fun z z0 z1 => ha 5 z (by omega)) (fun z z0 z1 => ha 6 z (by omega)) (ha 0 8 (by omega)), fun k hk => (him k hk).cg (fun z => ha 3 z (by omega)) (fun z => ha 4 z (by omega)), hit', hrf', ⟨by rw [ha 0 46 (by omega)]; exact hvw.1, fun z z0 z1 => by rw [ha 23 z (by omega)]; exact hvw.2 z z0 z1⟩, hdr.cg (ha 0 56 (by omega)) (fun z => ha 27 z (by omega))⟩
theorem SetA.add {R S : Int → Int} {CL : List CLS} (h : SetA R se) (h6 : se.2.1.length < 6) (h0 : S 0 = (se.2.1.length : Int) + 1) (hT : TxM S (821 + 900 * (se.2.1.length : Int)) (TXof CL) CL.length) (he : ∀ z, 1 ≤ z → z < 821 + 900 * (se.2.1.length : Int) → S z = R z) : SetA S (se.1, se.2.1 ++ [CL], se.2.2) := by
  obtain ⟨g1, g2, ⟨g3, g4, g5⟩, g6⟩ := h
  have hl : (((se.2.1 ++ [CL]).length : Nat) : Int) = (se.2.1.length : Int) + 1 := by rw [List.length_append]; show ((se.2.1.length + 1 : Nat) : Int) = _; omega
  refine ⟨by rw [h0]; exact hl.symm, by rw [he 1 (by omega) (by omega)]; exact g2, ⟨by rw [he 2 (by omega) (by omega)]; exact g3, by rw [he 3 (by omega) (by omega)]; exact g4, by rw [he 4 (by omega) (by omega)]; exact g5⟩, fun i K hi => ?_⟩
  rcases get_snoc hi with ⟨d1, d2⟩ | ⟨d1, d2⟩
  · exact (g6 i K d2).cong2 (fun z z0 z1 => he z (by omega) (by omega))
  · subst d1
    rw [d2]
    exact hT
theorem r_law (h : MR s 78 A) (hR : RepA A tp se P LG IM ms vw dr) (hw : WfT se) : RO s (f_M_law s 78) (lawA (textP tp.1 tp.2 false) se) (tp.1, 0) (lawSe (textP tp.1 tp.2 false) se) P LG IM (lawMs (textP tp.1 tp.2 false) se ms) vw dr := by
  have h6 := hw.2.1
  have hst := hR.2.2.2.1
  obtain ⟨i1, i2, i3⟩ := hR.2.2.2.2.2.2.2.1
  obtain ⟨j1, j2, j3, j4, j5⟩ := hR.2.2.2.2.2.2.2.2.1
  unfold lawA lawSe lawMs
  by_cases c : se.2.1.length = 6
  · obtain ⟨s1, A1, q1, q2, ⟨q3, q4⟩, q5, q6, q7⟩ := m_lawFull h (by rw [hst.1]; omega)
    rw [if_pos c, if_pos c, if_pos c]
    have e2 : A1 2 = A 2 := funext (fun z => q6 2 z (by omega))
    refine ⟨s1, A1, q1, q2, hR.v_lw (q6.mo (fun j z hj => by omega)) ⟨q3, by rw [q6 0 19 (by omega)]; exact hR.2.2.1.1⟩ (by rw [e2]; exact hst) (fun z z0 z1 => by rw [e2]) ⟨?_, ?_, ?_⟩ ⟨?_, ?_, ?_, ?_, ?_⟩, q7⟩
    · rw [q6 0 17 (by omega), i1]; rfl
    · rw [q6 0 52 (by omega), i2]; rfl
    · rw [q4]; rfl
    · rw [q5, if_neg (by decide), j1]; rfl
    · rw [q5, if_neg (by decide), j2]; rfl
    · rw [q5, if_neg (by decide), j3]; rfl
    · rw [q5, if_pos rfl, j4]; rfl
    · rw [q5, if_neg (by decide), j5]; rfl
  · rw [if_neg c, if_neg c, if_neg c]
    have hsp := m_law (nl := (se.2.1.length : Int)) h hR.1 hR.2.1 hst.1 (by omega)
    cases hr : textP tp.1 tp.2 false with
    | error e =>
      rw [hr] at hsp
      obtain ⟨s1, A1, q1, q2, ⟨q3, q4, q5, q6⟩, q7, q8, q9, q10⟩ := hsp
      have e2 : A1 2 = A 2 := funext q8
      refine ⟨s1, A1, q1, q2, hR.v_lw q9 ⟨q3, q4⟩ (by rw [e2]; exact hst) (fun z z0 z1 => by rw [e2]) ⟨?_, ?_, ?_⟩ ⟨?_, ?_, ?_, ?_, ?_⟩, q10⟩
      · rw [q5]; rfl
      · rw [q9 0 52 (by omega), i2]; rfl
      · rw [q6]; rfl
      · rw [q7, if_neg (by decide), j1]; rfl
      · rw [q7, if_neg (by decide), j2]; rfl
      · rw [q7, if_neg (by decide), j3]; rfl
      · rw [q7, if_neg (by decide), j4]; rfl
      · rw [q7, if_pos rfl, j5]; rfl
    | ok CL =>
      rw [hr] at hsp
      obtain ⟨s1, A1, q1, q2, ⟨q3, q4, q5, q6⟩, q7, ⟨q8, q9, q10⟩, q11, q12⟩ := hsp
      refine ⟨s1, A1, q1, q2, hR.v_lw q11 ⟨q3, q4⟩ (hst.add (by omega) q8 q9 q10) (fun z z0 z1 => q10 z (by omega) (by omega)) ⟨?_, ?_, ?_⟩ ⟨?_, ?_, ?_, ?_, ?_⟩, q12⟩
      · rw [q5]; rfl
      · rw [q11 0 52 (by omega), i2]; rfl
      · rw [q6]; rfl
      · rw [q7, j1]; rfl
      · rw [q7, j2]; rfl
      · rw [q7, j3]; rfl
      · rw [q7, j4]; rfl
      · rw [q7, j5]; rfl
end RLAW
