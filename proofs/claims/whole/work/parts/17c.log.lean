/-! THE CLASS'S LOG: pushed, added, pulled -/
theorem IsLg.st {s s' : AS} {lg : Nat} (h : IsLg s lg) (k : St s s') : IsLg s' lg := by
  unfold IsLg
  rw [k.1, k.2.1, k.2.2.1]
  exact h
theorem IsP.st {s s' : AS} {b : Nat} (h : IsP s b) (k : St s s') : IsP s' b := by
  unfold IsP
  rw [k.1, k.2.1, k.2.2.1]
  exact h
section LGP
variable {s s' : AS} {lg k b : Nat} {D : Nat → Prop} {LG : LGS} {Bf : PG} {kind : Int}
theorem s_push41 (h : LogC s lg D k LG) (hl : LG.length < k) (hD : ∀ q, D q → q ≠ lg ∧ q ≠ lg + 1 ∧ q ≠ lg + 2) (hb : PgR s b Bf) (hbD : ∀ j, j ≤ 6 → ¬ D (b + j)) :
    ∃ s', b_Log_push_41 lg (v kind) b s = some s' ∧ LogC s' lg D k (LG ++ [(kind, Bf)]) ∧ Fr (fun q => (lg ≤ q ∧ q ≤ lg + 2) ∨ D q) s s' := by
  obtain ⟨Lr, h1, h2, h3, h4, h5, h6, h7⟩ := h
  obtain ⟨⟨p1, p0⟩, p2⟩ := h5 LG.length hl
  have hne : Lr LG.length ≠ b := fun e => hbD 0 (by omega) (by have := p2 0 (by omega); rw [e] at this; exact this)
  obtain ⟨s1, q1, q2, q3⟩ := s_takeFrom p1 hb hne
  have x1 : (v (LG.length : Int)).toNatClampNeg = LG.length := by rw [v_ix (by omega)]; omega
  have hin : ∀ q, inP (Lr LG.length) q → D q := fun q hq => by
    have := p2 (q - Lr LG.length) (by omega)
    rw [show Lr LG.length + (q - Lr LG.length) = q by omega] at this
    exact this
  have e1 : ∀ q, ¬ D q → EqA s s1 q := fun q hq => q3.eqA (fun d => hq (hin q d))
  have eL : ∀ i, i ≤ 2 → EqA s s1 (lg + i) := fun i hi => e1 _ (fun d => by have := hD _ d; omega)
  have g1 := h1.eq eL
  have gl := eL 0 (by omega)
  rw [Nat.add_zero] at gl
  obtain ⟨s2, f2⟩ : ∃ x, x = setI (setI s1 (lg + 1) LG.length (v kind)) lg 2 (v ((LG.length : Int) + 1)) := ⟨_, rfl⟩
  have fr2 : Fr (fun q => q = lg ∨ q = lg + 1) s1 s2 := by rw [f2]; exact (Fr.si (Or.inr rfl)).tr (Fr.si (Or.inl rfl))
  have I2 : ∀ q z, sI s2 q z = if q = lg ∧ z = 2 then v ((LG.length : Int) + 1) else if q = lg + 1 ∧ z = LG.length then v kind else sI s1 q z := fun q z => by rw [f2, sI_setI, sI_setI]
  have eD2 : ∀ q, D q → EqA s1 s2 q := fun q hq => fr2.eqA (fun d => by have := hD q hq; omega)
  have hpg : ∀ i, i < k → i ≠ LG.length → ∀ j, j ≤ 6 → EqA s s1 (Lr i + j) := fun i hi hne2 j hj => by
    refine q3.eqA (fun d => ?_)
    have hb2 := (h5 i hi).1.1
    have := pg_pg hb2 p1 (fun e => hne2 (h6 i _ hi hl e)) j (Lr i + j - Lr LG.length) hj (by unfold inP at d; omega)
    unfold inP at d
    omega
  have st12 : St s s2 := q3.1.tr fr2.1
  have hls : ((LG ++ [(kind, Bf)]).length : Int) = (LG.length : Int) + 1 := by rw [List.length_append]; show ((LG.length + 1 : Nat) : Int) = _; omega
  refine ⟨s2, ?_, ⟨Lr, h1.st st12, ?_, ⟨by rw [List.length_append]; show LG.length + 1 ≤ k; omega, h3.2⟩, fun i hi => by rw [st12.1]; exact h4 i hi, fun i hi => ⟨⟨(h5 i hi).1.1.st st12, (h5 i hi).1.2⟩, (h5 i hi).2⟩, h6, fun i x hx => ?_⟩, (q3.mo (fun q hq => Or.inr (hin q hq))).tr (fr2.mo (fun q hq => by omega))⟩
  · have a3 := h1.2.2.2
    have a2 := h1.2.1
    have a4 := h1.2.2.1
    have rl : sR s (lg + 2) (v (LG.length : Int)).toNatClampNeg = Lr LG.length := by rw [x1, h4 LG.length (by omega), if_pos hl]
    have gl2 : sI s1 lg 2 = v LG.length := by rw [gl.2.2.2.1]; exact h2
    have gl3 : sI (setI s1 (lg + 1) LG.length (v kind)) lg 2 = v LG.length := by rw [sI_setI, if_neg (by omega)]; exact gl2
    unfold b_Log_push_41
    rw [if_pos h1.1, a2.2, a3.1, a3.2, h2, if_pos (show 40 ≤ 46 ∧ inA (v (LG.length : Int)) 16 from ⟨by decide, v_inA (by omega) (by omega)⟩), rl, if_pos p1.1, q1, Option.bind_some, if_pos (by rw [gl.1]; exact h1.1), gl.2.2.1, a2.1, (eL 1 (by omega)).1, (eL 1 (by omega)).2.1, a4.1, a4.2, gl2, if_pos (show 20 = 20 ∧ inA (v (LG.length : Int)) 16 from ⟨rfl, v_inA (by omega) (by omega)⟩), x1, gl3, nv1, v_add, f2]
  · rw [I2, if_pos ⟨rfl, rfl⟩, hls]
  · rcases get_snoc hx with ⟨d1, d2⟩ | ⟨d1, d2⟩
    · obtain ⟨b1, b2⟩ := h7 i x d2
      refine ⟨?_, ?_⟩
      · rw [I2, if_neg (by omega), if_neg (by omega), (eL 1 (by omega)).2.2.2.1]; exact b1
      · exact (b2.eq (hpg i (by omega) (by omega))).eq (fun j hj => eD2 _ ((h5 i (by omega)).2 j hj))
    · rw [d1, d2]
      refine ⟨?_, ?_⟩
      · rw [I2, if_neg (by omega), if_pos ⟨rfl, rfl⟩]
      · exact q2.eq (fun j hj => eD2 _ (p2 j hj))
/-- the place of a row is made -/
theorem s_push13 (h : LogC s lg D k LG) (hl : LG.length < 16) (hD : ∀ q, D q → (q ≠ lg ∧ q ≠ lg + 1 ∧ q ≠ lg + 2) ∧ q < sX s) (hlg : lg + 2 < sX s) (hX : sX s + 10 < 900000) (hb : PgR s b Bf) (hbD : ∀ j, j ≤ 6 → ¬ D (b + j) ∧ b + j < sX s) :
    ∃ s' k', b_Log_push_13 lg (v kind) b s = some s' ∧ LogC s' lg (fun q => D q ∨ (sX s ≤ q ∧ q < sX s')) k' (LG ++ [(kind, Bf)]) ∧ Gr (fun q => (lg ≤ q ∧ q ≤ lg + 2) ∨ D q) s s' ∧ ((k' = k ∧ sX s' = sX s ∧ sZ s' = sZ s) ∨ (k' = k + 1 ∧ sX s' = sX s + 7 ∧ sZ s' = sZ s + 918)) := by
  have h' := h
  obtain ⟨Lr, h1, h2, h3, h4, h5, h6, h7⟩ := h
  have x1 : (v (LG.length : Int)).toNatClampNeg = LG.length := by rw [v_ix (by omega)]; omega
  have a2 := h1.2.1
  have a3 := h1.2.2.2
  have rl : sR s (lg + 2) (v (LG.length : Int)).toNatClampNeg = if LG.length < k then Lr LG.length else 0 := by rw [x1, h4 LG.length hl]
  unfold b_Log_push_13
  rw [if_pos h1.1, a2.2, a3.1, a3.2, h2, if_pos (show 40 ≤ 46 ∧ inA (v (LG.length : Int)) 16 from ⟨by decide, v_inA (by omega) (by omega)⟩), rl]
  by_cases c : LG.length < k
  · obtain ⟨s1, q1, q2, q3⟩ := s_push41 (kind := kind) h' c (fun q hq => (hD q hq).1) hb (fun j hj => (hbD j hj).1)
    have hne := (h5 LG.length c).1.2
    rw [if_pos c, if_neg (by omega), q1]
    exact ⟨s1, k, rfl, q2.mo (fun q hq => Or.inl hq), q3.gr, Or.inl ⟨rfl, q3.1.2.2.2.1, q3.1.2.2.2.2⟩⟩
  · have hk : k = LG.length := by omega
    obtain ⟨s1, q1, q2, q3, q4, q5⟩ := s_newPages (s := s) hX (by omega)
    have eo : ∀ q, q < sX s → EqA s s1 q := fun q hq => q3.1 q (Or.inl hq) (fun d => d)
    obtain ⟨s2, f2⟩ : ∃ x, x = setR s1 (lg + 2) LG.length (sX s) := ⟨_, rfl⟩
    have e2 : ∀ q, q ≠ lg + 2 → EqA s1 s2 q := fun q hq => by rw [f2]; exact eqA_setR hq
    have R2 : ∀ q z, sR s2 q z = if q = lg + 2 ∧ z = LG.length then sX s else sR s1 q z := fun q z => by rw [f2]; exact sR_setR _ _ _ _ _ _
    have hnew : ∀ j, j ≤ 6 → sX s + j ≠ lg + 2 := fun j hj => by omega
    have gI : IsLg s1 lg := h1.eq (fun i hi => eo _ (by omega))
    have gI2 : IsLg s2 lg := by
      refine ⟨by rw [f2, setR_T]; exact gI.1, ⟨?_, ?_⟩, ⟨by rw [f2, setR_T]; exact gI.2.2.1.1, by rw [f2, setR_N]; exact gI.2.2.1.2⟩, by rw [f2, setR_T]; exact gI.2.2.2.1, by rw [f2, setR_N]; exact gI.2.2.2.2⟩
      · rw [R2, if_neg (by omega)]; exact gI.2.1.1
      · rw [R2, if_neg (by omega)]; exact gI.2.1.2
    have eg := (eo lg (by omega))
    have eg2 := (eo (lg + 2) (by omega))
    have hP2 : PgR s2 (sX s) bareP := q2.eq (fun j hj => e2 _ (hnew j hj))
    have hL2 : LogC s2 lg (fun q => D q ∨ (sX s ≤ q ∧ q < sX s + 7)) (k + 1) LG := by
      refine ⟨fun i => if i = k then sX s else Lr i, gI2, ?_, ⟨by omega, by omega⟩, fun i hi => ?_, fun i hi => ?_, fun i j hi hj e => ?_, fun i x hx => ?_⟩
      · rw [f2, setR_I, eg.2.2.2.1]; exact h2
      · show sR s2 (lg + 2) i = if i < k + 1 then (if i = k then sX s else Lr i) else 0
        rw [R2]
        by_cases d : i = LG.length
        · rw [if_pos ⟨rfl, d⟩, if_pos (by omega), if_pos (by omega)]
        · rw [if_neg (fun e => d e.2), eg2.2.2.1, h4 i hi, if_neg (show ¬ i = k by omega)]
          by_cases e : i < k
          · rw [if_pos e, if_pos (by omega)]
          · rw [if_neg e, if_neg (by omega)]
      · show (IsP s2 (if i = k then sX s else Lr i) ∧ 0 < (if i = k then sX s else Lr i)) ∧ ∀ j, j ≤ 6 → D ((if i = k then sX s else Lr i) + j) ∨ (sX s ≤ (if i = k then sX s else Lr i) + j ∧ (if i = k then sX s else Lr i) + j < sX s + 7)
        by_cases d : i = k
        · rw [if_pos d]
          exact ⟨⟨hP2.1, by omega⟩, fun j hj => Or.inr ⟨by omega, by omega⟩⟩
        · rw [if_neg d]
          obtain ⟨⟨u1, u2⟩, u3⟩ := h5 i (by omega)
          exact ⟨⟨(u1.eq (fun j hj => eo _ (hD _ (u3 j hj)).2)).eq (fun j hj => e2 _ (hD _ (u3 j hj)).1.2.2), u2⟩, fun j hj => Or.inl (u3 j hj)⟩
      · have e' : (if i = k then sX s else Lr i) = (if j = k then sX s else Lr j) := e
        by_cases di : i = k
        · rw [if_pos di] at e'
          by_cases dj : j = k
          · omega
          · rw [if_neg dj] at e'
            have u3 := (h5 j (by omega)).2 0 (by omega)
            have := (hD _ u3).2
            omega
        · rw [if_neg di] at e'
          by_cases dj : j = k
          · rw [if_pos dj] at e'
            have u3 := (h5 i (by omega)).2 0 (by omega)
            have := (hD _ u3).2
            omega
          · rw [if_neg dj] at e'
            exact h6 i j (by omega) (by omega) e'
      · have hi : i < LG.length := (List.getElem?_eq_some_iff.mp hx).1
        obtain ⟨b1, b2⟩ := h7 i x hx
        refine ⟨by rw [f2, setR_I, (eo (lg + 1) (by omega)).2.2.2.1]; exact b1, ?_⟩
        show PgR s2 (if i = k then sX s else Lr i) x.2
        rw [if_neg (by omega)]
        obtain ⟨-, u3⟩ := h5 i (by omega)
        exact (b2.eq (fun j hj => eo _ (hD _ (u3 j hj)).2)).eq (fun j hj => e2 _ (hD _ (u3 j hj)).1.2.2)
    have hb2 : PgR s2 b Bf := (hb.eq (fun j hj => eo _ (hbD j hj).2)).eq (fun j hj => e2 _ (fun e => by
      have t1 := hb.1
      have t2 : sT s (lg + 2) = 46 := a3.1
      rcases Nat.lt_or_ge 0 j with d | d
      · have : sT s (b + j) = 20 := by
          obtain ⟨-, v1, v2, v3, v4, v5, v6⟩ := t1
          have hj' : j = 1 ∨ j = 2 ∨ j = 3 ∨ j = 4 ∨ j = 5 ∨ j = 6 := by omega
          rcases hj' with rfl | rfl | rfl | rfl | rfl | rfl
          · exact v1.2.1
          · exact v2.2.1
          · exact v3.2.1
          · exact v4.2.1
          · exact v5.2.1
          · exact v6.2.1
        rw [e] at this
        omega
      · have d0 : j = 0 := by omega
        subst d0
        rw [Nat.add_zero] at e
        have := t1.1
        rw [e] at this
        omega))
    obtain ⟨s3, r1, r2, r3⟩ := s_push41 (kind := kind) hL2 (by omega) (fun q hq => by
      rcases hq with d | d
      · exact (hD q d).1
      · omega) hb2 (fun j hj d => by
      rcases d with d | d
      · exact (hbD j hj).1 d
      · have := (hbD j hj).2; omega)
    have xs2 : sX s2 = sX s + 7 := by rw [f2, setR_X]; exact q4
    have zs2 : sZ s2 = sZ s + 918 := by rw [f2, setR_Z]; exact q5
    have xs3 : sX s3 = sX s + 7 := by rw [show sX s3 = sX s2 from r3.1.2.2.2.1]; exact xs2
    refine ⟨s3, k + 1, ?_, by rw [xs3]; exact r2, ⟨fun q hq hF => (q3.1 q hq (fun d => d)).tr ((e2 q (fun e => hF (Or.inl (by omega)))).tr (r3.eqA (fun d => by
      rcases d with d | d | d
      · exact hF (Or.inl d)
      · exact hF (Or.inr d)
      · omega))), by omega⟩, Or.inr ⟨rfl, xs3, by rw [show sZ s3 = sZ s2 from r3.1.2.2.2.2]; exact zs2⟩⟩
    have t7 : sT s1 (sX s) = 7 := q2.1.1
    rw [if_neg c, if_pos rfl, nwO_s (by omega), Option.bind_some]
    show (if ¬ sX s = 0 then (f_Pages_init (newA s 7 6) (sX s)).bind _ else none) = some s3
    rw [if_pos (by omega), q1, Option.bind_some, eg2.1, eg2.2.1, a3.1, a3.2]
    show (if (40 ≤ 46 ∧ inA (v (LG.length : Int)) 16) ∧ (sX s = 0 ∨ sT s1 (sX s) + 39 = 46) then b_Log_push_41 lg (v kind) b (setR s1 (lg + 2) (v (LG.length : Int)).toNatClampNeg (sX s)) else none) = some s3
    rw [if_pos ⟨⟨by decide, v_inA (by omega) (by omega)⟩, Or.inr (by rw [t7])⟩, x1, ← f2]
    exact r1
theorem s_push (h : LogC s lg D k LG) (h16 : LG.length ≤ 16) (hD : ∀ q, D q → (q ≠ lg ∧ q ≠ lg + 1 ∧ q ≠ lg + 2) ∧ q < sX s) (hlg : lg + 2 < sX s) (hX : sX s + 10 < 900000) (hb : PgR s b Bf) (hbD : ∀ j, j ≤ 6 → (¬ D (b + j) ∧ ¬ (lg ≤ b + j ∧ b + j ≤ lg + 2)) ∧ b + j < sX s) :
    ∃ s' k', f_Log_push s lg (v kind) b = some s' ∧ LogC s' lg (fun q => D q ∨ (sX s ≤ q ∧ q < sX s')) k' (pushL LG (kind, Bf)) ∧ Gr (fun q => (lg ≤ q ∧ q ≤ lg + 2) ∨ D q) s s' ∧ ((k' = k ∧ sX s' = sX s ∧ sZ s' = sZ s) ∨ (k' = k + 1 ∧ sX s' = sX s + 7 ∧ sZ s' = sZ s + 918)) := by
  have h2 : sI s lg 2 = v LG.length := by obtain ⟨Lr, h1, h2, -⟩ := h; exact h2
  have h1 : IsLg s lg := by obtain ⟨Lr, h1, -⟩ := h; exact h1
  unfold f_Log_push pushL
  rw [if_pos h1.1, h2, nv16]
  by_cases c : LG.length < 16
  · rw [if_pos (plt (by omega)), if_neg (by omega)]
    exact s_push13 h c hD hlg hX hb (fun j hj => ⟨(hbD j hj).1.1, (hbD j hj).2⟩)
  · obtain ⟨s1, q1, q2, q3, q4, q5⟩ := s_forget h (by omega) (fun q hq => (hD q hq).1)
    rw [if_neg (nlt (by omega)), if_pos (by omega), q1, Option.bind_some]
    have hb1 : PgR s1 b Bf := hb.eq (fun j hj => q3.1 _ (Or.inl (hbD j hj).2) (hbD j hj).1.2)
    obtain ⟨s2, k2, r1, r2, r3, r4⟩ := s_push13 (kind := kind) q2 (by rw [List.length_tail]; omega) (fun q hq => by rw [q4]; exact hD q hq) (by omega) (by omega) hb1 (fun j hj => by rw [q4]; exact ⟨(hbD j hj).1.1, (hbD j hj).2⟩)
    rw [q4, q5] at r4
    rw [q4] at r2
    exact ⟨s2, k2, r1, r2, (q3.mo (fun q hq => Or.inl hq)).tr r3, r4⟩
end LGP
