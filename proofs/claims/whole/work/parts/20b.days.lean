/-! PAIRS: days, on the class -/
theorem cnt_r (P : PG) (kd : Int) (n : Nat) : 0 ≤ cntP P kd n ∧ cntP P kd n ≤ n := by
  have := sumZ_r (f := fun a => if P 0 a = kd then 1 else 0) (m := 1) (by decide) (fun z => by
    show 0 ≤ (if P 0 z = kd then (1 : Int) else 0) ∧ _ ≤ (1 : Int)
    split <;> omega) n
  unfold cntP
  omega
theorem count_r (P : PG) : 0 ≤ countP P ∧ countP P ≤ 384 := by
  have h1 := cnt_r P 1 128
  have h2 := cnt_r P 2 128
  have h4 := cnt_r P 4 128
  unfold countP
  omega
theorem keepD_v (Q : PG) (z : Int) : keepD Q (3 * z) = freeP Q z ∧ keepD Q (3 * z + 1) = Q 4 z ∧ keepD Q (3 * z + 2) = cellsP Q z := by
  refine ⟨?_, ?_, ?_⟩
  · show (if (3 * z) % 3 = 0 then freeP Q (3 * z / 3) else if (3 * z) % 3 = 1 then Q 4 (3 * z / 3) else cellsP Q (3 * z / 3)) = _
    rw [if_pos (by omega), show 3 * z / 3 = z by omega]
  · show (if (3 * z + 1) % 3 = 0 then freeP Q ((3 * z + 1) / 3) else if (3 * z + 1) % 3 = 1 then Q 4 ((3 * z + 1) / 3) else cellsP Q ((3 * z + 1) / 3)) = _
    rw [if_neg (by omega), if_pos (by omega), show (3 * z + 1) / 3 = z by omega]
  · show (if (3 * z + 2) % 3 = 0 then freeP Q ((3 * z + 2) / 3) else if (3 * z + 2) % 3 = 1 then Q 4 ((3 * z + 2) / 3) else cellsP Q ((3 * z + 2) / 3)) = _
    rw [if_neg (by omega), if_neg (by omega), show (3 * z + 2) / 3 = z by omega]
section DAYC
variable {s s0 : AS} {D : DYN} {tp : (Int → Int) × Int} {se : ST1} {P Q Q' Bf : PG} {LG : LGS} {IM : Nat → IMG} {ms : Int → Int} {vw : (Int → Int) × Int} {dr : DRW} {cn : Nat} {x : Int}
abbrev kpD (s : AS) (Q : PG) (i : Int) : Prop := ∀ z : Int, 0 ≤ z ∧ z < i → sI s 72 z.toNat = v (freeP Q z) ∧ sI s 73 z.toNat = v (Q 4 z) ∧ sI s 74 z.toNat = v (cellsP Q z)
theorem c_keepL (hB : PgB Q) (hc : ClC s dr) (hp : DkO s 39 Q) : ∀ (k N : Nat) (i : Int) (x : AS), i + k = 8 → 0 ≤ i → k < N → Fr (fun q => 72 ≤ q ∧ q ≤ 74) s x → kpD x Q i → ∃ x', l_Calendar_keep_2 N 71 (v i) x = some (setI x' 71 5 (v 1)) ∧ Fr (fun q => 72 ≤ q ∧ q ≤ 74) s x' ∧ kpD x' Q 8 := by
  obtain ⟨c1, ⟨c2, c3, c4, c5, c6⟩, ⟨⟨c7, c8⟩, ⟨c9, c10⟩, c11, c12⟩, -⟩ := hc
  have d1 : sT s 39 = 3 := hp.1.1
  have d2 : sR s 39 2 = 40 := hp.1.2.1.2.2.1
  have s40 : PgR s 40 Q := hp.2.2.1
  have d3 : sT s 40 = 7 := s40.1.1
  have d4 : sR s 40 4 = 45 ∧ sT s 45 = 20 ∧ sN s 45 = 8 := s40.1.2.2.2.2.2.1
  intro k
  induction k with
  | zero =>
    intro N i x hi h0 hN hf hz
    obtain ⟨N, rfl⟩ : ∃ m, N = m + 1 := ⟨N - 1, by omega⟩
    refine ⟨x, ?_, hf, fun z hz' => hz z (by omega)⟩
    show b_Calendar_keep_2 _ _ _ _ = _
    unfold b_Calendar_keep_2
    rw [nv8, if_neg (nlt (by omega)), nv1, if_pos (show sT x 71 = 2 ∧ (v 1 = nI 0 ∨ v 1 = v 1) from ⟨by rw [hf.1.2.1]; exact c1, Or.inr rfl⟩)]
  | succ k ih =>
    intro N i x hi h0 hN hf hz
    obtain ⟨N, rfl⟩ : ∃ m, N = m + 1 := ⟨N - 1, by omega⟩
    have x40 : PgR x 40 Q := s40.eq (fun j hj => hf.eqA (by omega))
    have f2 : Fr (fun q => 72 ≤ q ∧ q ≤ 74) x (setI (setI x 72 i.toNat (v (freeP Q i))) 73 i.toNat (v (Q 4 i))) := (Fr.si (by omega)).tr (Fr.si (by omega))
    have y40 : PgR (setI (setI x 72 i.toNat (v (freeP Q i))) 73 i.toNat (v (Q 4 i))) 40 Q := x40.eq (fun j hj => f2.eqA (by omega))
    have f3 : Fr (fun q => 72 ≤ q ∧ q ≤ 74) x (setI (setI (setI x 72 i.toNat (v (freeP Q i))) 73 i.toNat (v (Q 4 i))) 74 i.toNat (v (cellsP Q i))) := f2.tr (Fr.si (by omega))
    have hz2 : kpD (setI (setI (setI x 72 i.toNat (v (freeP Q i))) 73 i.toNat (v (Q 4 i))) 74 i.toNat (v (cellsP Q i))) Q (i + 1) := fun z hz' => by
      by_cases e : z = i
      · subst e
        refine ⟨?_, ?_, ?_⟩
        · rw [sI_setI, if_neg (by omega), sI_setI, if_neg (by omega), sI_setI, if_pos ⟨rfl, rfl⟩]
        · rw [sI_setI, if_neg (by omega), sI_setI, if_pos ⟨rfl, rfl⟩]
        · rw [sI_setI, if_pos ⟨rfl, rfl⟩]
      · obtain ⟨g1, g2, g3⟩ := hz z (by omega)
        refine ⟨?_, ?_, ?_⟩
        · rw [sI_setI, if_neg (by omega), sI_setI, if_neg (by omega), sI_setI, if_neg (by omega)]; exact g1
        · rw [sI_setI, if_neg (by omega), sI_setI, if_neg (by omega), sI_setI, if_neg (by omega)]; exact g2
        · rw [sI_setI, if_neg (by omega), sI_setI, if_neg (by omega), sI_setI, if_neg (by omega)]; exact g3
    obtain ⟨x', r1, r2, r3⟩ := ih N (i + 1) _ (by omega) (by omega) (by omega) (hf.tr f3) hz2
    have e45 : sI (setI x 72 i.toNat (v (freeP Q i))) 45 i.toNat = v (Q 4 i) := by
      rw [sI_setI, if_neg (by omega)]
      exact x40.2.2.2.2.2.1 i (by omega)
    have hix : (v i).toNatClampNeg = i.toNat := v_ix (by omega)
    have y40' : PgR (setI (setI x 72 (v i).toNatClampNeg (v (freeP Q i))) 73 (v i).toNatClampNeg (sI (setI x 72 (v i).toNatClampNeg (v (freeP Q i))) 45 (v i).toNatClampNeg)) 40 Q := by rw [hix, e45]; exact y40
    refine ⟨x', ?_, r2, r3⟩
    show b_Calendar_keep_2 _ _ _ _ = _
    unfold b_Calendar_keep_2
    rw [hf.1.1, hf.1.2.1, hf.1.2.2.1, nv8, if_pos (plt (by omega)), if_pos c1, c2, if_pos d1, d2, if_pos d3, s_freeOf x40 hB (by omega), Option.bind_some, c4, c7, c8, if_pos ⟨rfl, v_inA (by omega) (by omega)⟩, d4.1, d4.2.1, d4.2.2, if_pos ⟨rfl, v_inA (by omega) (by omega)⟩, c5, c9, c10, if_pos ⟨rfl, v_inA (by omega) (by omega)⟩, s_cellsOf y40' hB (by omega), Option.bind_some, c6, c11, c12, if_pos ⟨rfl, v_inA (by omega) (by omega)⟩, hix, e45, nv1, v_add]
    exact r1
theorem c_keep (hH : PgH Q) (h : RepD s D tp se P LG IM ms vw dr cn) (hp : DkO s 39 Q) : ∃ s', f_Calendar_keep s 71 = some s' ∧ RepD s' D tp se P LG IM ms vw (some (keepD Q)) cn ∧ DkO s' 39 Q ∧ GrM s s' := by
  obtain ⟨x', r1, r2, r3⟩ := c_keepL hH.1.1.1.1 h.cl hp 8 fuel 0 s (by omega) (by omega) (by unfold fuel; omega) (Fr.rf _ _) (fun z hz => by omega)
  have f1 : Fr (fun q => 71 ≤ q ∧ q ≤ 74) s (setI x' 71 5 (v 1)) := (r2.mo (fun q hq => by omega)).tr (Fr.si (by omega))
  obtain ⟨c1, c2, c3, -⟩ := h.cl
  have hcl : ClC (setI x' 71 5 (v 1)) (some (keepD Q)) := by
    refine ⟨by rw [f1.1.2.1]; exact c1, by rw [f1.1.1]; exact c2, by rw [f1.1.2.1, f1.1.2.2.1]; exact c3, ?_⟩
    refine ⟨by rw [sI_setI, if_pos ⟨rfl, rfl⟩], fun z hz => ?_⟩
    obtain ⟨g1, g2, g3⟩ := r3 z hz
    obtain ⟨k1, k2, k3⟩ := keepD_v Q z
    rw [sI_setI, if_neg (by omega), sI_setI, if_neg (by omega), sI_setI, if_neg (by omega), k1, k2, k3]
    exact ⟨g1, g2, g3⟩
  exact ⟨_, r1, h.u_cl f1 hcl, hp.eq (fun i hi => f1.eqA (by omega)), f1.grM (fun q hq => by omega)⟩
theorem c_daysL (hw : WfT se) {n : Int} (hn : n ≤ 60) : ∀ (k N : Nat) (i x : Int) (s : AS) (dr : DRW) (Q : PG), i + k = n → 0 ≤ i → k < N → PgH Q → RepD s D tp se P LG IM ms vw dr cn → DkO s 39 Q → sI s 71 6 = v x → (0 ≤ x ∧ x < 1000003) → GrM s0 s → CO s0 (l_C_days_55 N 1 (v n) (v i) s) (countP (daysL (lwF se) se.1 k x Q)) tp se P LG IM (msT ms) vw (some (keepD (daysL (lwF se) se.1 k x Q))) cn := by
  intro k
  induction k with
  | zero =>
    intro N i x s dr Q hi h0 hN hH h hp hs hx g
    obtain ⟨N, rfl⟩ : ∃ m, N = m + 1 := ⟨N - 1, by omega⟩
    obtain ⟨s1, q1, h1, p1, g1⟩ := c_keep hH h hp
    have q40 : PgR s1 40 Q := p1.2.2.1
    have e2 : sR s1 39 2 = 40 := p1.1.2.1.2.2.1
    show CO s0 (b_C_days_55 _ _ _ _ _) _ _ _ _ _ _ _ _ _ _
    unfold b_C_days_55
    rw [if_neg (nlt (by omega)), if_pos h.1.1, h.1.2.2.2.2.1, if_pos h.cl.1, q1, Option.bind_some, if_pos h1.1.1, h1.pp.1, if_pos p1.1.1, e2, if_pos q40.1.1, s_recordCount q40 hH.1.1.1.1, Option.bind_some]
    exact CO.told h1 (g.tr g1)
  | succ k ih =>
    intro N i x s dr Q hi h0 hN hH h hp hs hx g
    obtain ⟨N, rfl⟩ : ∃ m, N = m + 1 := ⟨N - 1, by omega⟩
    obtain ⟨s1, q1, h1, p1, s1s, g1⟩ := c_day hw hH h hp hs hx
    have r := ih N (i + 1) (dyX x) s1 dr _ (by omega) (by omega) (by omega) (dayP_H hH) h1 p1 s1s (dy_r x).2.2.2.2 (g.tr g1)
    show CO s0 (b_C_days_55 _ _ _ _ _) _ _ _ _ _ _ _ _ _ _
    unfold b_C_days_55
    rw [if_pos (plt (by omega)), if_pos h.1.1, h.1.2.2.2.2.1, if_pos h.cl.1, q1, Option.bind_some, nv1, v_add]
    exact r
theorem c_days (h : RepD s D tp se P LG IM ms vw dr cn) (hw : WfT se) (hH : PgH P) {x n : Int} (hx : r32 x) (hn : r32 n) : CO s (f_C_days s 1 (v x) (v n)) (dysA se P x n) tp se P LG IM (tl ms (dysA se P x n)) vw (dysD se P dr x n) cn := by
  obtain ⟨o1, o2, o3, o4, o5⟩ := h.lv
  obtain ⟨p1, Q, hQ⟩ := h.pp
  have bad : ¬ dysOK x n → CO s (b_C_days_22 1 s) (dysA se P x n) tp se P LG IM (tl ms (dysA se P x n)) vw (dysD se P dr x n) cn := fun c => by
    unfold b_C_days_22 dysA dysD
    rw [if_neg c, if_neg c, if_pos o1, nv1, v_neg, tl_n (by decide)]
    exact CO.refu h (GrM.rf s) (by decide)
  unfold f_C_days
  rw [nv0, show nI 1000000 = v 1000000 from rfl, nv1, show nI 60 = v 60 from rfl]
  by_cases c1 : x < 0
  · rw [if_pos (plt (by omega))]; exact bad (fun d => by omega)
  rw [if_neg (nlt (by omega))]
  by_cases c2 : 1000000 < x
  · rw [if_pos (plt (by omega))]; exact bad (fun d => by omega)
  rw [if_neg (nlt (by omega))]
  by_cases c3 : n < 1
  · rw [if_pos (plt (by omega))]; exact bad (fun d => by omega)
  rw [if_neg (nlt (by omega))]
  by_cases c4 : 60 < n
  · rw [if_pos (plt (by omega))]; exact bad (fun d => by omega)
  rw [if_neg (nlt (by omega))]
  have hok : dysOK x n := ⟨⟨by omega, by omega⟩, by omega, by omega⟩
  obtain ⟨s1, q1, h1, k1, g1⟩ := c_paper h
  have hcl := h1.cl.1
  obtain ⟨h2, k2, e2, g2⟩ := c_seed (y := x) h1 k1
  have hd := c_daysL (s0 := s) hw (n := n) hok.2.2 n.toNat fuel 0 x _ dr P (by omega) (by omega) (by unfold fuel; omega) hH h2 k2 e2 (by omega) (g1.tr g2)
  have e3 : sR s 39 2 = 40 := hQ.1.2.1.2.2.1
  have e4 : sT s 40 = 7 := hQ.2.2.1.1.1
  have hb : f_Calendar_begin s1 71 (v x) = some (setI s1 71 6 (v x)) := by
    unfold f_Calendar_begin
    rw [if_pos hcl]
  unfold dysA dysD
  rw [if_pos hok, if_pos hok, tl_0 (count_r _).1, if_pos o1, p1, if_pos hQ.1.1, o2, if_pos o3, e3, if_pos e4, o4, q1, Option.bind_some, if_pos h1.1.1, h1.1.2.2.2.2.1, if_pos hcl, hb, Option.bind_some]
  exact hd
end DAYC
