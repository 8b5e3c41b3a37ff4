/-! LOGS PURELY; the class's log added, pulled -/
def las (L : LGS) : LGS := L.drop (L.length - 16)
theorem las_len (L : LGS) : (las L).length ≤ 16 := by unfold las; rw [List.length_drop]; omega
theorem las_sm {L : LGS} (h : L.length ≤ 16) : las L = L := by
  unfold las
  rw [show L.length - 16 = 0 by omega]
  rfl
theorem las_app (L X : LGS) : las (las L ++ X) = las (L ++ X) := by
  unfold las
  rw [List.length_append, List.length_drop, List.length_append]
  by_cases c : L.length ≤ 16
  · rw [show L.length - 16 = 0 by omega, List.drop_zero]
    congr 1
  · rw [← List.drop_append_of_le_length (l₁ := L) (l₂ := X) (i := L.length - 16) (by omega), List.drop_drop]
    congr 1
    omega
theorem las_app2 (L X : LGS) : las (L ++ las X) = las (L ++ X) := by
  by_cases c : X.length ≤ 16
  · rw [las_sm c]
  · have h1 : las (L ++ las X) = las X := by
      unfold las
      rw [List.length_append, List.length_drop, List.drop_append]
      rw [List.drop_eq_nil_of_le (by omega), List.nil_append]
      rw [List.drop_drop]
      congr 1
      omega
    have h2 : las (L ++ X) = las X := by
      unfold las
      rw [List.length_append, List.drop_append]
      rw [List.drop_eq_nil_of_le (by omega), List.nil_append]
      congr 1
      omega
    rw [h1, h2]
theorem las_push {L : LGS} (h : L.length ≤ 16) (x : Int × PG) : pushL L x = las (L ++ [x]) := by
  unfold pushL las
  rw [List.length_append]
  show _ = (L ++ [x]).drop (L.length + 1 - 16)
  by_cases c : 16 ≤ L.length
  · rw [if_pos c, show L.length + 1 - 16 = 1 by omega, List.drop_append_of_le_length (by omega), ← List.tail_drop]
    rfl
  · rw [if_neg c, show L.length + 1 - 16 = 0 by omega]
    rfl
theorem pushL_len {L : LGS} (h : L.length ≤ 16) (x : Int × PG) : (pushL L x).length ≤ 16 := by rw [las_push h]; exact las_len _
theorem las_all : ∀ (X L : LGS), L.length ≤ 16 → X.foldl pushL L = las (L ++ X) := by
  intro X
  induction X with
  | nil => intro L h; rw [List.append_nil, las_sm h]; rfl
  | cons x X ih =>
    intro L h
    show X.foldl pushL (pushL L x) = _
    rw [ih _ (pushL_len h x), las_push h, las_app, List.append_assoc]
    rfl
section LGA
variable {s s' : AS} {lg fg k k2 b : Nat} {D D2 : Nat → Prop} {LG LG2 : LGS} {Q : PG} {kind : Int}
theorem s_addL (hf : fg + 2 < lg ∨ lg + 2 < fg) : ∀ (j N i : Nat) (s : AS) (D : Nat → Prop) (k : Nat) (LG : LGS), i + j = LG2.length → j < N → LogC s lg D k LG → LG.length ≤ 16 → LogC s fg D2 k2 LG2 → LG2.length ≤ 16 → (∀ q, D q → (q ≠ lg ∧ q ≠ lg + 1 ∧ q ≠ lg + 2) ∧ q < sX s) → (∀ q, D2 q → ((q ≠ lg ∧ q ≠ lg + 1 ∧ q ≠ lg + 2) ∧ ¬ D q) ∧ q < sX s) → (∀ i, i ≤ 2 → ¬ D (fg + i)) → (lg + 2 < sX s ∧ fg + 2 < sX s) → sX s + 7 * (16 - k) + 10 < 900000 →
    ∃ s' k' D', l_Log_addAll_2 N lg fg (v i) s = some s' ∧ LogC s' lg D' k' ((LG2.drop i).foldl pushL LG) ∧ LogC s' fg D2 k2 LG2 ∧ (∀ q, D' q → D q ∨ (sX s ≤ q ∧ q < sX s')) ∧ Gr (fun q => (lg ≤ q ∧ q ≤ lg + 2) ∨ D q) s s' ∧ (k ≤ k' ∧ sX s' = sX s + 7 * (k' - k) ∧ sZ s' = sZ s + 918 * (k' - k)) := by
  intro j
  induction j with
  | zero =>
    intro N i s D k LG hi hN h h16 g g16 hD hD2 hfD hX hX2
    obtain ⟨N, rfl⟩ : ∃ x, N = x + 1 := ⟨N - 1, by omega⟩
    have g1 : IsLg s fg := by obtain ⟨Lr, g1, -⟩ := g; exact g1
    have g2 : sI s fg 2 = v LG2.length := by obtain ⟨Lr, -, g2, -⟩ := g; exact g2
    refine ⟨s, k, D, ?_, ?_, g, fun q hq => Or.inl hq, Gr.rf _ _, Nat.le_refl _, by omega, by omega⟩
    · show b_Log_addAll_2 _ _ _ _ _ = _
      unfold b_Log_addAll_2
      rw [if_pos g1.1, g2, if_neg (nlt (by omega))]
    · rw [List.drop_eq_nil_of_le (by omega)]; exact h
  | succ j ih =>
    intro N i s D k LG hi hN h h16 g g16 hD hD2 hfD hX hX2
    obtain ⟨N, rfl⟩ : ∃ x, N = x + 1 := ⟨N - 1, by omega⟩
    have g' := g
    have h1 : IsLg s lg := by obtain ⟨Lr, h1, -⟩ := h; exact h1
    have hk : LG.length ≤ k ∧ k ≤ 16 := by obtain ⟨Lr, -, -, h3, -⟩ := h; exact h3
    obtain ⟨Lr, g1, g2, g3, g4, g5, g6, g7⟩ := g
    have hil : i < LG2.length := by omega
    have hx : LG2[i]? = some LG2[i] := List.getElem?_eq_getElem hil
    obtain ⟨x, ex⟩ : ∃ x, x = LG2[i] := ⟨_, rfl⟩
    rw [← ex] at hx
    obtain ⟨b1, b2⟩ := g7 i x hx
    obtain ⟨-, b3⟩ := g5 i (by omega)
    have x1 : (v (i : Int)).toNatClampNeg = i := by rw [v_ix (by omega)]; omega
    have er : sR s (fg + 2) (v (i : Int)).toNatClampNeg = Lr i := by rw [x1, g4 i (by omega), if_pos (by omega)]
    have ek : sI s (fg + 1) (v (i : Int)).toNatClampNeg = v x.1 := by rw [x1]; exact b1
    obtain ⟨s1, k1, q1, q2, q3, q4⟩ := s_push (kind := x.1) h h16 hD hX.1 (by omega) b2 (fun j hj => ⟨⟨(hD2 _ (b3 j hj)).1.2, fun e => by have := (hD2 _ (b3 j hj)).1.1; omega⟩, (hD2 _ (b3 j hj)).2⟩)
    have eF : ∀ q, q < sX s → ¬ ((lg ≤ q ∧ q ≤ lg + 2) ∨ D q) → EqA s s1 q := fun q hq hn => q3.1 q (Or.inl hq) hn
    have gg : LogC s1 fg D2 k2 LG2 := g'.eq (fun i hi => eF _ (by omega) (fun d => by
      rcases d with d | d
      · omega
      · exact hfD i hi d)) (fun q hq => eF _ (hD2 q hq).2 (fun d => by
      rcases d with d | d
      · have := (hD2 q hq).1.1; omega
      · exact (hD2 q hq).1.2 d))
    have hk1 : LG.length ≤ k1 ∧ k1 ≤ 16 := by
      obtain ⟨Lr, -, -, h3, -⟩ := q2
      omega
    obtain ⟨s2, k3, D3, r1, r2, r3, r4, r5, r6⟩ := ih N (i + 1) s1 _ k1 (pushL LG x) (by omega) (by omega) q2 (pushL_len h16 x) gg g16 (fun q hq => by
      rcases hq with d | d
      · exact ⟨(hD q d).1, by have := (hD q d).2; have := q3.2; omega⟩
      · omega) (fun q hq => ⟨⟨(hD2 q hq).1.1, fun d => by
      rcases d with d | d
      · exact (hD2 q hq).1.2 d
      · have := (hD2 q hq).2; omega⟩, by have := (hD2 q hq).2; have := q3.2; omega⟩) (fun i hi d => by
      rcases d with d | d
      · exact hfD i hi d
      · omega) ⟨by omega, by omega⟩ (by omega)
    refine ⟨s2, k3, D3, ?_, ?_, r3, fun q hq => ?_, ?_, by omega, by omega, by omega⟩
    · rw [← r1]
      show b_Log_addAll_2 _ _ _ _ _ = _
      unfold b_Log_addAll_2
      rw [if_pos g1.1, g2, if_pos (plt (by omega)), g1.2.1.1, g1.2.1.2, g1.2.2.1.1, g1.2.2.1.2, g1.2.2.2.1, g1.2.2.2.2, if_pos (show 20 = 20 ∧ inA (v (i : Int)) 16 from ⟨rfl, v_inA (by omega) (by omega)⟩), if_pos (show 40 ≤ 46 ∧ inA (v (i : Int)) 16 from ⟨by decide, v_inA (by omega) (by omega)⟩), if_pos h1.1, er, ek, q1, Option.bind_some, nv1, v_add]
      rfl
    · rw [List.drop_eq_getElem_cons hil, ← ex]
      exact r2
    · rcases r4 q hq with d | d
      · rcases d with d | d
        · exact Or.inl d
        · exact Or.inr ⟨d.1, by have := r5.2; omega⟩
      · exact Or.inr ⟨by have := q3.2; omega, d.2⟩
    · refine ⟨fun q hq hF => (q3.1 q hq hF).tr (r5.1 q (by have := q3.2; omega) (fun d => ?_)), Nat.le_trans q3.2 r5.2⟩
      rcases d with d | d | d
      · exact hF (Or.inl d)
      · exact hF (Or.inr d)
      · omega
theorem s_addAll (hf : fg + 2 < lg ∨ lg + 2 < fg) (h : LogC s lg D k LG) (h16 : LG.length ≤ 16) (g : LogC s fg D2 k2 LG2) (g16 : LG2.length ≤ 16) (hD : ∀ q, D q → (q ≠ lg ∧ q ≠ lg + 1 ∧ q ≠ lg + 2) ∧ q < sX s) (hD2 : ∀ q, D2 q → ((q ≠ lg ∧ q ≠ lg + 1 ∧ q ≠ lg + 2) ∧ ¬ D q) ∧ q < sX s) (hfD : ∀ i, i ≤ 2 → ¬ D (fg + i)) (hX : lg + 2 < sX s ∧ fg + 2 < sX s) (hX2 : sX s + 7 * (16 - k) + 10 < 900000) :
    ∃ s' k' D', f_Log_addAll s lg fg = some s' ∧ LogC s' lg D' k' (LG2.foldl pushL LG) ∧ LogC s' fg D2 k2 LG2 ∧ (∀ q, D' q → D q ∨ (sX s ≤ q ∧ q < sX s')) ∧ Gr (fun q => (lg ≤ q ∧ q ≤ lg + 2) ∨ D q) s s' ∧ (k ≤ k' ∧ sX s' = sX s + 7 * (k' - k) ∧ sZ s' = sZ s + 918 * (k' - k)) :=
  s_addL hf LG2.length fuel 0 s D k LG (by omega) (by unfold fuel; omega) h h16 g g16 hD hD2 hfD hX hX2
theorem s_pull {L0 : LGS} (h : LogC s lg D k (L0 ++ [(kind, Q)])) (hb : IsP s b) (hbD : ∀ j, j ≤ 6 → ¬ D (b + j) ∧ ¬ (lg ≤ b + j ∧ b + j ≤ lg + 2)) : ∃ s', f_Log_pull s lg b = some (v kind, s') ∧ LogC s' lg D k L0 ∧ PgR s' b Q ∧ Fr (fun q => q = lg ∨ inP b q) s s' := by
  obtain ⟨Lr, h1, h2, h3, h4, h5, h6, h7⟩ := h
  have hl : (L0 ++ [(kind, Q)]).length = L0.length + 1 := List.length_append
  rw [hl] at h2 h3
  obtain ⟨b1, b2⟩ := h7 L0.length (kind, Q) (by rw [List.getElem?_append_right (Nat.le_refl _), Nat.sub_self]; rfl)
  obtain ⟨⟨p1, p0⟩, p2⟩ := h5 L0.length (by omega)
  have f1 : Fr (fun q => q = lg ∨ inP b q) s (setI s lg 2 (v L0.length)) := Fr.si (Or.inl rfl)
  have hD0 : ∀ q, D q → q ≠ lg ∨ True := fun _ _ => Or.inr trivial
  have e1 : ∀ q, q ≠ lg → EqA s (setI s lg 2 (v (L0.length : Int))) q := fun q hq => (Fr.si (F := fun q => q = lg) rfl).eqA hq
  have hne : b ≠ Lr L0.length := fun e => (hbD 0 (by omega)).1 (by have := p2 0 (by omega); rw [← e] at this; exact this)
  have hplg : ∀ i, i < k → ∀ j, j ≤ 6 → Lr i + j ≠ lg := fun i hi j hj e => by
    have t5 := h1.1
    have hp := (h5 i hi).1.1
    obtain ⟨v0, v1, v2, v3, v4, v5, v6⟩ := hp
    have hj' : j = 0 ∨ j = 1 ∨ j = 2 ∨ j = 3 ∨ j = 4 ∨ j = 5 ∨ j = 6 := by omega
    rcases hj' with rfl | rfl | rfl | rfl | rfl | rfl | rfl
    · rw [Nat.add_zero] at e; rw [e] at v0; omega
    · have := v1.2.1; rw [e] at this; omega
    · have := v2.2.1; rw [e] at this; omega
    · have := v3.2.1; rw [e] at this; omega
    · have := v4.2.1; rw [e] at this; omega
    · have := v5.2.1; rw [e] at this; omega
    · have := v6.2.1; rw [e] at this; omega
  have b2' : PgR (setI s lg 2 (v (L0.length : Int))) (Lr L0.length) Q := b2.eq (fun j hj => e1 _ (hplg _ (by omega) j hj))
  have hb' : IsP (setI s lg 2 (v (L0.length : Int))) b := hb.st (St.rf s)
  obtain ⟨s2, q1, q2, q3⟩ := s_takeFrom hb' b2' hne
  have st2 : St s s2 := q3.1
  have f2 : Fr (fun q => q = lg ∨ inP b q) s s2 := f1.tr (q3.mo (fun q hq => Or.inr hq))
  have eP : ∀ i, i < k → ∀ j, j ≤ 6 → EqA s s2 (Lr i + j) := fun i hi j hj => f2.eqA (fun d => by
    rcases d with d | d
    · exact hplg i hi j hj d
    · have := (hbD (Lr i + j - b) (by unfold inP at d; omega)).1
      rw [show b + (Lr i + j - b) = Lr i + j by unfold inP at d; omega] at this
      exact this ((h5 i hi).2 j hj))
  have elg1 : EqA s s2 (lg + 1) := f2.eqA (fun d => by
    rcases d with d | d
    · omega
    · have := (hbD (lg + 1 - b) (by unfold inP at d; omega)).2
      unfold inP at d
      omega)
  have elg0 : sI s2 lg 2 = v L0.length := by
    rw [(q3.2 lg (fun d => by
      have := (hbD (lg - b) (by unfold inP at d; omega)).2
      unfold inP at d
      omega)).1, sI_setI, if_pos ⟨rfl, rfl⟩]
  refine ⟨s2, ?_, ⟨Lr, h1.st st2, elg0, ⟨by omega, h3.2⟩, fun i hi => by rw [st2.1]; exact h4 i hi, fun i hi => ⟨⟨(h5 i hi).1.1.st st2, (h5 i hi).1.2⟩, (h5 i hi).2⟩, h6, fun i x hx => ?_⟩, q2, f2⟩
  · have x1 : (v (L0.length : Int)).toNatClampNeg = L0.length := by rw [v_ix (by omega)]; omega
    have er : sR s (lg + 2) (v (L0.length : Int)).toNatClampNeg = Lr L0.length := by rw [x1, h4 _ (by omega), if_pos (by omega)]
    have ei : sI (setI s lg 2 (v (L0.length : Int))) lg 2 = v L0.length := by rw [sI_setI, if_pos ⟨rfl, rfl⟩]
    have e1' : ((L0.length + 1 : Nat) : Int) - 1 = L0.length := by omega
    unfold f_Log_pull
    rw [if_pos h1.1, h2, nv0, nv1, if_pos (plt (by omega)), v_sub, e1', h1.2.1.2, h1.2.2.2.1, h1.2.2.2.2, if_pos (show 40 ≤ 46 ∧ inA (v (L0.length : Int)) 16 from ⟨by decide, v_inA (by omega) (by omega)⟩), er, if_neg (by omega), ei, if_pos (show 40 ≤ 46 ∧ inA (v (L0.length : Int)) 16 from ⟨by decide, v_inA (by omega) (by omega)⟩), if_pos hb.1, er, q1, Option.bind_some, if_pos (by rw [st2.2.1]; exact h1.1), st2.1, h1.2.1.1, st2.2.1, st2.2.2.1, h1.2.2.1.1, h1.2.2.1.2, elg0, if_pos (show 20 = 20 ∧ inA (v (L0.length : Int)) 16 from ⟨rfl, v_inA (by omega) (by omega)⟩), x1, elg1.2.2.2.1, b1]
  · have hi : i < L0.length := (List.getElem?_eq_some_iff.mp hx).1
    obtain ⟨c1, c2⟩ := h7 i x (by rw [List.getElem?_append_left hi]; exact hx)
    exact ⟨by rw [elg1.2.2.2.1]; exact c1, c2.eq (eP i (by omega))⟩
end LGA
