/-! THE CLASS'S LOG -/
def IsLg (s : AS) (lg : Nat) : Prop := sT s lg = 5 ∧ (sR s lg 0 = lg + 1 ∧ sR s lg 1 = lg + 2) ∧ (sT s (lg + 1) = 20 ∧ sN s (lg + 1) = 16) ∧ (sT s (lg + 2) = 46 ∧ sN s (lg + 2) = 16)
def LogC (s : AS) (lg : Nat) (D : Nat → Prop) (k : Nat) (LG : LGS) : Prop := ∃ Lr : Nat → Nat, IsLg s lg ∧ sI s lg 2 = v LG.length ∧ (LG.length ≤ k ∧ k ≤ 16) ∧ (∀ i, i < 16 → sR s (lg + 2) i = if i < k then Lr i else 0) ∧ (∀ i, i < k → (IsP s (Lr i) ∧ 0 < Lr i) ∧ ∀ j, j ≤ 6 → D (Lr i + j)) ∧ (∀ i j, i < k → j < k → Lr i = Lr j → i = j) ∧ ∀ (i : Nat) (x : Int × PG), LG[i]? = some x → sI s (lg + 1) i = v x.1 ∧ PgR s (Lr i) x.2
section LGC
variable {s s' : AS} {lg k : Nat} {D : Nat → Prop} {LG : LGS}
theorem IsLg.eq (h : IsLg s lg) (e : ∀ i, i ≤ 2 → EqA s s' (lg + i)) : IsLg s' lg := by
  have e0 := e 0 (by omega)
  rw [Nat.add_zero] at e0
  unfold IsLg
  rw [e0.1, e0.2.2.1, (e 1 (by omega)).1, (e 1 (by omega)).2.1, (e 2 (by omega)).1, (e 2 (by omega)).2.1]
  exact h
theorem LogC.eq (h : LogC s lg D k LG) (e : ∀ i, i ≤ 2 → EqA s s' (lg + i)) (eD : ∀ q, D q → EqA s s' q) : LogC s' lg D k LG := by
  obtain ⟨Lr, h1, h2, h3, h4, h5, h6, h7⟩ := h
  have e0 := e 0 (by omega)
  rw [Nat.add_zero] at e0
  have hk : ∀ (i : Nat) (x : Int × PG), LG[i]? = some x → i < k := fun i x hx => by
    have := (List.getElem?_eq_some_iff.mp hx).1
    omega
  refine ⟨Lr, h1.eq e, by rw [e0.2.2.2.1]; exact h2, h3, fun i hi => by rw [(e 2 (by omega)).2.2.1]; exact h4 i hi, fun i hi => ⟨⟨(h5 i hi).1.1.eq (fun j hj => eD _ ((h5 i hi).2 j hj)), (h5 i hi).1.2⟩, (h5 i hi).2⟩, h6, fun i x hx => ⟨by rw [(e 1 (by omega)).2.2.2.1]; exact (h7 i x hx).1, (h7 i x hx).2.eq (fun j hj => eD _ ((h5 i (hk i x hx)).2 j hj))⟩⟩
theorem LogC.mo {D' : Nat → Prop} (h : LogC s lg D k LG) (hD : ∀ q, D q → D' q) : LogC s lg D' k LG := by
  obtain ⟨Lr, h1, h2, h3, h4, h5, h6, h7⟩ := h
  exact ⟨Lr, h1, h2, h3, h4, fun i hi => ⟨(h5 i hi).1, fun j hj => hD _ ((h5 i hi).2 j hj)⟩, h6, h7⟩
/-- the log is emptied -/
theorem LogC.clr (h : LogC s lg D k LG) (hD : ∀ q, D q → q ≠ lg) : LogC (setI s lg 2 (v 0)) lg D k [] := by
  obtain ⟨Lr, h1, h2, h3, h4, h5, h6, h7⟩ := h
  refine ⟨Lr, h1, by rw [sI_setI, if_pos ⟨rfl, rfl⟩]; rfl, ⟨Nat.zero_le _, h3.2⟩, h4, fun i hi => h5 i hi, h6, fun i x hx => by simp at hx⟩
theorem s_forgetL {lg : Nat} {Lr : Nat → Nat} {K : Nat → Int32} {o : Nat} (ho : o = Lr 0) : ∀ (j N i : Nat) (s : AS), i + j = 16 → 1 ≤ i → j < N → IsLg s lg → (∀ z, z < 16 → sR s (lg + 2) z = if z + 1 < i then Lr (z + 1) else Lr z) → (∀ z, z < 16 → sI s (lg + 1) z = if z + 1 < i then K (z + 1) else K z) → (∀ z, z < 16 → sT s (Lr z) = 7) →
    ∃ s', l_Log_forgetOldest_9 N lg o (v i) s = some s' ∧ (∀ z, z < 16 → sR s' (lg + 2) z = if z < 15 then Lr (z + 1) else Lr 0) ∧ (∀ z, z < 15 → sI s' (lg + 1) z = K (z + 1)) ∧ sI s' lg 2 = v 15 ∧ (∀ q, q ≠ lg + 1 → q ≠ lg + 2 → q ≠ lg → EqA s s' q) ∧ IsLg s' lg ∧ sX s' = sX s ∧ sZ s' = sZ s := by
  intro j
  induction j with
  | zero =>
    intro N i s hi h1 hN h hr hk ht
    obtain ⟨N, rfl⟩ : ∃ x, N = x + 1 := ⟨N - 1, by omega⟩
    obtain ⟨a1, ⟨a2, a3⟩, ⟨a4, a5⟩, a6, a7⟩ := h
    have hi16 : i = 16 := by omega
    subst hi16
    have t0 := ht 0 (by omega)
    refine ⟨setI (setR s (lg + 2) 15 o) lg 2 (v 15), ?_, fun z hz => ?_, fun z hz => ?_, ?_, fun q q1 q2 q3 => (eqA_setR q2).tr ((Fr.si (F := fun q => q = lg) rfl).eqA q3), ⟨a1, ⟨?_, ?_⟩, ⟨a4, a5⟩, a6, a7⟩, rfl, rfl⟩
    · show b_Log_forgetOldest_9 _ _ _ _ _ = _
      unfold b_Log_forgetOldest_9
      have i15 : (nI 15).toNatClampNeg = 15 := by decide
      rw [nv16, if_neg (nlt (by omega)), if_pos a1, a3, a6, a7, if_pos (show (40 ≤ 46 ∧ inA (nI 15) 16) ∧ (o = 0 ∨ sT s o + 39 = 46) from ⟨⟨by decide, v_inA (a := 15) (by omega) (by omega)⟩, Or.inr (by rw [ho, t0])⟩), i15, nv15]
    · show sR (setR s (lg + 2) 15 o) (lg + 2) z = _
      rw [sR_setR]
      by_cases e : z = 15
      · rw [if_pos ⟨rfl, e⟩, if_neg (by omega), ho]
      · rw [if_neg (fun c => e c.2), hr z hz, if_pos (by omega), if_pos (by omega)]
    · show sI (setI (setR s (lg + 2) 15 o) lg 2 (v 15)) (lg + 1) z = _
      rw [sI_setI, if_neg (by omega), setR_I, hk z (by omega), if_pos (by omega)]
    · show sI (setI (setR s (lg + 2) 15 o) lg 2 (v 15)) lg 2 = _
      rw [sI_setI, if_pos ⟨rfl, rfl⟩]
    · show sR (setR s (lg + 2) 15 o) lg 0 = _
      rw [sR_setR, if_neg (by omega)]; exact a2
    · show sR (setR s (lg + 2) 15 o) lg 1 = _
      rw [sR_setR, if_neg (by omega)]; exact a3
  | succ j ih =>
    intro N i s hi h1 hN h hr hk ht
    obtain ⟨N, rfl⟩ : ∃ x, N = x + 1 := ⟨N - 1, by omega⟩
    have h' := h
    obtain ⟨a1, ⟨a2, a3⟩, ⟨a4, a5⟩, a6, a7⟩ := h
    have ri : sR s (lg + 2) i = Lr i := by rw [hr i (by omega), if_neg (by omega)]
    have ki : sI s (lg + 1) i = K i := by rw [hk i (by omega), if_neg (by omega)]
    have ti := ht i (by omega)
    have x1 : (v (i : Int)).toNatClampNeg = i := by rw [v_ix (by omega)]; omega
    have x2 : (v ((i : Int) - 1)).toNatClampNeg = i - 1 := by rw [v_ix (by omega)]; omega
    obtain ⟨s1, e1⟩ : ∃ x, x = setI (setR s (lg + 2) (i - 1) (Lr i)) (lg + 1) (i - 1) (K i) := ⟨_, rfl⟩
    have R1 : ∀ q z, sR s1 q z = if q = lg + 2 ∧ z = i - 1 then Lr i else sR s q z := fun q z => by rw [e1]; exact sR_setR _ _ _ _ _ _
    have I1 : ∀ q z, sI s1 q z = if q = lg + 1 ∧ z = i - 1 then K i else sI s q z := fun q z => by rw [e1, sI_setI, setR_I]
    have T1 : sT s1 = sT s := by rw [e1]; rfl
    have N1 : sN s1 = sN s := by rw [e1]; rfl
    obtain ⟨s', q1, q2, q3, q4, q5, q6, q7, q8⟩ := ih N (i + 1) s1 (by omega) (by omega) (by omega) ⟨by rw [T1]; exact a1, ⟨by rw [R1, if_neg (by omega)]; exact a2, by rw [R1, if_neg (by omega)]; exact a3⟩, ⟨by rw [T1]; exact a4, by rw [N1]; exact a5⟩, by rw [T1]; exact a6, by rw [N1]; exact a7⟩ (fun z hz => by
      rw [R1]
      by_cases e : z = i - 1
      · rw [if_pos ⟨rfl, e⟩, if_pos (by omega), show z + 1 = i by omega]
      · rw [if_neg (fun c => e c.2), hr z hz]
        by_cases c : z + 1 < i
        · rw [if_pos c, if_pos (by omega)]
        · rw [if_neg c, if_neg (by omega)]) (fun z hz => by
      rw [I1]
      by_cases e : z = i - 1
      · rw [if_pos ⟨rfl, e⟩, if_pos (by omega), show z + 1 = i by omega]
      · rw [if_neg (fun c => e c.2), hk z hz]
        by_cases c : z + 1 < i
        · rw [if_pos c, if_pos (by omega)]
        · rw [if_neg c, if_neg (by omega)]) (fun z hz => by rw [T1]; exact ht z hz)
    refine ⟨s', ?_, q2, q3, q4, fun q p1 p2 p3 => EqA.tr (b := s1) ?_ (q5 q p1 p2 p3), q6, by rw [q7, e1]; rfl, by rw [q8, e1]; rfl⟩
    · rw [← q1]
      show b_Log_forgetOldest_9 _ _ _ _ _ = _
      have hs0 : sR (setR s (lg + 2) (v ((i : Int) - 1)).toNatClampNeg (Lr i)) lg 0 = lg + 1 := by rw [sR_setR, if_neg (by omega)]; exact a2
      have ri' : sR s (lg + 2) (v (i : Int)).toNatClampNeg = Lr i := by rw [x1]; exact ri
      unfold b_Log_forgetOldest_9
      rw [nv16, nv1, if_pos (plt (by omega)), if_pos a1, a3, a6, a7, if_pos (show 40 ≤ 46 ∧ inA (v (i : Int)) 16 from ⟨by decide, v_inA (by omega) (by omega)⟩), v_sub, ri', ti, if_pos (show (40 ≤ 46 ∧ inA (v ((i : Int) - 1)) 16) ∧ (Lr i = 0 ∨ 7 + 39 = 46) from ⟨⟨by decide, v_inA (by omega) (by omega)⟩, Or.inr rfl⟩), hs0, a4, a5, if_pos (show 20 = 20 ∧ inA (v (i : Int)) 16 from ⟨rfl, v_inA (by omega) (by omega)⟩), if_pos (show 20 = 20 ∧ inA (v ((i : Int) - 1)) 16 from ⟨rfl, v_inA (by omega) (by omega)⟩), x1, x2, ki, v_add, e1]
      rfl
    · rw [e1]
      exact (eqA_setR p2).tr ((Fr.si (F := fun q => q = lg + 1) rfl).eqA p1)
theorem s_forget (h : LogC s lg D k LG) (hl : LG.length = 16) (hD : ∀ q, D q → q ≠ lg ∧ q ≠ lg + 1 ∧ q ≠ lg + 2) : ∃ s', f_Log_forgetOldest s lg = some s' ∧ LogC s' lg D k LG.tail ∧ Gr (fun q => lg ≤ q ∧ q ≤ lg + 2) s s' ∧ sX s' = sX s ∧ sZ s' = sZ s := by
  obtain ⟨Lr, h1, h2, h3, h4, h5, h6, h7⟩ := h
  have hk : k = 16 := by omega
  subst hk
  have r0 : sR s (lg + 2) (nI 0).toNatClampNeg = Lr 0 := by
    show sR s (lg + 2) 0 = _
    rw [h4 0 (by omega), if_pos (by omega)]
  obtain ⟨s', q1, q2, q3, q4, q5, q6, q7, q8⟩ := s_forgetL (lg := lg) (Lr := Lr) (K := fun z => sI s (lg + 1) z) (o := Lr 0) rfl 15 fuel 1 s (by omega) (by omega) (by unfold fuel; omega) h1 (fun z hz => by rw [h4 z hz, if_pos hz, if_neg (by omega)]) (fun z hz => by rw [if_neg (by omega)]) (fun z hz => (h5 z hz).1.1.1)
  have eD : ∀ q, D q → EqA s s' q := fun q hq => q5 q (hD q hq).2.1 (hD q hq).2.2 (hD q hq).1
  refine ⟨s', ?_, ⟨fun z => if z < 15 then Lr (z + 1) else Lr 0, q6, by rw [q4, List.length_tail, hl]; rfl, ⟨by rw [List.length_tail, hl]; omega, Nat.le_refl _⟩, fun i hi => by rw [q2 i hi, if_pos hi], fun i hi => ?_, fun i j hi hj e => ?_, fun i x hx => ?_⟩, ⟨fun q _ hF => q5 q (by omega) (by omega) (by omega), by rw [q7]; exact Nat.le_refl _⟩, q7, q8⟩
  · unfold f_Log_forgetOldest
    rw [if_pos h1.1, h1.2.1.2, h1.2.2.2.1, h1.2.2.2.2, if_pos (show 40 ≤ 46 ∧ inA (nI 0) 16 from ⟨by decide, v_inA (a := 0) (by omega) (by omega)⟩), r0, nv1]
    exact q1
  · by_cases c : i < 15
    · show (IsP s' (if i < 15 then Lr (i + 1) else Lr 0) ∧ 0 < (if i < 15 then Lr (i + 1) else Lr 0)) ∧ ∀ j, j ≤ 6 → D ((if i < 15 then Lr (i + 1) else Lr 0) + j)
      rw [if_pos c]
      have := h5 (i + 1) (by omega)
      exact ⟨⟨this.1.1.eq (fun j hj => eD _ (this.2 j hj)), this.1.2⟩, this.2⟩
    · show (IsP s' (if i < 15 then Lr (i + 1) else Lr 0) ∧ 0 < (if i < 15 then Lr (i + 1) else Lr 0)) ∧ ∀ j, j ≤ 6 → D ((if i < 15 then Lr (i + 1) else Lr 0) + j)
      rw [if_neg c]
      have := h5 0 (by omega)
      exact ⟨⟨this.1.1.eq (fun j hj => eD _ (this.2 j hj)), this.1.2⟩, this.2⟩
  · have e' : (if i < 15 then Lr (i + 1) else Lr 0) = (if j < 15 then Lr (j + 1) else Lr 0) := e
    by_cases ci : i < 15
    · rw [if_pos ci] at e'
      by_cases cj : j < 15
      · rw [if_pos cj] at e'
        have := h6 (i + 1) (j + 1) (by omega) (by omega) e'
        omega
      · rw [if_neg cj] at e'
        have := h6 (i + 1) 0 (by omega) (by omega) e'
        omega
    · rw [if_neg ci] at e'
      by_cases cj : j < 15
      · rw [if_pos cj] at e'
        have := h6 0 (j + 1) (by omega) (by omega) e'
        omega
      · omega
  · rw [List.getElem?_tail] at hx
    have hi : i + 1 < LG.length := (List.getElem?_eq_some_iff.mp hx).1
    obtain ⟨b1, b2⟩ := h7 (i + 1) x hx
    refine ⟨by rw [q3 i (by omega)]; exact b1, ?_⟩
    show PgR s' (if i < 15 then Lr (i + 1) else Lr 0) x.2
    rw [if_pos (by omega)]
    exact b2.eq (fun j hj => eD _ ((h5 (i + 1) (by omega)).2 j hj))
end LGC
