/-! PAIRS: settings and images taken over -/
def IsSt (s : AS) (st : Nat) : Prop := sT s st = 11 ∧ (sR s st 0 = st + 1 ∧ sT s (st + 1) = 20 ∧ sN s (st + 1) = 3) ∧ (sR s st 1 = st + 2 ∧ sT s (st + 2) = 51 ∧ sN s (st + 2) = 6)
theorem SetC.is {s : AS} {st : Nat} {se : ST1} {DL : Nat → Prop} (h : SetC s st se DL) : IsSt s st := by
  obtain ⟨L, h1, -⟩ := h
  exact ⟨h1.1, h1.2.1, h1.2.2.1⟩
theorem SetC.vals {s : AS} {st : Nat} {se : ST1} {DL : Nat → Prop} (h : SetC s st se DL) : ∃ f : Int → Int, ∀ z : Int, 0 ≤ z ∧ z < 3 → sI s (st + 1) z.toNat = v (f z) := by
  obtain ⟨L, h1, -⟩ := h
  exact ⟨se.1, h1.2.2.2.1⟩
/-- one setting takes over another -/
theorem s_stTake {s : AS} {a b : Nat} {se se0 : ST1} {DL : Nat → Prop} (ha0 : SetC s a se0 DL) (hb : SetC s b se DL) (hn : se.2.1.length ≤ 6) (hab : a + 2 < b ∨ b + 2 < a) (hD : ∀ q, DL q → ¬ (a ≤ q ∧ q ≤ a + 2)) : ∃ s', f_Setting_takeFrom s a b = some s' ∧ SetC s' a se DL ∧ (∀ q, ¬ (a ≤ q ∧ q ≤ a + 2) → EqA s s' q) ∧ sX s' = sX s ∧ sZ s' = sZ s := by
  obtain ⟨t1, ⟨t2, t3, t4⟩, t5, t6, t7⟩ := ha0.is
  obtain ⟨f0, hf0⟩ := ha0.vals
  obtain ⟨L, ⟨b1, ⟨b2, b3, b4⟩, ⟨b5, b6, b7⟩, b8, b9, b10, b11⟩, h2, h3⟩ := hb
  obtain ⟨s1, e1⟩ : ∃ q, q = rowI s (a + 1) (va_cpy (sI s (b + 1)) (sI s (a + 1)) (0 : Int).toNat (0 : Int).toNat (3 : Int).toNat) := ⟨_, rfl⟩
  have c1 : cpA s (b + 1) (v 0) (a + 1) (v 0) (v 3) = some s1 := by rw [e1]; exact cp_gen b3 t3 b4 t4 (by omega)
  have f1 : Fr (fun q => q = a + 1) s s1 := by rw [e1]; exact Fr.ri rfl
  have v1 : ∀ z : Int, 0 ≤ z ∧ z < 3 → sI s1 (a + 1) z.toNat = v (se.1 z) := by
    intro z hz
    have := cp_val (A := se.1) (B := f0) (sp := 0) (dp := 0) (k := 3) (m := 3) (n := 3) b8 hf0 (by omega) z hz
    rw [e1, sI_rowI, if_pos rfl, this, if_pos (by omega), show 0 + (z - 0) = z by omega]
  -- the loop over the laws
  have loop : ∀ (k N : Nat) (i : Int) (x : AS), i + k = 6 → 0 ≤ i → k < N → (∀ q, q ≠ a + 2 → EqA s1 x q) → sT x (a + 2) = 51 → sN x (a + 2) = 6 → sI x (a + 2) = sI s1 (a + 2) → sL x (a + 2) = sL s1 (a + 2) → (∀ z : Int, 0 ≤ z → z < i → sR x (a + 2) z.toNat = sR s (b + 2) z.toNat) → sX x = sX s → sZ x = sZ s → ∃ x', (∀ q, q ≠ a + 2 → EqA s1 x' q) ∧ l_Setting_takeFrom_16 N a b (v i) x = some (setI (setI x' a 2 (v se.2.1.length)) a 3 (v se.2.2)) ∧ sT x' (a + 2) = 51 ∧ sN x' (a + 2) = 6 ∧ (∀ z : Int, 0 ≤ z → z < 6 → sR x' (a + 2) z.toNat = sR s (b + 2) z.toNat) ∧ sX x' = sX s ∧ sZ x' = sZ s := by
    intro k
    induction k with
    | zero =>
      intro N i x hi h0 hN hq hT hNn hI hL hz hX hZ
      obtain ⟨N, rfl⟩ : ∃ m, N = m + 1 := ⟨N - 1, by omega⟩
      refine ⟨x, hq, ?_, hT, hNn, fun z z0 z1 => hz z z0 (by omega), hX, hZ⟩
      have eb := hq b (by omega)
      have ea := hq a (by omega)
      have g1 : sI x b 2 = v se.2.1.length := by rw [eb.2.2.2.1, (f1.2 b (by omega)).1]; exact b10
      have g2 : sI (setI x a 2 (v se.2.1.length)) b 3 = v se.2.2 := by rw [sI_setI, if_neg (by omega), eb.2.2.2.1, (f1.2 b (by omega)).1]; exact b11
      show b_Setting_takeFrom_16 _ _ _ _ _ = _
      unfold b_Setting_takeFrom_16
      rw [nv6, if_neg (nlt (by omega)), if_pos (by rw [eb.1, f1.1.2.1]; exact b1), if_pos (by rw [ea.1, f1.1.2.1]; exact t1), g1, g2]
    | succ k ih =>
      intro N i x hi h0 hN hq hT hNn hI hL hz hX hZ
      obtain ⟨N, rfl⟩ : ∃ m, N = m + 1 := ⟨N - 1, by omega⟩
      have eb := hq b (by omega)
      have ea := hq a (by omega)
      have eb2 := hq (b + 2) (by omega)
      have g3 : sR x (b + 2) (v i).toNatClampNeg = sR s (b + 2) i.toNat := by rw [v_ix (by omega), eb2.2.2.1, f1.1.1]
      have g4 : sR s (b + 2) i.toNat = 0 ∨ sT x (sR s (b + 2) i.toNat) + 39 = 51 := by
        rcases h3 i.toNat (by omega) with d | ⟨d, d2⟩
        · exact Or.inl d
        · refine Or.inr ?_
          have hne : sR s (b + 2) i.toNat ≠ a + 2 := fun e => by have := hD _ d2; omega
          rw [(hq _ hne).1, f1.1.2.1, d]
      obtain ⟨x', r1, r2, r3, r4, r5, r6, r7⟩ := ih N (i + 1) (setR x (a + 2) i.toNat (sR s (b + 2) i.toNat)) (by omega) (by omega) (by omega) (fun q hne => (hq q hne).tr (eqA_setR hne)) hT hNn hI hL (fun z z0 z1 => by
        rw [sR_setR]
        by_cases c : z = i
        · rw [if_pos ⟨rfl, by rw [c]⟩, c]
        · rw [if_neg (by omega)]; exact hz z z0 (by omega)) hX hZ
      refine ⟨x', r1, ?_, r3, r4, r5, r6, r7⟩
      show b_Setting_takeFrom_16 _ _ _ _ _ = _
      unfold b_Setting_takeFrom_16
      rw [nv6, nv1, if_pos (plt (by omega)), if_pos (by rw [ea.1, f1.1.2.1]; exact t1), if_pos (by rw [eb.1, f1.1.2.1]; exact b1), eb.2.2.1, f1.1.1, b5, ea.2.2.1, f1.1.1, t5, eb2.1, eb2.2.1, f1.1.2.1, f1.1.2.2.1, b6, b7, if_pos ⟨by decide, v_inA (by omega) (by omega)⟩, hT, hNn, g3, if_pos ⟨⟨by decide, v_inA (by omega) (by omega)⟩, g4⟩, show (v i).toNatClampNeg = i.toNat from v_ix (by omega), v_add]
      exact r2
  obtain ⟨x', r1, r2, r3, r4, r5, r6, r7⟩ := loop 6 fuel 0 s1 (by omega) (by omega) (by unfold fuel; omega) (fun q _ => EqA.rf _ _) (by rw [f1.1.2.1]; exact t6) (by rw [f1.1.2.2.1]; exact t7) rfl rfl (fun z z0 z1 => by omega) f1.1.2.2.2.1 f1.1.2.2.2.2
  have fin : Fr (fun q => q = a) x' (setI (setI x' a 2 (v se.2.1.length)) a 3 (v se.2.2)) := (Fr.si (F := fun q => q = a) rfl).tr (Fr.si rfl)
  have eAll : ∀ q, ¬ (a ≤ q ∧ q ≤ a + 2) → EqA s (setI (setI x' a 2 (v se.2.1.length)) a 3 (v se.2.2)) q := fun q hq => ((f1.eqA (by omega)).tr (r1 q (by omega))).tr (fin.eqA (by omega))
  have ea := r1 a (by omega)
  have ea1 := r1 (a + 1) (by omega)
  have R2 : ∀ z : Int, 0 ≤ z → z < 6 → sR (setI (setI x' a 2 (v se.2.1.length)) a 3 (v se.2.2)) (a + 2) z.toNat = sR s (b + 2) z.toNat := r5
  refine ⟨setI (setI x' a 2 (v se.2.1.length)) a 3 (v se.2.2), ?_, ⟨L, ⟨?_, ⟨?_, ?_, ?_⟩, ⟨?_, r3, r4⟩, fun z hz => ?_, fun z hz => ?_, ?_, ?_⟩, fun i CL hi => ⟨(h2 i CL hi).1.eq (fun j hj => eAll _ (hD _ ((h2 i CL hi).2.2 j hj))), (h2 i CL hi).2⟩, fun z hz => ?_⟩, eAll, r6, r7⟩
  · unfold f_Setting_takeFrom
    rw [if_pos b1, if_pos t1, b2, t2, nv0, nv3, c1, Option.bind_some]
    exact r2
  · show sT x' a = 11; rw [ea.1, f1.1.2.1]; exact t1
  · show sR x' a 0 = a + 1; rw [ea.2.2.1, f1.1.1]; exact t2
  · show sT x' (a + 1) = 20; rw [ea1.1, f1.1.2.1]; exact t3
  · show sN x' (a + 1) = 3; rw [ea1.2.1, f1.1.2.2.1]; exact t4
  · show sR x' a 1 = a + 2; rw [ea.2.2.1, f1.1.1]; exact t5
  · rw [(fin.2 (a + 1) (by omega)).1, ea1.2.2.2.1]; exact v1 z hz
  · rw [R2 z hz.1 (by omega)]; exact b9 z hz
  · rw [sI_setI, if_neg (by omega), sI_setI, if_pos ⟨rfl, rfl⟩]
  · rw [sI_setI, if_pos ⟨rfl, rfl⟩]
  · have := R2 z (by omega) (by omega)
    rw [show ((z : Nat) : Int).toNat = z by omega] at this
    rw [this]
    rcases h3 z hz with d | ⟨d, d2⟩
    · exact Or.inl d
    · exact Or.inr ⟨by rw [(eAll _ (hD _ d2)).1]; exact d, d2⟩
