/-! PAIRS: an image is made -/
def bareSe : ST1 := (fun z => if z = 1 then 1 else 0, [], -1)
theorem bareSe_W : WfT bareSe := ⟨⟨by decide, by decide, by decide, fun z => by show 0 ≤ (if z = 1 then (1 : Int) else 0) ∧ (if z = 1 then (1 : Int) else 0) ≤ 1000; split <;> omega⟩, Nat.zero_le _, by decide, fun CL h => by cases h⟩
theorem s_newSetting {s : AS} {DL : Nat → Prop} (h : sX s + 10 < 900000) (h1 : 1 ≤ sX s) : ∃ s', f_Setting_init (newA s 11 4) (sX s) = some s' ∧ SetC s' (sX s) bareSe DL ∧ Gr (fun _ => False) s s' ∧ sX s' = sX s + 3 ∧ sZ s' = sZ s + 13 := by
  obtain ⟨b, hb⟩ : ∃ b, b = sX s := ⟨_, rfl⟩
  obtain ⟨s0, e0⟩ : ∃ x, x = newA s 11 4 := ⟨_, rfl⟩
  have x0 : sX s0 = b + 1 := by rw [e0, sX_new, hb]
  obtain ⟨s1, e1⟩ : ∃ x, x = setR (newA s0 20 3) b 0 (b + 1) := ⟨_, rfl⟩
  have x1 : sX s1 = b + 2 := by rw [e1, setR_X, sX_new, x0]
  obtain ⟨s2, e2⟩ : ∃ x, x = setR (newA s1 51 6) b 1 (b + 2) := ⟨_, rfl⟩
  have x2 : sX s2 = b + 3 := by rw [e2, setR_X, sX_new, x1]
  obtain ⟨s3, e3⟩ : ∃ x, x = setI (setI (setI s2 b 2 (v 0)) b 3 (v (-1))) (b + 1) (1 : Int).toNat (v 1) := ⟨_, rfl⟩
  have T : ∀ q, sT s3 q = if q = b + 2 then 51 else if q = b + 1 then 20 else if q = b then 11 else sT s q := fun q => by
    rw [e3, setI_T, setI_T, setI_T, e2, setR_T, sT_new, x1, e1, setR_T, sT_new, x0, e0, sT_new, ← hb]
  have N : ∀ q, sN s3 q = if q = b + 2 then 6 else if q = b + 1 then 3 else if q = b then 4 else sN s q := fun q => by
    rw [e3, setI_N, setI_N, setI_N, e2, setR_N, sN_new, x1, e1, setR_N, sN_new, x0, e0, sN_new, ← hb]
  have R : ∀ k, sR s3 b k = if k = 1 then b + 2 else if k = 0 then b + 1 else 0 := fun k => by
    rw [e3, setI_R, setI_R, setI_R, e2, sR_setR, sR_new, x1, if_neg (show ¬ b = b + 2 by omega), e1, sR_setR, sR_new, x0, if_neg (show ¬ b = b + 1 by omega), e0, sR_new, ← hb, if_pos (rfl : b = b)]
    simp only [true_and]
  have R2 : ∀ k, sR s3 (b + 2) k = 0 := fun k => by
    rw [e3, setI_R, setI_R, setI_R, e2, sR_setR, if_neg (by omega), sR_new, x1, if_pos rfl]
  have I2 : ∀ q, sI s2 q = if q = b + 2 then (fun _ => nI 0) else if q = b + 1 then (fun _ => nI 0) else if q = b then (fun _ => nI 0) else sI s q := fun q => by
    rw [e2, setR_I, sI_new, x1, e1, setR_I, sI_new, x0, e0, sI_new, ← hb]
  have g0 : Gr (fun _ => False) s s0 := by rw [e0]; exact grn (by omega)
  have g1 : Gr (fun q => q = b) s0 s1 := by rw [e1]; exact (grn (by omega)).tr (gr_setR rfl)
  have g2 : Gr (fun q => q = b) s1 s2 := by rw [e2]; exact (grn (by omega)).tr (gr_setR rfl)
  have f3 : Fr (fun q => q = b ∨ q = b + 1) s2 s3 := by rw [e3]; exact ((Fr.si (Or.inl rfl)).tr (Fr.si (Or.inl rfl))).tr (Fr.si (Or.inr rfl))
  have k1 : sT (newA s0 20 3) b = 11 := by rw [sT_new, x0, if_neg (by omega), e0, sT_new, ← hb, if_pos rfl]
  have k2 : sT (newA s1 51 6) b = 11 := by rw [sT_new, x1, if_neg (by omega), e1, setR_T]; exact k1
  have w0 : nwA s0 20 (nI 3) = some (b + 1, newA s0 20 3) := by rw [← x0]; exact nwA_s (z := 3) (by omega) (by omega)
  have w1 : nwA s1 51 (nI 6) = some (b + 2, newA s1 51 6) := by rw [← x1]; exact nwA_s (z := 6) (by omega) (by omega)
  have rb : sR s2 b 0 = b + 1 := by have := R 0; rw [e3, setI_R, setI_R, setI_R] at this; exact this
  have tb : sT (newA s1 51 6) (b + 1) = 20 := by rw [sT_new, x1, if_neg (by omega), e1, setR_T, sT_new, x0, if_pos rfl]
  have nb : sN (newA s1 51 6) (b + 1) = 3 := by rw [sN_new, x1, if_neg (by omega), e1, setR_N, sN_new, x0, if_pos rfl]
  refine ⟨s3, ?_, ⟨fun _ => 0, ⟨?_, ⟨?_, ?_, ?_⟩, ⟨?_, ?_, ?_⟩, fun z hz => ?_, fun z hz => ?_, ?_, ?_⟩, fun i CL hi => (by cases hi), fun z hz => Or.inl ?_⟩, ⟨fun q hq _ => ?_, ?_⟩, ?_, ?_⟩
  · rw [← e0, ← hb]
    unfold f_Setting_init
    rw [if_pos (show ¬ b = 0 by omega), w0, Option.bind_some, if_pos k1]
    show (nwA (setR (newA s0 20 3) b 0 (b + 1)) 51 (nI 6)).bind _ = _
    rw [← e1, w1, Option.bind_some, if_pos k2]
    show (if sT (newA s1 51 6) (sR (setR (newA s1 51 6) b 1 (b + 2)) b 0) = 20 ∧ inA (nI 1) (sN (newA s1 51 6) (sR (setR (newA s1 51 6) b 1 (b + 2)) b 0)) then some (setI (setI (setI (setR (newA s1 51 6) b 1 (b + 2)) b 2 (nI 0)) b 3 (-(nI 1))) (sR (setR (newA s1 51 6) b 1 (b + 2)) b 0) (nI 1).toNatClampNeg (nI 1)) else none) = _
    rw [← e2, rb, tb, nb, nv1, if_pos ⟨rfl, v_inA (by omega) (by omega)⟩, v_ix (by omega), v_neg, nv0, e3]
  · rw [← hb, T, if_neg (by omega), if_neg (by omega), if_pos rfl]
  · rw [← hb, R]; rfl
  · rw [← hb, T, if_neg (by omega), if_pos rfl]
  · rw [← hb, N, if_neg (by omega), if_pos rfl]
  · rw [← hb, R]; rfl
  · rw [← hb, T, if_pos rfl]
  · rw [← hb, N, if_pos rfl]
  · rw [← hb, e3, sI_setI]
    show _ = v (if z = 1 then 1 else 0)
    by_cases c : z = 1
    · rw [if_pos ⟨rfl, by rw [c]⟩, if_pos c]
    · rw [if_neg (by omega), if_neg c, sI_setI, if_neg (by omega), sI_setI, if_neg (by omega), I2, if_neg (by omega), if_pos rfl]
      rfl
  · exact absurd (show z < 0 from hz.2) (by omega)
  · rw [← hb, e3, sI_setI, if_neg (by omega), sI_setI, if_neg (by omega), sI_setI, if_pos ⟨rfl, rfl⟩]
    rfl
  · rw [← hb, e3, sI_setI, if_neg (by omega), sI_setI, if_pos ⟨rfl, rfl⟩]
    rfl
  · rw [← hb, R2]
  · have a1 := g0.1 q hq (fun d => d)
    have a2 := g1.1 q (by have := g0.2; omega) (by omega)
    have a3 := g2.1 q (by have := g0.2; have := g1.2; omega) (by omega)
    exact ((a1.tr a2).tr a3).tr (f3.eqA (by omega))
  · rw [show sX s3 = sX s2 from f3.1.2.2.2.1, x2]; omega
  · rw [show sX s3 = sX s2 from f3.1.2.2.2.1, x2]; omega
  · rw [show sZ s3 = sZ s2 from f3.1.2.2.2.2, e2, setR_Z, sZ_new, e1, setR_Z, sZ_new, e0, sZ_new]
theorem s_newImage {s : AS} {DL : Nat → Prop} (h : sX s + 30 < 900000) (h1 : 1 ≤ sX s) : ∃ s', f_Image_init (newA s 4 2) (sX s) = some s' ∧ IsIm s' (sX s) ∧ PgR s' (sX s + 1) bareP ∧ SetC s' (sX s + 8) bareSe DL ∧ Gr (fun _ => False) s s' ∧ sX s' = sX s + 11 ∧ sZ s' = sZ s + 933 := by
  obtain ⟨b, hb⟩ : ∃ b, b = sX s := ⟨_, rfl⟩
  obtain ⟨s0, e0⟩ : ∃ x, x = newA s 4 2 := ⟨_, rfl⟩
  have x0 : sX s0 = b + 1 := by rw [e0, sX_new, hb]
  obtain ⟨s2, p1, p2, p3, p4, p5⟩ := s_newPages (s := s0) (by omega) (by omega)
  have xs2 : sX s2 = b + 8 := by omega
  have tb : sT s2 b = 4 := by
    rw [(p3.1 b (Or.inl (by omega)) (fun d => d)).1, e0, sT_new, ← hb, if_pos rfl]
  obtain ⟨s3, e3⟩ : ∃ x, x = setR s2 b 0 (b + 1) := ⟨_, rfl⟩
  have x3 : sX s3 = b + 8 := by rw [e3, setR_X, xs2]
  obtain ⟨s4, q1, q2, q3, q4, q5⟩ := s_newSetting (s := s3) (DL := fun _ => False) (by omega) (by omega)
  have eb : EqA s3 s4 b := q3.1 b (Or.inl (by omega)) (fun d => d)
  have tb4 : sT s4 b = 4 := by rw [eb.1, e3, setR_T]; exact tb
  have ne : ∀ q, q ≠ b → EqA s4 (setR s4 b 1 (b + 8)) q := fun q hq => eqA_setR hq
  have ep : ∀ i, i ≤ 6 → EqA s2 (setR s4 b 1 (b + 8)) (b + 1 + i) := fun i hi => by
    have a1 : EqA s2 s3 (b + 1 + i) := by rw [e3]; exact eqA_setR (by omega)
    have a2 : EqA s3 s4 (b + 1 + i) := q3.1 _ (Or.inl (by omega)) (fun d => d)
    exact (a1.tr a2).tr (ne _ (by omega))
  have r0 : sR s3 b 0 = b + 1 := by rw [e3, sR_setR, if_pos ⟨rfl, rfl⟩]
  refine ⟨setR s4 b 1 (b + 8), ?_, ⟨?_, ?_, ?_⟩, ?_, ?_, ⟨fun q hq _ => ?_, ?_⟩, ?_, ?_⟩
  · rw [← e0, ← hb]
    unfold f_Image_init
    rw [if_pos (show ¬ b = 0 by omega), nwO_s (by omega), Option.bind_some]
    show (if ¬ sX s0 = 0 then (f_Pages_init (newA s0 7 6) (sX s0)).bind _ else none) = _
    rw [if_pos (by omega), p1, Option.bind_some, if_pos tb]
    show (nwO (setR s2 b 0 (sX s0)) 11 4).bind _ = _
    rw [x0, ← e3, nwO_s (by omega), Option.bind_some]
    show (if ¬ sX s3 = 0 then (f_Setting_init (newA s3 11 4) (sX s3)).bind _ else none) = _
    rw [if_pos (by omega), q1, Option.bind_some, if_pos tb4, x3]
  · rw [← hb]; exact tb4
  · rw [← hb, sR_setR, if_neg (by omega), eb.2.2.1]; exact r0
  · rw [← hb, sR_setR, if_pos ⟨rfl, rfl⟩]
  · rw [← hb]
    rw [x0] at p2
    exact p2.eq ep
  · rw [← hb]
    rw [x3] at q2
    exact (q2.eq (fun i hi => ne _ (by omega)) (fun q hq => hq.elim)).mo (fun q hq => hq.elim)
  · have a0 : EqA s s0 q := by rw [e0]; exact (grn (by omega) : Gr (fun _ => False) s (newA s 4 2)).1 q hq (fun d => d)
    have hq0 : q ≠ b := by rcases hq with d | d <;> omega
    have a1 : EqA s0 s2 q := p3.1 q (by omega) (fun d => d)
    have a2 : EqA s2 s3 q := by rw [e3]; exact eqA_setR hq0
    have a3 : EqA s3 s4 q := q3.1 q (by omega) (fun d => d)
    exact (((a0.tr a1).tr a2).tr a3).tr (ne q hq0)
  · show sX s ≤ sX s4; omega
  · show sX s4 = _; omega
  · show sZ s4 = _
    rw [q5, e3, setR_Z, p5, e0, sZ_new]
