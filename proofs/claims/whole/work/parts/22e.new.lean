/-! NEW OBJECTS OF MANY PARTS -/
theorem s_newReader {s : AS} (h : sX s + 60 < 900000) (h1 : 1 ≤ sX s) : ∃ s', f_Reader_init (newA s 8 8) (sX s) = some s' ∧ (IsRd s' (sX s) ∧ sI s' (sX s) 7 = v (-1)) ∧ Gr (fun _ => False) s s' ∧ sX s' = sX s + 7 ∧ sZ s' = sZ s + 887 := by
  obtain ⟨b, hb⟩ : ∃ b, b = sX s := ⟨_, rfl⟩
  obtain ⟨s0, e0⟩ : ∃ x, x = newA s 8 8 := ⟨_, rfl⟩
  have x0 : sX s0 = b + 1 := by rw [e0, sX_new, hb]
  obtain ⟨s1, e1⟩ : ∃ x, x = newA s0 12 4 := ⟨_, rfl⟩
  have x1 : sX s1 = b + 2 := by rw [e1, sX_new, x0]
  obtain ⟨s2, e2⟩ : ∃ x, x = newA s1 20 400 := ⟨_, rfl⟩
  have x2 : sX s2 = b + 3 := by rw [e2, sX_new, x1]
  obtain ⟨s3, e3⟩ : ∃ x, x = newA s2 20 72 := ⟨_, rfl⟩
  have x3 : sX s3 = b + 4 := by rw [e3, sX_new, x2]
  obtain ⟨s4, e4⟩ : ∃ x, x = setR (setR (setR s3 (b + 1) 0 (b + 2)) (b + 1) 1 (b + 3)) b 0 (b + 1) := ⟨_, rfl⟩
  have x4 : sX s4 = b + 4 := by rw [e4, setR_X, setR_X, setR_X, x3]
  obtain ⟨s5, e5⟩ : ∃ x, x = setR (newA s4 20 401) b 1 (b + 4) := ⟨_, rfl⟩
  have x5 : sX s5 = b + 5 := by rw [e5, setR_X, sX_new, x4]
  have T : ∀ q, sT s5 q = if q = b + 4 then 20 else if q = b + 3 then 20 else if q = b + 2 then 20 else if q = b + 1 then 12 else if q = b then 8 else sT s q := fun q => by
    rw [e5, setR_T, sT_new, x4, e4, setR_T, setR_T, setR_T, e3, sT_new, x2, e2, sT_new, x1, e1, sT_new, x0, e0, sT_new, ← hb]
  have N : ∀ q, sN s5 q = if q = b + 4 then 401 else if q = b + 3 then 72 else if q = b + 2 then 400 else if q = b + 1 then 4 else if q = b then 8 else sN s q := fun q => by
    rw [e5, setR_N, sN_new, x4, e4, setR_N, setR_N, setR_N, e3, sN_new, x2, e2, sN_new, x1, e1, sN_new, x0, e0, sN_new, ← hb]
  have R0 : sR s5 b 0 = b + 1 ∧ sR s5 b 1 = b + 4 := by
    constructor
    · rw [e5, sR_setR, if_neg (by omega), sR_new, x4, if_neg (by omega), e4, sR_setR, if_pos ⟨rfl, rfl⟩]
    · rw [e5, sR_setR, if_pos ⟨rfl, rfl⟩]
  have R1 : sR s5 (b + 1) 0 = b + 2 ∧ sR s5 (b + 1) 1 = b + 3 := by
    constructor
    · rw [e5, sR_setR, if_neg (by omega), sR_new, x4, if_neg (by omega), e4, sR_setR, if_neg (by omega), sR_setR, if_neg (by omega), sR_setR, if_pos ⟨rfl, rfl⟩]
    · rw [e5, sR_setR, if_neg (by omega), sR_new, x4, if_neg (by omega), e4, sR_setR, if_neg (by omega), sR_setR, if_pos ⟨rfl, rfl⟩]
  obtain ⟨s6, q1, q2, q3, q4, q5⟩ := s_newRow (s := s5) (n := 0) (by omega) (by omega) (by omega)
  rw [x5] at q1 q2 q4
  have E : ∀ q, q ≤ b + 4 → EqA s5 s6 q := fun q hq => q3.1 q (Or.inl (by omega)) (fun d => d)
  obtain ⟨s7, e7⟩ : ∃ x, x = setI (setI (setI (setI (setI (setR s6 b 2 (b + 5)) b 3 (v 0)) b 4 (v 0)) b 5 (v 0)) b 6 (v 0)) b 7 (v (-1)) := ⟨_, rfl⟩
  have T7 : sT s7 = sT s6 := by rw [e7]; rfl
  have N7 : sN s7 = sN s6 := by rw [e7]; rfl
  have R7 : ∀ q k, sR s7 q k = if q = b ∧ k = 2 then b + 5 else sR s6 q k := fun q k => by rw [e7]; exact sR_setR _ _ _ _ _ _
  have g0 : Gr (fun q => q = b ∨ q = b + 1) s s0 := by rw [e0]; exact grn (by omega)
  have g1 : Gr (fun q => q = b ∨ q = b + 1) s0 s1 := by rw [e1]; exact grn (by omega)
  have g2 : Gr (fun q => q = b ∨ q = b + 1) s1 s2 := by rw [e2]; exact grn (by omega)
  have g3 : Gr (fun q => q = b ∨ q = b + 1) s2 s3 := by rw [e3]; exact grn (by omega)
  have g4 : Gr (fun q => q = b ∨ q = b + 1) s3 s4 := by rw [e4]; exact ((gr_setR (F := fun q => q = b ∨ q = b + 1) (Or.inr rfl)).tr (gr_setR (Or.inr rfl))).tr (gr_setR (Or.inl rfl))
  have g5 : Gr (fun q => q = b ∨ q = b + 1) s4 s5 := by rw [e5]; exact (grn (by omega)).tr (gr_setR (Or.inl rfl))
  have g6 : Gr (fun q => q = b ∨ q = b + 1) s5 s6 := q3.mo (fun q d => d.elim)
  have f7 : Fr (fun q => q = b ∨ q = b + 1) (setR s6 b 2 (b + 5)) s7 := by rw [e7]; exact ((((Fr.si (Or.inl rfl)).tr (Fr.si (Or.inl rfl))).tr (Fr.si (Or.inl rfl))).tr (Fr.si (Or.inl rfl))).tr (Fr.si (Or.inl rfl))
  have g7 : Gr (fun q => q = b ∨ q = b + 1) s6 s7 := (gr_setR (F := fun q => q = b ∨ q = b + 1) (Or.inl rfl)).tr f7.gr
  have gg := ((((((g0.tr g1).tr g2).tr g3).tr g4).tr g5).tr g6).tr g7
  have k3 : sT s3 (b + 1) = 12 := by rw [e3, sT_new, x2, if_neg (by omega), e2, sT_new, x1, if_neg (by omega), e1, sT_new, x0, if_pos rfl]
  have k3b : sT s3 b = 8 := by rw [e3, sT_new, x2, if_neg (by omega), e2, sT_new, x1, if_neg (by omega), e1, sT_new, x0, if_neg (by omega), e0, sT_new, ← hb, if_pos rfl]
  have k4b : sT (newA s4 20 401) b = 8 := by rw [sT_new, x4, if_neg (by omega), e4, setR_T, setR_T, setR_T]; exact k3b
  have k5b : sT s5 b = 8 := by rw [T, if_neg (by omega), if_neg (by omega), if_neg (by omega), if_neg (by omega), if_pos rfl]
  have w1 : nwO s0 12 4 = some (b + 1, newA s0 12 4) := by rw [nwO_s (by omega), x0]
  have w2 : nwA s1 20 (nI 400) = some (b + 2, newA s1 20 400) := by rw [← x1]; exact nwA_s (z := 400) (by omega) (by omega)
  have w3 : nwA s2 20 (nI 72) = some (b + 3, newA s2 20 72) := by rw [← x2]; exact nwA_s (z := 72) (by omega) (by omega)
  have w4 : nwA s4 20 (nI 401) = some (b + 4, newA s4 20 401) := by rw [← x4]; exact nwA_s (z := 401) (by omega) (by omega)
  have w5 : nwO s5 9 2 = some (b + 5, newA s5 9 2) := by rw [nwO_s (by omega), x5]
  have ti : f_Text_init s3 (b + 1) (b + 2) (b + 3) = some (setR (setR s3 (b + 1) 0 (b + 2)) (b + 1) 1 (b + 3)) := by
    unfold f_Text_init
    rw [if_pos (by omega), if_pos k3]
  refine ⟨s7, ?_, ⟨⟨?_, ⟨?_, ?_⟩, ⟨?_, ?_⟩, ⟨?_, ⟨?_, ?_, ?_⟩, ?_, ?_, ?_⟩⟩, ?_⟩, ⟨fun q hq _ => gg.1 q hq (fun d => by omega), gg.2⟩, ?_, ?_⟩
  · rw [← e0, ← hb]
    unfold f_Reader_init
    rw [if_pos (show ¬ b = 0 by omega), w1, Option.bind_some]
    show (nwA (newA s0 12 4) 20 (nI 400)).bind _ = _
    rw [← e1, w2, Option.bind_some]
    show (nwA (newA s1 20 400) 20 (nI 72)).bind _ = _
    rw [← e2, w3, Option.bind_some]
    show (if ¬ b + 1 = 0 then (f_Text_init (newA s2 20 72) (b + 1) (b + 2) (b + 3)).bind _ else none) = _
    rw [← e3, if_pos (by omega), ti, Option.bind_some, if_pos (show sT (setR (setR s3 (b + 1) 0 (b + 2)) (b + 1) 1 (b + 3)) b = 8 from k3b)]
    show (nwA (setR (setR (setR s3 (b + 1) 0 (b + 2)) (b + 1) 1 (b + 3)) b 0 (b + 1)) 20 (nI 401)).bind _ = _
    rw [← e4, w4, Option.bind_some, if_pos k4b]
    show (nwO (setR (newA s4 20 401) b 1 (b + 4)) 9 2).bind _ = _
    rw [← e5, w5, Option.bind_some]
    show (if ¬ b + 5 = 0 then (f_Row_init (newA s5 9 2) (b + 5) (v 0)).bind _ else none) = _
    rw [if_pos (by omega), q1, Option.bind_some, if_pos (show sT s6 b = 8 by rw [(E b (by omega)).1]; exact k5b), if_pos (show sT s6 b = 8 ∧ (nI 0 = nI 0 ∨ nI 0 = nI 1) from ⟨by rw [(E b (by omega)).1]; exact k5b, Or.inl rfl⟩), nv0, nv1, v_neg, e7]
  · rw [← hb, T7, (E b (by omega)).1]; exact k5b
  · rw [← hb, R7, if_neg (by omega), (E b (by omega)).2.2.1]; exact R0.1
  · rw [← hb, R7, if_neg (by omega), (E b (by omega)).2.2.1]; exact R0.2
  · rw [← hb, T7, (E (b + 4) (by omega)).1, T, if_pos rfl]
  · rw [← hb, N7, (E (b + 4) (by omega)).2.1, N, if_pos rfl]
  · rw [← hb, T7, (E (b + 1) (by omega)).1, T, if_neg (by omega), if_neg (by omega), if_neg (by omega), if_pos rfl]
  · rw [← hb, R7, if_neg (by omega), (E (b + 1) (by omega)).2.2.1]; exact R1.1
  · rw [← hb, T7, (E (b + 2) (by omega)).1, T, if_neg (by omega), if_neg (by omega), if_pos rfl]
  · rw [← hb, N7, (E (b + 2) (by omega)).2.1, N, if_neg (by omega), if_neg (by omega), if_pos rfl]
  · rw [← hb, R7, if_neg (by omega), (E (b + 1) (by omega)).2.2.1]; exact R1.2
  · rw [← hb, T7, (E (b + 3) (by omega)).1, T, if_neg (by omega), if_pos rfl]
  · rw [← hb, N7, (E (b + 3) (by omega)).2.1, N, if_neg (by omega), if_pos rfl]
  · rw [← hb, e7, sI_setI, if_pos ⟨rfl, rfl⟩]
  · rw [show sX s7 = sX s6 by rw [e7]; rfl, q4, hb]
  · rw [show sZ s7 = sZ s6 by rw [e7]; rfl, q5, e5, setR_Z, sZ_new, e4, setR_Z, setR_Z, setR_Z, e3, sZ_new, e2, sZ_new, e1, sZ_new, e0, sZ_new]
    show sZ s + 8 + 4 + 400 + 72 + 401 + (2 + (0 : Int).toNat) = sZ s + 887
    rfl
theorem s_newDesk {s : AS} (h : sX s + 60 < 900000) (h1 : 1 ≤ sX s) : ∃ s', f_Desk_init (newA s 3 7) (sX s) 18 15 = some s' ∧ DkO s' (sX s) bareP ∧ Gr (fun _ => False) s s' ∧ sX s' = sX s + 18 ∧ sZ s' = sZ s + 1949 := by
  obtain ⟨b, hb⟩ : ∃ b, b = sX s := ⟨_, rfl⟩
  obtain ⟨s0, e0⟩ : ∃ x, x = newA s 3 7 := ⟨_, rfl⟩
  have x0 : sX s0 = b + 1 := by rw [e0, sX_new, hb]
  have t0 : sT s0 b = 3 := by rw [e0, sT_new, ← hb, if_pos rfl]
  obtain ⟨u1, p1, p2, p3, p4, p5⟩ := s_newPages (s := s0) (by omega) (by omega)
  rw [x0] at p1 p2 p4
  obtain ⟨s1, e1⟩ : ∃ x, x = setR u1 b 2 (b + 1) := ⟨_, rfl⟩
  have x1 : sX s1 = b + 8 := by rw [e1, setR_X, p4]
  obtain ⟨u2, q1, q2, q3, q4, q5⟩ := s_newPages (s := s1) (by omega) (by omega)
  rw [x1] at q1 q2 q4
  obtain ⟨s2, e2⟩ : ∃ x, x = setR u2 b 3 (b + 8) := ⟨_, rfl⟩
  have x2 : sX s2 = b + 15 := by rw [e2, setR_X, q4]
  obtain ⟨u3, r1, r2, r3, r4, r5⟩ := s_newRow (s := s2) (n := 40) (by omega) (by omega) (by omega)
  rw [x2] at r1 r2 r4
  obtain ⟨s3, e3⟩ : ∃ x, x = setR u3 b 4 (b + 15) := ⟨_, rfl⟩
  have x3 : sX s3 = b + 17 := by rw [e3, setR_X, r4]
  obtain ⟨s4, e4⟩ : ∃ x, x = setR (setR (setI (setR (newA s3 20 64) b 5 (b + 17)) b 6 (v (-1))) b 0 18) b 1 15 := ⟨_, rfl⟩
  have x4 : sX s4 = b + 18 := by rw [e4, setR_X, setR_X, setI_X, setR_X, sX_new, x3]
  have g0 : Gr (fun q => q = b) s s0 := by rw [e0]; exact grn (by omega)
  have a1 : Gr (fun q => q = b) s0 u1 := p3.mo (fun q d => d.elim)
  have g1 : Gr (fun q => q = b) u1 s1 := by rw [e1]; exact gr_setR rfl
  have a2 : Gr (fun q => q = b) s1 u2 := q3.mo (fun q d => d.elim)
  have g2 : Gr (fun q => q = b) u2 s2 := by rw [e2]; exact gr_setR rfl
  have a3 : Gr (fun q => q = b) s2 u3 := r3.mo (fun q d => d.elim)
  have g3 : Gr (fun q => q = b) u3 s3 := by rw [e3]; exact gr_setR rfl
  have g4 : Gr (fun q => q = b) s3 s4 := by
    rw [e4]
    exact ((((grn (F := fun q => q = b) (s := s3) (by omega)).tr (gr_setR (F := fun q => q = b) rfl)).tr (Fr.si (F := fun q => q = b) rfl).gr).tr (gr_setR (F := fun q => q = b) rfl)).tr (gr_setR (F := fun q => q = b) rfl)
  have G3 := g3.tr g4
  have G2 := (g2.tr a3).tr G3
  have G1 := (g1.tr a2).tr G2
  have gg := (g0.tr a1).tr G1
  have E1 : ∀ q, q ≠ b → q < b + 8 → EqA u1 s4 q := fun q hq hl => G1.1 q (Or.inl (by omega)) hq
  have E2 : ∀ q, q ≠ b → q < b + 15 → EqA u2 s4 q := fun q hq hl => G2.1 q (Or.inl (by omega)) hq
  have E3 : ∀ q, q ≠ b → q < b + 17 → EqA u3 s4 q := fun q hq hl => G3.1 q (Or.inl (by omega)) hq
  have c1 : EqA s0 u1 b := p3.1 b (Or.inl (by omega)) (fun d => d)
  have c2 : EqA s1 u2 b := q3.1 b (Or.inl (by omega)) (fun d => d)
  have c3 : EqA s2 u3 b := r3.1 b (Or.inl (by omega)) (fun d => d)
  have t1 : sT u1 b = 3 := by rw [c1.1]; exact t0
  have t2 : sT u2 b = 3 := by rw [c2.1, e1, setR_T]; exact t1
  have t3 : sT u3 b = 3 := by rw [c3.1, e2, setR_T]; exact t2
  have t4 : sT (newA s3 20 64) b = 3 := by rw [sT_new, x3, if_neg (by omega), e3, setR_T]; exact t3
  have Rb : ∀ k, sR s4 b k = if k = 1 then 15 else if k = 0 then 18 else if k = 5 then b + 17 else if k = 4 then b + 15 else if k = 3 then b + 8 else if k = 2 then b + 1 else 0 := fun k => by
    rw [e4, sR_setR, sR_setR, setI_R, sR_setR, sR_new, x3, if_neg (show ¬ b = b + 17 by omega), e3, sR_setR, c3.2.2.1, e2, sR_setR, c2.2.2.1, e1, sR_setR, c1.2.2.1, e0, sR_new, ← hb, if_pos (rfl : b = b)]
    simp only [true_and]
  have w1 : nwO s0 7 6 = some (b + 1, newA s0 7 6) := by rw [nwO_s (by omega), x0]
  have w2 : nwO s1 7 6 = some (b + 8, newA s1 7 6) := by rw [nwO_s (by omega), x1]
  have w3 : nwO s2 9 2 = some (b + 15, newA s2 9 2) := by rw [nwO_s (by omega), x2]
  have w4 : nwA s3 20 (nI 64) = some (b + 17, newA s3 20 64) := by rw [← x3]; exact nwA_s (z := 64) (by omega) (by omega)
  have P1 : PgR s4 (b + 1) bareP := p2.eq (fun i hi => E1 _ (by omega) (by omega))
  have P2 : PgR s4 (b + 8) bareP := q2.eq (fun i hi => E2 _ (by omega) (by omega))
  have P3 : RwR s4 (b + 15) 40 (fun _ => 0) 0 := r2.eq (E3 _ (by omega) (by omega)) (E3 _ (by omega) (by omega))
  refine ⟨s4, ?_, ?_, Gr.fresh gg hb (by omega), by omega, ?_⟩
  · rw [← e0, ← hb]
    unfold f_Desk_init
    rw [if_pos (show ¬ b = 0 by omega), w1, Option.bind_some]
    show (if ¬ b + 1 = 0 then (f_Pages_init (newA s0 7 6) (b + 1)).bind _ else none) = _
    rw [if_pos (by omega), p1, Option.bind_some, if_pos t1]
    show (nwO (setR u1 b 2 (b + 1)) 7 6).bind _ = _
    rw [← e1, w2, Option.bind_some]
    show (if ¬ b + 8 = 0 then (f_Pages_init (newA s1 7 6) (b + 8)).bind _ else none) = _
    rw [if_pos (by omega), q1, Option.bind_some, if_pos t2]
    show (nwO (setR u2 b 3 (b + 8)) 9 2).bind _ = _
    rw [← e2, w3, Option.bind_some]
    show (if ¬ b + 15 = 0 then (f_Row_init (newA s2 9 2) (b + 15) (v 40)).bind _ else none) = _
    rw [if_pos (by omega), r1, Option.bind_some, if_pos t3]
    show (nwA (setR u3 b 4 (b + 15)) 20 (nI 64)).bind _ = _
    rw [← e3, w4, Option.bind_some, if_pos t4, nv1, v_neg, e4]
  · rw [← hb]
    refine ⟨⟨?_, ⟨?_, ?_, ?_, ?_, ?_, ?_⟩, P1.1, P2.1, P3.1, ?_, ?_⟩, ?_, P1, ⟨_, P2⟩, _, _, P3⟩
    · rw [e4, setR_T, setR_T, setI_T, setR_T]; exact t4
    · rw [Rb]; rfl
    · rw [Rb]; rfl
    · rw [Rb]; rfl
    · rw [Rb]; rfl
    · rw [Rb]; rfl
    · rw [Rb]; rfl
    · rw [e4, setR_T, setR_T, setI_T, setR_T, sT_new, x3, if_pos rfl]
    · rw [e4, setR_N, setR_N, setI_N, setR_N, sN_new, x3, if_pos rfl]
    · rw [e4, setR_I, setR_I, sI_setI, if_pos ⟨rfl, rfl⟩]
  · rw [e4, setR_Z, setR_Z, setI_Z, setR_Z, sZ_new, e3, setR_Z, r5, e2, setR_Z, q5, e1, setR_Z, p5, e0, sZ_new]
    show sZ s + 7 + 918 + 918 + (2 + (40 : Int).toNat) + 64 = sZ s + 1949
    rfl
theorem s_newRunner {s : AS} (hb : sX s = 60) : ∃ s', f_Runner_init (newA s 10 7) 60 21 15 6 = some s' ∧ (RnC s' ∧ LogC s' 61 (fun _ => False) 0 []) ∧ Gr (fun _ => False) s s' ∧ sX s' = 71 ∧ sZ s' = sZ s + 960 := by
  obtain ⟨s0, e0⟩ : ∃ x, x = newA s 10 7 := ⟨_, rfl⟩
  have x0 : sX s0 = 61 := by rw [e0, sX_new, hb]
  have t0 : sT s0 60 = 10 := by rw [e0, sT_new, hb, if_pos rfl]
  obtain ⟨u1, p1, p2, p3, p4, p5⟩ := s_newLog (s := s0) (by omega) (by omega)
  rw [x0] at p1 p2 p4
  obtain ⟨s1, e1⟩ : ∃ x, x = setR u1 60 3 61 := ⟨_, rfl⟩
  have x1 : sX s1 = 64 := by rw [e1, setR_X, p4]
  obtain ⟨u2, q1, q2, q3, q4, q5⟩ := s_newPages (s := s1) (by omega) (by omega)
  rw [x1] at q1 q2 q4
  obtain ⟨s2, e2⟩ : ∃ x, x = setR (setR (setR (setI (setI (setR u2 60 4 64) 60 5 (v 0)) 60 6 (v (-1))) 60 0 21) 60 1 15) 60 2 6 := ⟨_, rfl⟩
  have x2 : sX s2 = 71 := by rw [e2, setR_X, setR_X, setR_X, setI_X, setI_X, setR_X, q4]
  have g0 : Gr (fun q => q = 60) s s0 := by rw [e0]; exact grn (by omega)
  have a1 : Gr (fun q => q = 60) s0 u1 := p3.mo (fun q d => d.elim)
  have g1 : Gr (fun q => q = 60) u1 s1 := by rw [e1]; exact gr_setR rfl
  have a2 : Gr (fun q => q = 60) s1 u2 := q3.mo (fun q d => d.elim)
  have g2 : Gr (fun q => q = 60) u2 s2 := by
    rw [e2]
    exact (((((gr_setR (F := fun q => q = 60) rfl).tr (Fr.si (F := fun q => q = 60) rfl).gr).tr (Fr.si (F := fun q => q = 60) rfl).gr).tr (gr_setR rfl)).tr (gr_setR rfl)).tr (gr_setR rfl)
  have G1 := (g1.tr a2).tr g2
  have gg := (g0.tr a1).tr G1
  have c1 : EqA s0 u1 60 := p3.1 60 (Or.inl (by omega)) (fun d => d)
  have c2 : EqA s1 u2 60 := q3.1 60 (Or.inl (by omega)) (fun d => d)
  have t1 : sT u1 60 = 10 := by rw [c1.1]; exact t0
  have t2 : sT u2 60 = 10 := by rw [c2.1, e1, setR_T]; exact t1
  have Rb : ∀ k, sR s2 60 k = if k = 2 then 6 else if k = 1 then 15 else if k = 0 then 21 else if k = 4 then 64 else if k = 3 then 61 else 0 := fun k => by
    rw [e2, sR_setR, sR_setR, sR_setR, setI_R, setI_R, sR_setR, c2.2.2.1, e1, sR_setR, c1.2.2.1, e0, sR_new, hb, if_pos (rfl : 60 = 60)]
    simp only [true_and]
  have w1 : nwO s0 5 3 = some (61, newA s0 5 3) := by rw [nwO_s (by omega), x0]
  have w2 : nwO s1 7 6 = some (64, newA s1 7 6) := by rw [nwO_s (by omega), x1]
  refine ⟨s2, ?_, ⟨⟨?_, ⟨?_, ?_, ?_, ?_, ?_⟩, ?_⟩, ?_⟩, Gr.fresh gg hb.symm (by omega), x2, ?_⟩
  · rw [← e0]
    unfold f_Runner_init
    rw [if_pos (show ¬ 60 = 0 by decide), w1, Option.bind_some]
    show (if ¬ 61 = 0 then (f_Log_init (newA s0 5 3) 61).bind _ else none) = _
    rw [if_pos (by decide), p1, Option.bind_some, if_pos t1]
    show (nwO (setR u1 60 3 61) 7 6).bind _ = _
    rw [← e1, w2, Option.bind_some]
    show (if ¬ 64 = 0 then (f_Pages_init (newA s1 7 6) 64).bind _ else none) = _
    rw [if_pos (by decide), q1, Option.bind_some, if_pos t2, nv0, nv1, v_neg, e2]
  · rw [e2, setR_T, setR_T, setR_T, setI_T, setI_T, setR_T]; exact t2
  · rw [Rb]; rfl
  · rw [Rb]; rfl
  · rw [Rb]; rfl
  · rw [Rb]; rfl
  · rw [Rb]; rfl
  · exact q2.1.eq (fun i hi => g2.1 _ (Or.inl (by omega)) (by omega))
  · exact p2.eq (fun i hi => G1.1 _ (Or.inl (by omega)) (by omega)) (fun q hq => hq.elim)
  · rw [e2, setR_Z, setR_Z, setR_Z, setI_Z, setI_Z, setR_Z, q5, e1, setR_Z, p5, e0, sZ_new]
