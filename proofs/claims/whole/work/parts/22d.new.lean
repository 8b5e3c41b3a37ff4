/-! NEW OBJECTS (gen22d.py) -/
theorem Gr.fresh {s s' : AS} {b : Nat} (h : Gr (fun q => q = b) s s') (hb : b = sX s) (hx : sX s < 900000) : Gr (fun _ => False) s s' := ⟨fun q hq _ => h.1 q hq (fun d => by omega), h.2⟩
theorem s_newRow {s : AS} {n : Int} (h : sX s + 20 < 900000) (h1 : 1 ≤ sX s) (hn : 0 ≤ n ∧ n ≤ 1000) : ∃ s', f_Row_init (newA s 9 2) (sX s) (v n) = some s' ∧ (RwR s' (sX s) n.toNat (fun _ => 0) 0) ∧ Gr (fun _ => False) s s' ∧ sX s' = sX s + 2 ∧ sZ s' = sZ s + (2 + n.toNat) := by
  obtain ⟨b, hb⟩ : ∃ b, b = sX s := ⟨_, rfl⟩
  obtain ⟨s0, e0⟩ : ∃ x, x = newA s 9 2 := ⟨_, rfl⟩
  have x0 : sX s0 = b + 1 := by rw [e0, sX_new, hb]
  obtain ⟨s1, e1⟩ : ∃ x, x = setR (newA s0 20 n.toNat) b 0 (b + 1) := ⟨_, rfl⟩
  have x1 : sX s1 = b + 2 := by rw [e1, setR_X, sX_new, x0]
  obtain ⟨sF, eF⟩ : ∃ x, x = s1 := ⟨_, rfl⟩
  have T : ∀ q, sT sF q = if q = b + 1 then 20 else if q = b then 9 else sT s q := fun q => by
    rw [eF, e1, setR_T, sT_new, x0, e0, sT_new, ← hb]
  have N : ∀ q, sN sF q = if q = b + 1 then n.toNat else if q = b then 2 else sN s q := fun q => by
    rw [eF, e1, setR_N, sN_new, x0, e0, sN_new, ← hb]
  have Rm : ∀ k, sR s1 b k = if k = 0 then b + 1 else 0 := fun k => by
    rw [e1, sR_setR, sR_new, x0, if_neg (show ¬ b = b + 1 by omega), e0, sR_new, ← hb, if_pos (rfl : b = b)]
    simp only [true_and]
  have R1 : ∀ k, sR s1 (b + 1) k = 0 := fun k => by
    rw [e1, sR_setR, if_neg (by omega), sR_new, x0, if_pos rfl]
  have I : ∀ q, sI s1 q = if q = b + 1 then (fun _ => nI 0) else if q = b then (fun _ => nI 0) else sI s q := fun q => by
    rw [e1, setR_I, sI_new, x0, e0, sI_new, ← hb]
  have J : ∀ q, sL s1 q = if q = b + 1 then (fun _ => lN 0) else if q = b then (fun _ => lN 0) else sL s q := fun q => by
    rw [e1, setR_L, sL_new, x0, e0, sL_new, ← hb]
  have g0 : Gr (fun q => q = b) s s0 := by rw [e0]; exact grn (by omega)
  have g1 : Gr (fun q => q = b) s0 s1 := by rw [e1]; exact (grn (by omega)).tr (gr_setR rfl)
  have gF : Gr (fun q => q = b) s1 sF := by rw [eF]; exact Gr.rf _ _
  have k1 : sT (newA s0 20 n.toNat) b = 9 := by rw [sT_new, x0, if_neg (by omega), e0, sT_new, ← hb, if_pos rfl]
  have w0 : nwA s0 20 (v n) = some (b + 1, newA s0 20 n.toNat) := by rw [← x0]; exact nwA_s (z := n) (by omega) (by omega)
  refine ⟨sF, ?_, ⟨⟨?_, ?_, ?_, ?_⟩, ?_, fun z hz => ?_⟩, Gr.fresh (((g0).tr g1).tr gF) hb (by omega), ?_, ?_⟩
  · rw [← e0, ← hb]
    have hm : (if nI 0 < v n then v n else nI 0) = v n := by
      rw [nv0]
      by_cases c : 0 < n
      · rw [if_pos (plt (by omega))]
      · rw [if_neg (nlt (by omega)), show n = 0 by omega]
    unfold f_Row_init
    rw [if_pos (show ¬ b = 0 by omega), hm, w0, Option.bind_some, if_pos k1, eF, e1]
  · rw [← hb, T, if_neg (by omega), if_pos rfl]
  · rw [← hb, eF, Rm]; rfl
  · rw [← hb, T, if_pos rfl]
  · rw [← hb, N, if_pos rfl]
  · rw [← hb, eF, I, if_neg (by omega), if_pos rfl]; rfl
  · rw [← hb, eF, I, if_pos rfl]; rfl
  · rw [eF, x1] <;> omega
  · rw [eF, e1, setR_Z, sZ_new, e0, sZ_new] <;> omega
theorem s_newMachine {s : AS} (h : sX s + 20 < 900000) (h1 : 1 ≤ sX s) : ∃ s', f_Machine_init (newA s 6 2) (sX s) = some s' ∧ (IsMc s' (sX s) ∧ WdR s' (sX s) (fun _ => 0)) ∧ Gr (fun _ => False) s s' ∧ sX s' = sX s + 3 ∧ sZ s' = sZ s + (86) := by
  obtain ⟨b, hb⟩ : ∃ b, b = sX s := ⟨_, rfl⟩
  obtain ⟨s0, e0⟩ : ∃ x, x = newA s 6 2 := ⟨_, rfl⟩
  have x0 : sX s0 = b + 1 := by rw [e0, sX_new, hb]
  obtain ⟨s1, e1⟩ : ∃ x, x = setR (newA s0 21 20) b 0 (b + 1) := ⟨_, rfl⟩
  have x1 : sX s1 = b + 2 := by rw [e1, setR_X, sX_new, x0]
  obtain ⟨s2, e2⟩ : ∃ x, x = setR (newA s1 21 64) b 1 (b + 2) := ⟨_, rfl⟩
  have x2 : sX s2 = b + 3 := by rw [e2, setR_X, sX_new, x1]
  obtain ⟨sF, eF⟩ : ∃ x, x = s2 := ⟨_, rfl⟩
  have T : ∀ q, sT sF q = if q = b + 2 then 21 else if q = b + 1 then 21 else if q = b then 6 else sT s q := fun q => by
    rw [eF, e2, setR_T, sT_new, x1, e1, setR_T, sT_new, x0, e0, sT_new, ← hb]
  have N : ∀ q, sN sF q = if q = b + 2 then 64 else if q = b + 1 then 20 else if q = b then 2 else sN s q := fun q => by
    rw [eF, e2, setR_N, sN_new, x1, e1, setR_N, sN_new, x0, e0, sN_new, ← hb]
  have Rm : ∀ k, sR s2 b k = if k = 1 then b + 2 else if k = 0 then b + 1 else 0 := fun k => by
    rw [e2, sR_setR, sR_new, x1, if_neg (show ¬ b = b + 2 by omega), e1, sR_setR, sR_new, x0, if_neg (show ¬ b = b + 1 by omega), e0, sR_new, ← hb, if_pos (rfl : b = b)]
    simp only [true_and]
  have R1 : ∀ k, sR s2 (b + 1) k = 0 := fun k => by
    rw [e2, sR_setR, if_neg (by omega), sR_new, x1, if_neg (by omega), e1, sR_setR, if_neg (by omega), sR_new, x0, if_pos rfl]
  have R2 : ∀ k, sR s2 (b + 2) k = 0 := fun k => by
    rw [e2, sR_setR, if_neg (by omega), sR_new, x1, if_pos rfl]
  have I : ∀ q, sI s2 q = if q = b + 2 then (fun _ => nI 0) else if q = b + 1 then (fun _ => nI 0) else if q = b then (fun _ => nI 0) else sI s q := fun q => by
    rw [e2, setR_I, sI_new, x1, e1, setR_I, sI_new, x0, e0, sI_new, ← hb]
  have J : ∀ q, sL s2 q = if q = b + 2 then (fun _ => lN 0) else if q = b + 1 then (fun _ => lN 0) else if q = b then (fun _ => lN 0) else sL s q := fun q => by
    rw [e2, setR_L, sL_new, x1, e1, setR_L, sL_new, x0, e0, sL_new, ← hb]
  have g0 : Gr (fun q => q = b) s s0 := by rw [e0]; exact grn (by omega)
  have g1 : Gr (fun q => q = b) s0 s1 := by rw [e1]; exact (grn (by omega)).tr (gr_setR rfl)
  have g2 : Gr (fun q => q = b) s1 s2 := by rw [e2]; exact (grn (by omega)).tr (gr_setR rfl)
  have gF : Gr (fun q => q = b) s2 sF := by rw [eF]; exact Gr.rf _ _
  have k1 : sT (newA s0 21 20) b = 6 := by rw [sT_new, x0, if_neg (by omega), e0, sT_new, ← hb, if_pos rfl]
  have w0 : nwA s0 21 (nI 20) = some (b + 1, newA s0 21 20) := by rw [← x0]; exact nwA_s (z := 20) (by omega) (by omega)
  have k2 : sT (newA s1 21 64) b = 6 := by rw [sT_new, x1, if_neg (by omega), e1, setR_T]; exact k1
  have w1 : nwA s1 21 (nI 64) = some (b + 2, newA s1 21 64) := by rw [← x1]; exact nwA_s (z := 64) (by omega) (by omega)
  refine ⟨sF, ?_, ⟨⟨?_, ⟨?_, ?_, ?_⟩, ?_, ?_, ?_⟩, fun z hz => ?_⟩, Gr.fresh ((((g0).tr g1).tr g2).tr gF) hb (by omega), ?_, ?_⟩
  · rw [← e0, ← hb]
    unfold f_Machine_init
    rw [if_pos (show ¬ b = 0 by omega), w0, Option.bind_some, if_pos k1]
    show (nwA (setR (newA s0 21 20) b 0 (b + 1)) 21 (nI 64)).bind _ = _
    rw [← e1, w1, Option.bind_some, if_pos k2, eF, e2]
  · rw [← hb, T, if_neg (by omega), if_neg (by omega), if_pos rfl]
  · rw [← hb, eF, Rm]; rfl
  · rw [← hb, T, if_neg (by omega), if_pos rfl]
  · rw [← hb, N, if_neg (by omega), if_pos rfl]
  · rw [← hb, eF, Rm]; rfl
  · rw [← hb, T, if_pos rfl]
  · rw [← hb, N, if_pos rfl]
  · rw [← hb, eF, J, if_neg (by omega), if_pos rfl]; rfl
  · rw [eF, x2] <;> omega
  · rw [eF, e2, setR_Z, sZ_new, e1, setR_Z, sZ_new, e0, sZ_new] <;> omega
theorem s_newLog {s : AS} (h : sX s + 20 < 900000) (h1 : 1 ≤ sX s) : ∃ s', f_Log_init (newA s 5 3) (sX s) = some s' ∧ (LogC s' (sX s) (fun _ => False) 0 []) ∧ Gr (fun _ => False) s s' ∧ sX s' = sX s + 3 ∧ sZ s' = sZ s + (35) := by
  obtain ⟨b, hb⟩ : ∃ b, b = sX s := ⟨_, rfl⟩
  obtain ⟨s0, e0⟩ : ∃ x, x = newA s 5 3 := ⟨_, rfl⟩
  have x0 : sX s0 = b + 1 := by rw [e0, sX_new, hb]
  obtain ⟨s1, e1⟩ : ∃ x, x = setR (newA s0 20 16) b 0 (b + 1) := ⟨_, rfl⟩
  have x1 : sX s1 = b + 2 := by rw [e1, setR_X, sX_new, x0]
  obtain ⟨s2, e2⟩ : ∃ x, x = setR (newA s1 46 16) b 1 (b + 2) := ⟨_, rfl⟩
  have x2 : sX s2 = b + 3 := by rw [e2, setR_X, sX_new, x1]
  obtain ⟨sF, eF⟩ : ∃ x, x = (setI s2 b 2 (v 0)) := ⟨_, rfl⟩
  have T : ∀ q, sT sF q = if q = b + 2 then 46 else if q = b + 1 then 20 else if q = b then 5 else sT s q := fun q => by
    rw [eF, setI_T, e2, setR_T, sT_new, x1, e1, setR_T, sT_new, x0, e0, sT_new, ← hb]
  have N : ∀ q, sN sF q = if q = b + 2 then 16 else if q = b + 1 then 16 else if q = b then 3 else sN s q := fun q => by
    rw [eF, setI_N, e2, setR_N, sN_new, x1, e1, setR_N, sN_new, x0, e0, sN_new, ← hb]
  have Rm : ∀ k, sR s2 b k = if k = 1 then b + 2 else if k = 0 then b + 1 else 0 := fun k => by
    rw [e2, sR_setR, sR_new, x1, if_neg (show ¬ b = b + 2 by omega), e1, sR_setR, sR_new, x0, if_neg (show ¬ b = b + 1 by omega), e0, sR_new, ← hb, if_pos (rfl : b = b)]
    simp only [true_and]
  have R1 : ∀ k, sR s2 (b + 1) k = 0 := fun k => by
    rw [e2, sR_setR, if_neg (by omega), sR_new, x1, if_neg (by omega), e1, sR_setR, if_neg (by omega), sR_new, x0, if_pos rfl]
  have R2 : ∀ k, sR s2 (b + 2) k = 0 := fun k => by
    rw [e2, sR_setR, if_neg (by omega), sR_new, x1, if_pos rfl]
  have I : ∀ q, sI s2 q = if q = b + 2 then (fun _ => nI 0) else if q = b + 1 then (fun _ => nI 0) else if q = b then (fun _ => nI 0) else sI s q := fun q => by
    rw [e2, setR_I, sI_new, x1, e1, setR_I, sI_new, x0, e0, sI_new, ← hb]
  have J : ∀ q, sL s2 q = if q = b + 2 then (fun _ => lN 0) else if q = b + 1 then (fun _ => lN 0) else if q = b then (fun _ => lN 0) else sL s q := fun q => by
    rw [e2, setR_L, sL_new, x1, e1, setR_L, sL_new, x0, e0, sL_new, ← hb]
  have g0 : Gr (fun q => q = b) s s0 := by rw [e0]; exact grn (by omega)
  have g1 : Gr (fun q => q = b) s0 s1 := by rw [e1]; exact (grn (by omega)).tr (gr_setR rfl)
  have g2 : Gr (fun q => q = b) s1 s2 := by rw [e2]; exact (grn (by omega)).tr (gr_setR rfl)
  have gF : Gr (fun q => q = b) s2 sF := by rw [eF]; exact (Fr.si (F := fun q => q = b) rfl).gr
  have k1 : sT (newA s0 20 16) b = 5 := by rw [sT_new, x0, if_neg (by omega), e0, sT_new, ← hb, if_pos rfl]
  have w0 : nwA s0 20 (nI 16) = some (b + 1, newA s0 20 16) := by rw [← x0]; exact nwA_s (z := 16) (by omega) (by omega)
  have k2 : sT (newA s1 46 16) b = 5 := by rw [sT_new, x1, if_neg (by omega), e1, setR_T]; exact k1
  have w1 : nwA s1 46 (nI 16) = some (b + 2, newA s1 46 16) := by rw [← x1]; exact nwA_s (z := 16) (by omega) (by omega)
  refine ⟨sF, ?_, ⟨fun _ => 0, ⟨?_, ⟨?_, ?_⟩, ⟨?_, ?_⟩, ?_, ?_⟩, ?_, ⟨Nat.zero_le _, by decide⟩, fun i hi => ?_, fun i hi => absurd hi (Nat.not_lt_zero i), fun i j hi => absurd hi (Nat.not_lt_zero i), fun i x hx => by simp at hx⟩, Gr.fresh ((((g0).tr g1).tr g2).tr gF) hb (by omega), ?_, ?_⟩
  · rw [← e0, ← hb]
    unfold f_Log_init
    rw [if_pos (show ¬ b = 0 by omega), w0, Option.bind_some, if_pos k1]
    show (nwA (setR (newA s0 20 16) b 0 (b + 1)) 46 (nI 16)).bind _ = _
    rw [← e1, w1, Option.bind_some, if_pos k2, nv0, eF, e2]
  · rw [← hb, T, if_neg (by omega), if_neg (by omega), if_pos rfl]
  · rw [← hb, eF, setI_R, Rm]; rfl
  · rw [← hb, eF, setI_R, Rm]; rfl
  · rw [← hb, T, if_neg (by omega), if_pos rfl]
  · rw [← hb, N, if_neg (by omega), if_pos rfl]
  · rw [← hb, T, if_pos rfl]
  · rw [← hb, N, if_pos rfl]
  · rw [← hb, eF, sI_setI, if_pos ⟨rfl, rfl⟩]; rfl
  · rw [← hb, eF, setI_R, R2, if_neg (Nat.not_lt_zero i)]
  · rw [eF, setI_X, x2] <;> omega
  · rw [eF, setI_Z, e2, setR_Z, sZ_new, e1, setR_Z, sZ_new, e0, sZ_new] <;> omega
theorem s_newCalendar {s : AS} (h : sX s + 20 < 900000) (h1 : 1 ≤ sX s) (h71 : sX s = 71) : ∃ s', f_Calendar_init (newA s 2 7) (sX s) 39 6 = some s' ∧ (ClC s' none) ∧ Gr (fun _ => False) s s' ∧ sX s' = sX s + 4 ∧ sZ s' = sZ s + (31) := by
  obtain ⟨b, hb⟩ : ∃ b, b = sX s := ⟨_, rfl⟩
  obtain ⟨s0, e0⟩ : ∃ x, x = newA s 2 7 := ⟨_, rfl⟩
  have x0 : sX s0 = b + 1 := by rw [e0, sX_new, hb]
  obtain ⟨s1, e1⟩ : ∃ x, x = setR (newA s0 20 8) b 2 (b + 1) := ⟨_, rfl⟩
  have x1 : sX s1 = b + 2 := by rw [e1, setR_X, sX_new, x0]
  obtain ⟨s2, e2⟩ : ∃ x, x = setR (newA s1 20 8) b 3 (b + 2) := ⟨_, rfl⟩
  have x2 : sX s2 = b + 3 := by rw [e2, setR_X, sX_new, x1]
  obtain ⟨s3, e3⟩ : ∃ x, x = setR (newA s2 20 8) b 4 (b + 3) := ⟨_, rfl⟩
  have x3 : sX s3 = b + 4 := by rw [e3, setR_X, sX_new, x2]
  obtain ⟨sF, eF⟩ : ∃ x, x = (setR (setR (setI (setI s3 b 5 (v 0)) b 6 (v 0)) b 0 39) b 1 6) := ⟨_, rfl⟩
  have T : ∀ q, sT sF q = if q = b + 3 then 20 else if q = b + 2 then 20 else if q = b + 1 then 20 else if q = b then 2 else sT s q := fun q => by
    rw [eF, setR_T, setR_T, setI_T, setI_T, e3, setR_T, sT_new, x2, e2, setR_T, sT_new, x1, e1, setR_T, sT_new, x0, e0, sT_new, ← hb]
  have N : ∀ q, sN sF q = if q = b + 3 then 8 else if q = b + 2 then 8 else if q = b + 1 then 8 else if q = b then 7 else sN s q := fun q => by
    rw [eF, setR_N, setR_N, setI_N, setI_N, e3, setR_N, sN_new, x2, e2, setR_N, sN_new, x1, e1, setR_N, sN_new, x0, e0, sN_new, ← hb]
  have Rm : ∀ k, sR s3 b k = if k = 4 then b + 3 else if k = 3 then b + 2 else if k = 2 then b + 1 else 0 := fun k => by
    rw [e3, sR_setR, sR_new, x2, if_neg (show ¬ b = b + 3 by omega), e2, sR_setR, sR_new, x1, if_neg (show ¬ b = b + 2 by omega), e1, sR_setR, sR_new, x0, if_neg (show ¬ b = b + 1 by omega), e0, sR_new, ← hb, if_pos (rfl : b = b)]
    simp only [true_and]
  have R1 : ∀ k, sR s3 (b + 1) k = 0 := fun k => by
    rw [e3, sR_setR, if_neg (by omega), sR_new, x2, if_neg (by omega), e2, sR_setR, if_neg (by omega), sR_new, x1, if_neg (by omega), e1, sR_setR, if_neg (by omega), sR_new, x0, if_pos rfl]
  have R2 : ∀ k, sR s3 (b + 2) k = 0 := fun k => by
    rw [e3, sR_setR, if_neg (by omega), sR_new, x2, if_neg (by omega), e2, sR_setR, if_neg (by omega), sR_new, x1, if_pos rfl]
  have R3 : ∀ k, sR s3 (b + 3) k = 0 := fun k => by
    rw [e3, sR_setR, if_neg (by omega), sR_new, x2, if_pos rfl]
  have I : ∀ q, sI s3 q = if q = b + 3 then (fun _ => nI 0) else if q = b + 2 then (fun _ => nI 0) else if q = b + 1 then (fun _ => nI 0) else if q = b then (fun _ => nI 0) else sI s q := fun q => by
    rw [e3, setR_I, sI_new, x2, e2, setR_I, sI_new, x1, e1, setR_I, sI_new, x0, e0, sI_new, ← hb]
  have J : ∀ q, sL s3 q = if q = b + 3 then (fun _ => lN 0) else if q = b + 2 then (fun _ => lN 0) else if q = b + 1 then (fun _ => lN 0) else if q = b then (fun _ => lN 0) else sL s q := fun q => by
    rw [e3, setR_L, sL_new, x2, e2, setR_L, sL_new, x1, e1, setR_L, sL_new, x0, e0, sL_new, ← hb]
  have g0 : Gr (fun q => q = b) s s0 := by rw [e0]; exact grn (by omega)
  have g1 : Gr (fun q => q = b) s0 s1 := by rw [e1]; exact (grn (by omega)).tr (gr_setR rfl)
  have g2 : Gr (fun q => q = b) s1 s2 := by rw [e2]; exact (grn (by omega)).tr (gr_setR rfl)
  have g3 : Gr (fun q => q = b) s2 s3 := by rw [e3]; exact (grn (by omega)).tr (gr_setR rfl)
  have gF : Gr (fun q => q = b) s3 sF := by rw [eF]; exact ((((Fr.si (F := fun q => q = b) rfl).gr).tr ((Fr.si (F := fun q => q = b) rfl).gr)).tr (gr_setR (F := fun q => q = b) rfl)).tr (gr_setR (F := fun q => q = b) rfl)
  have k1 : sT (newA s0 20 8) b = 2 := by rw [sT_new, x0, if_neg (by omega), e0, sT_new, ← hb, if_pos rfl]
  have w0 : nwA s0 20 (nI 8) = some (b + 1, newA s0 20 8) := by rw [← x0]; exact nwA_s (z := 8) (by omega) (by omega)
  have k2 : sT (newA s1 20 8) b = 2 := by rw [sT_new, x1, if_neg (by omega), e1, setR_T]; exact k1
  have w1 : nwA s1 20 (nI 8) = some (b + 2, newA s1 20 8) := by rw [← x1]; exact nwA_s (z := 8) (by omega) (by omega)
  have k3 : sT (newA s2 20 8) b = 2 := by rw [sT_new, x2, if_neg (by omega), e2, setR_T]; exact k2
  have w2 : nwA s2 20 (nI 8) = some (b + 3, newA s2 20 8) := by rw [← x2]; exact nwA_s (z := 8) (by omega) (by omega)
  refine ⟨sF, ?_, ⟨?_, ⟨?_, ?_, ?_, ?_, ?_⟩, ⟨⟨?_, ?_⟩, ⟨?_, ?_⟩, ?_, ?_⟩, ?_⟩, Gr.fresh (((((g0).tr g1).tr g2).tr g3).tr gF) hb (by omega), ?_, ?_⟩
  · rw [← e0, ← hb]
    unfold f_Calendar_init
    rw [if_pos (show ¬ b = 0 by omega), w0, Option.bind_some, if_pos k1]
    show (nwA (setR (newA s0 20 8) b 2 (b + 1)) 20 (nI 8)).bind _ = _
    rw [← e1, w1, Option.bind_some, if_pos k2]
    show (nwA (setR (newA s1 20 8) b 3 (b + 2)) 20 (nI 8)).bind _ = _
    rw [← e2, w2, Option.bind_some, if_pos k3, nv0, nv1, if_pos (show sT (newA s2 20 8) b = 2 ∧ (v 0 = v 0 ∨ v 0 = v 1) from ⟨k3, Or.inl rfl⟩), eF, e3]
  · rw [h71] at hb; subst hb; exact (T 71).trans rfl
  · rw [h71] at hb; subst hb; rw [eF, sR_setR, if_neg (by decide), sR_setR, if_pos ⟨rfl, rfl⟩]
  · rw [h71] at hb; subst hb; rw [eF, sR_setR, if_pos ⟨rfl, rfl⟩]
  · rw [h71] at hb; subst hb; rw [eF, sR_setR, if_neg (by decide), sR_setR, if_neg (by decide), setI_R, setI_R, Rm]; rfl
  · rw [h71] at hb; subst hb; rw [eF, sR_setR, if_neg (by decide), sR_setR, if_neg (by decide), setI_R, setI_R, Rm]; rfl
  · rw [h71] at hb; subst hb; rw [eF, sR_setR, if_neg (by decide), sR_setR, if_neg (by decide), setI_R, setI_R, Rm]; rfl
  · rw [h71] at hb; subst hb; exact (T 72).trans rfl
  · rw [h71] at hb; subst hb; exact (N 72).trans rfl
  · rw [h71] at hb; subst hb; exact (T 73).trans rfl
  · rw [h71] at hb; subst hb; exact (N 73).trans rfl
  · rw [h71] at hb; subst hb; exact (T 74).trans rfl
  · rw [h71] at hb; subst hb; exact (N 74).trans rfl
  · show sI sF 71 5 = v 0; rw [h71] at hb; subst hb; rw [eF, setR_I, setR_I, sI_setI, if_neg (by decide), sI_setI, if_pos ⟨rfl, rfl⟩]
  · rw [eF, setR_X, setR_X, setI_X, setI_X, x3] <;> omega
  · rw [eF, setR_Z, setR_Z, setI_Z, setI_Z, e3, setR_Z, sZ_new, e2, setR_Z, sZ_new, e1, setR_Z, sZ_new, e0, sZ_new] <;> omega
