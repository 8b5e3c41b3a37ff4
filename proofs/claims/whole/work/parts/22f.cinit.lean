/-! THE CLASS'S OBJECT IS MADE (gen22f.py) -/
/-- all but how the places are shared out -/
def Rep0 (s : AS) : Prop := ObC s ∧ (sI s 1 14 = v (-1) ∧ sI s 1 15 = v 0) ∧ RwR s 2 400 (fun _ => 0) 0 ∧ RwR s 4 200 (fun _ => 0) 0 ∧ (∃ B n, RwR s 6 200 B n) ∧ (IsRd s 8 ∧ sI s 8 7 = v (-1)) ∧ (IsMc s 15 ∧ ∃ W, WdR s 15 W ∧ ∀ z, 0 ≤ z → z < 20 → stB (W z)) ∧ SetC s 18 bareSe (fun _ => False) ∧ DkO s 21 bareP ∧ (∃ Q, DkO s 39 Q) ∧ LogC s 57 (fun _ => False) 0 [] ∧ (∃ LG2, LogC s 61 (fun _ => False) 0 LG2 ∧ LG2.length ≤ 16) ∧ RnC s ∧ ClC s none ∧ ImC s (fun _ => none) (fun _ => False) (fun _ => False) ∧ (sT s 76 = 21 ∧ sN s 76 = 20) ∧ (sT s 77 = 20 ∧ sN s 77 = 5 ∧ ∀ z : Int, 0 ≤ z ∧ z < 5 → sI s 77 z.toNat = v 0)
set_option maxHeartbeats 4000000 in
theorem c_init {s : AS} (hs : sX s = 1 ∧ sZ s = 0) : ∃ F, f_C_init (newA s 1 16) 1 = some F ∧ Rep0 F ∧ sX F = 78 ∧ sZ F ≤ 40000 ∧ ∀ q, 900000 ≤ q → EqA s F q := by
  obtain ⟨T0, eT0⟩ : ∃ x, x = newA s 1 16 := ⟨_, rfl⟩
  have X0 : sX T0 = 2 := by rw [eT0, sX_new, hs.1]
  have Z0 : sZ T0 = 16 := by rw [eT0, sZ_new, hs.2]
  have K0 : sT T0 1 = 1 := by rw [eT0, sT_new, hs.1, if_pos rfl]
  have R0 : ∀ k, sR T0 1 k = 0 := fun k => by rw [eT0, sR_new, hs.1, if_pos rfl]
  have G0 : Gr (fun q => q = 1) s T0 := by rw [eT0]; exact grn (by omega)
  obtain ⟨U0, q0, f0, g0, x0, z0⟩ := s_newRow (s := T0) (n := 400) (by omega) (by omega) (by omega)
  rw [X0] at q0 f0 x0
  have c0 : EqA T0 U0 1 := g0.1 1 (Or.inl (by omega)) (fun d => d)
  have k0 : sT U0 1 = 1 := by rw [c0.1]; exact K0
  obtain ⟨T1, eT1⟩ : ∃ x, x = setR U0 1 0 2 := ⟨_, rfl⟩
  have X1 : sX T1 = 4 := by rw [eT1, setR_X, x0]
  have Z1 : sZ T1 ≤ sZ T0 + 2000 := by rw [eT1, setR_Z, z0]; show sZ T0 + (2 + (400 : Int).toNat) ≤ _; omega
  have K1 : sT T1 1 = 1 := by rw [eT1, setR_T]; exact k0
  have R1 : ∀ k, sR T1 1 k = if k = 0 then 2 else 0 := fun k => by
    rw [eT1, sR_setR, c0.2.2.1, R0]
    simp only [true_and]
  have w0 : nwO T0 9 2 = some (2, newA T0 9 2) := by rw [nwO_s (by omega), X0]
  obtain ⟨U1, q1, f1, g1, x1, z1⟩ := s_newRow (s := T1) (n := 200) (by omega) (by omega) (by omega)
  rw [X1] at q1 f1 x1
  have c1 : EqA T1 U1 1 := g1.1 1 (Or.inl (by omega)) (fun d => d)
  have k1 : sT U1 1 = 1 := by rw [c1.1]; exact K1
  obtain ⟨T2, eT2⟩ : ∃ x, x = setR U1 1 1 4 := ⟨_, rfl⟩
  have X2 : sX T2 = 6 := by rw [eT2, setR_X, x1]
  have Z2 : sZ T2 ≤ sZ T1 + 2000 := by rw [eT2, setR_Z, z1]; show sZ T1 + (2 + (200 : Int).toNat) ≤ _; omega
  have K2 : sT T2 1 = 1 := by rw [eT2, setR_T]; exact k1
  have R2 : ∀ k, sR T2 1 k = if k = 1 then 4 else if k = 0 then 2 else 0 := fun k => by
    rw [eT2, sR_setR, c1.2.2.1, R1]
    simp only [true_and]
  have w1 : nwO T1 9 2 = some (4, newA T1 9 2) := by rw [nwO_s (by omega), X1]
  obtain ⟨U2, q2, f2, g2, x2, z2⟩ := s_newRow (s := T2) (n := 200) (by omega) (by omega) (by omega)
  rw [X2] at q2 f2 x2
  have c2 : EqA T2 U2 1 := g2.1 1 (Or.inl (by omega)) (fun d => d)
  have k2 : sT U2 1 = 1 := by rw [c2.1]; exact K2
  obtain ⟨T3, eT3⟩ : ∃ x, x = setR U2 1 2 6 := ⟨_, rfl⟩
  have X3 : sX T3 = 8 := by rw [eT3, setR_X, x2]
  have Z3 : sZ T3 ≤ sZ T2 + 2000 := by rw [eT3, setR_Z, z2]; show sZ T2 + (2 + (200 : Int).toNat) ≤ _; omega
  have K3 : sT T3 1 = 1 := by rw [eT3, setR_T]; exact k2
  have R3 : ∀ k, sR T3 1 k = if k = 2 then 6 else if k = 1 then 4 else if k = 0 then 2 else 0 := fun k => by
    rw [eT3, sR_setR, c2.2.2.1, R2]
    simp only [true_and]
  have w2 : nwO T2 9 2 = some (6, newA T2 9 2) := by rw [nwO_s (by omega), X2]
  obtain ⟨U3, q3, f3, g3, x3, z3⟩ := s_newReader (s := T3) (by omega) (by omega)
  rw [X3] at q3 f3 x3
  have c3 : EqA T3 U3 1 := g3.1 1 (Or.inl (by omega)) (fun d => d)
  have k3 : sT U3 1 = 1 := by rw [c3.1]; exact K3
  obtain ⟨T4, eT4⟩ : ∃ x, x = setR U3 1 3 8 := ⟨_, rfl⟩
  have X4 : sX T4 = 15 := by rw [eT4, setR_X, x3]
  have Z4 : sZ T4 ≤ sZ T3 + 2000 := by rw [eT4, setR_Z, z3]; omega
  have K4 : sT T4 1 = 1 := by rw [eT4, setR_T]; exact k3
  have R4 : ∀ k, sR T4 1 k = if k = 3 then 8 else if k = 2 then 6 else if k = 1 then 4 else if k = 0 then 2 else 0 := fun k => by
    rw [eT4, sR_setR, c3.2.2.1, R3]
    simp only [true_and]
  have w3 : nwO T3 8 8 = some (8, newA T3 8 8) := by rw [nwO_s (by omega), X3]
  obtain ⟨U4, q4, f4, g4, x4, z4⟩ := s_newMachine (s := T4) (by omega) (by omega)
  rw [X4] at q4 f4 x4
  have c4 : EqA T4 U4 1 := g4.1 1 (Or.inl (by omega)) (fun d => d)
  have k4 : sT U4 1 = 1 := by rw [c4.1]; exact K4
  obtain ⟨T5, eT5⟩ : ∃ x, x = setR U4 1 4 15 := ⟨_, rfl⟩
  have X5 : sX T5 = 18 := by rw [eT5, setR_X, x4]
  have Z5 : sZ T5 ≤ sZ T4 + 2000 := by rw [eT5, setR_Z, z4]; omega
  have K5 : sT T5 1 = 1 := by rw [eT5, setR_T]; exact k4
  have R5 : ∀ k, sR T5 1 k = if k = 4 then 15 else if k = 3 then 8 else if k = 2 then 6 else if k = 1 then 4 else if k = 0 then 2 else 0 := fun k => by
    rw [eT5, sR_setR, c4.2.2.1, R4]
    simp only [true_and]
  have w4 : nwO T4 6 2 = some (15, newA T4 6 2) := by rw [nwO_s (by omega), X4]
  obtain ⟨U5, q5, f5, g5, x5, z5⟩ := s_newSetting (s := T5) (DL := fun _ => False) (by omega) (by omega)
  rw [X5] at q5 f5 x5
  have c5 : EqA T5 U5 1 := g5.1 1 (Or.inl (by omega)) (fun d => d)
  have k5 : sT U5 1 = 1 := by rw [c5.1]; exact K5
  obtain ⟨T6, eT6⟩ : ∃ x, x = setR U5 1 5 18 := ⟨_, rfl⟩
  have X6 : sX T6 = 21 := by rw [eT6, setR_X, x5]
  have Z6 : sZ T6 ≤ sZ T5 + 2000 := by rw [eT6, setR_Z, z5]; omega
  have K6 : sT T6 1 = 1 := by rw [eT6, setR_T]; exact k5
  have R6 : ∀ k, sR T6 1 k = if k = 5 then 18 else if k = 4 then 15 else if k = 3 then 8 else if k = 2 then 6 else if k = 1 then 4 else if k = 0 then 2 else 0 := fun k => by
    rw [eT6, sR_setR, c5.2.2.1, R5]
    simp only [true_and]
  have w5 : nwO T5 11 4 = some (18, newA T5 11 4) := by rw [nwO_s (by omega), X5]
  obtain ⟨U6, q6, f6, g6, x6, z6⟩ := s_newDesk (s := T6) (by omega) (by omega)
  rw [X6] at q6 f6 x6
  have c6 : EqA T6 U6 1 := g6.1 1 (Or.inl (by omega)) (fun d => d)
  have k6 : sT U6 1 = 1 := by rw [c6.1]; exact K6
  obtain ⟨T7, eT7⟩ : ∃ x, x = setR U6 1 6 21 := ⟨_, rfl⟩
  have X7 : sX T7 = 39 := by rw [eT7, setR_X, x6]
  have Z7 : sZ T7 ≤ sZ T6 + 2000 := by rw [eT7, setR_Z, z6]; omega
  have K7 : sT T7 1 = 1 := by rw [eT7, setR_T]; exact k6
  have R7 : ∀ k, sR T7 1 k = if k = 6 then 21 else if k = 5 then 18 else if k = 4 then 15 else if k = 3 then 8 else if k = 2 then 6 else if k = 1 then 4 else if k = 0 then 2 else 0 := fun k => by
    rw [eT7, sR_setR, c6.2.2.1, R6]
    simp only [true_and]
  have w6 : nwO T6 3 7 = some (21, newA T6 3 7) := by rw [nwO_s (by omega), X6]
  obtain ⟨U7, q7, f7, g7, x7, z7⟩ := s_newDesk (s := T7) (by omega) (by omega)
  rw [X7] at q7 f7 x7
  have c7 : EqA T7 U7 1 := g7.1 1 (Or.inl (by omega)) (fun d => d)
  have k7 : sT U7 1 = 1 := by rw [c7.1]; exact K7
  obtain ⟨T8, eT8⟩ : ∃ x, x = setR U7 1 7 39 := ⟨_, rfl⟩
  have X8 : sX T8 = 57 := by rw [eT8, setR_X, x7]
  have Z8 : sZ T8 ≤ sZ T7 + 2000 := by rw [eT8, setR_Z, z7]; omega
  have K8 : sT T8 1 = 1 := by rw [eT8, setR_T]; exact k7
  have R8 : ∀ k, sR T8 1 k = if k = 7 then 39 else if k = 6 then 21 else if k = 5 then 18 else if k = 4 then 15 else if k = 3 then 8 else if k = 2 then 6 else if k = 1 then 4 else if k = 0 then 2 else 0 := fun k => by
    rw [eT8, sR_setR, c7.2.2.1, R7]
    simp only [true_and]
  have w7 : nwO T7 3 7 = some (39, newA T7 3 7) := by rw [nwO_s (by omega), X7]
  obtain ⟨U8, q8, f8, g8, x8, z8⟩ := s_newLog (s := T8) (by omega) (by omega)
  rw [X8] at q8 f8 x8
  have c8 : EqA T8 U8 1 := g8.1 1 (Or.inl (by omega)) (fun d => d)
  have k8 : sT U8 1 = 1 := by rw [c8.1]; exact K8
  obtain ⟨T9, eT9⟩ : ∃ x, x = setR U8 1 8 57 := ⟨_, rfl⟩
  have X9 : sX T9 = 60 := by rw [eT9, setR_X, x8]
  have Z9 : sZ T9 ≤ sZ T8 + 2000 := by rw [eT9, setR_Z, z8]; omega
  have K9 : sT T9 1 = 1 := by rw [eT9, setR_T]; exact k8
  have R9 : ∀ k, sR T9 1 k = if k = 8 then 57 else if k = 7 then 39 else if k = 6 then 21 else if k = 5 then 18 else if k = 4 then 15 else if k = 3 then 8 else if k = 2 then 6 else if k = 1 then 4 else if k = 0 then 2 else 0 := fun k => by
    rw [eT9, sR_setR, c8.2.2.1, R8]
    simp only [true_and]
  have w8 : nwO T8 5 3 = some (57, newA T8 5 3) := by rw [nwO_s (by omega), X8]
  obtain ⟨U9, q9, f9, g9, x9, z9⟩ := s_newRunner (s := T9) (by omega)
  have c9 : EqA T9 U9 1 := g9.1 1 (Or.inl (by omega)) (fun d => d)
  have k9 : sT U9 1 = 1 := by rw [c9.1]; exact K9
  obtain ⟨T10, eT10⟩ : ∃ x, x = setR U9 1 9 60 := ⟨_, rfl⟩
  have X10 : sX T10 = 71 := by rw [eT10, setR_X, x9]
  have Z10 : sZ T10 ≤ sZ T9 + 2000 := by rw [eT10, setR_Z, z9]; omega
  have K10 : sT T10 1 = 1 := by rw [eT10, setR_T]; exact k9
  have R10 : ∀ k, sR T10 1 k = if k = 9 then 60 else if k = 8 then 57 else if k = 7 then 39 else if k = 6 then 21 else if k = 5 then 18 else if k = 4 then 15 else if k = 3 then 8 else if k = 2 then 6 else if k = 1 then 4 else if k = 0 then 2 else 0 := fun k => by
    rw [eT10, sR_setR, c9.2.2.1, R9]
    simp only [true_and]
  have w9 : nwO T9 10 7 = some (60, newA T9 10 7) := by rw [nwO_s (by omega), X9]
  obtain ⟨U10, q10, f10, g10, x10, z10⟩ := s_newCalendar (s := T10) (by omega) (by omega) (by omega)
  rw [X10] at q10 x10
  have c10 : EqA T10 U10 1 := g10.1 1 (Or.inl (by omega)) (fun d => d)
  have k10 : sT U10 1 = 1 := by rw [c10.1]; exact K10
  obtain ⟨T11, eT11⟩ : ∃ x, x = setR U10 1 10 71 := ⟨_, rfl⟩
  have X11 : sX T11 = 75 := by rw [eT11, setR_X, x10]
  have Z11 : sZ T11 ≤ sZ T10 + 2000 := by rw [eT11, setR_Z, z10]; omega
  have K11 : sT T11 1 = 1 := by rw [eT11, setR_T]; exact k10
  have R11 : ∀ k, sR T11 1 k = if k = 10 then 71 else if k = 9 then 60 else if k = 8 then 57 else if k = 7 then 39 else if k = 6 then 21 else if k = 5 then 18 else if k = 4 then 15 else if k = 3 then 8 else if k = 2 then 6 else if k = 1 then 4 else if k = 0 then 2 else 0 := fun k => by
    rw [eT11, sR_setR, c10.2.2.1, R10]
    simp only [true_and]
  have w10 : nwO T10 2 7 = some (71, newA T10 2 7) := by rw [nwO_s (by omega), X10]
  obtain ⟨T12, eT12⟩ : ∃ x, x = setR (newA T11 43 2) 1 11 75 := ⟨_, rfl⟩
  have X12 : sX T12 = 76 := by rw [eT12, setR_X, sX_new, X11]
  have Z12 : sZ T12 ≤ sZ T11 + 2000 := by rw [eT12, setR_Z, sZ_new]; omega
  have k11 : sT (newA T11 43 2) 1 = 1 := by rw [sT_new, X11, if_neg (by decide)]; exact K11
  have K12 : sT T12 1 = 1 := by rw [eT12, setR_T]; exact k11
  have R12 : ∀ k, sR T12 1 k = if k = 11 then 75 else if k = 10 then 71 else if k = 9 then 60 else if k = 8 then 57 else if k = 7 then 39 else if k = 6 then 21 else if k = 5 then 18 else if k = 4 then 15 else if k = 3 then 8 else if k = 2 then 6 else if k = 1 then 4 else if k = 0 then 2 else 0 := fun k => by
    rw [eT12, sR_setR, sR_new, X11, if_neg (show ¬ (1 : Nat) = 75 by decide), R11]
    simp only [true_and]
  have w11 : nwA T11 43 (nI 2) = some (75, newA T11 43 2) := by rw [← X11]; exact nwA_s (z := 2) (by omega) (by omega)
  obtain ⟨T13, eT13⟩ : ∃ x, x = setR (newA T12 21 20) 1 12 76 := ⟨_, rfl⟩
  have X13 : sX T13 = 77 := by rw [eT13, setR_X, sX_new, X12]
  have Z13 : sZ T13 ≤ sZ T12 + 2000 := by rw [eT13, setR_Z, sZ_new]; omega
  have k12 : sT (newA T12 21 20) 1 = 1 := by rw [sT_new, X12, if_neg (by decide)]; exact K12
  have K13 : sT T13 1 = 1 := by rw [eT13, setR_T]; exact k12
  have R13 : ∀ k, sR T13 1 k = if k = 12 then 76 else if k = 11 then 75 else if k = 10 then 71 else if k = 9 then 60 else if k = 8 then 57 else if k = 7 then 39 else if k = 6 then 21 else if k = 5 then 18 else if k = 4 then 15 else if k = 3 then 8 else if k = 2 then 6 else if k = 1 then 4 else if k = 0 then 2 else 0 := fun k => by
    rw [eT13, sR_setR, sR_new, X12, if_neg (show ¬ (1 : Nat) = 76 by decide), R12]
    simp only [true_and]
  have w12 : nwA T12 21 (nI 20) = some (76, newA T12 21 20) := by rw [← X12]; exact nwA_s (z := 20) (by omega) (by omega)
  obtain ⟨T14, eT14⟩ : ∃ x, x = setR (newA T13 20 5) 1 13 77 := ⟨_, rfl⟩
  have X14 : sX T14 = 78 := by rw [eT14, setR_X, sX_new, X13]
  have Z14 : sZ T14 ≤ sZ T13 + 2000 := by rw [eT14, setR_Z, sZ_new]; omega
  have k13 : sT (newA T13 20 5) 1 = 1 := by rw [sT_new, X13, if_neg (by decide)]; exact K13
  have K14 : sT T14 1 = 1 := by rw [eT14, setR_T]; exact k13
  have R14 : ∀ k, sR T14 1 k = if k = 13 then 77 else if k = 12 then 76 else if k = 11 then 75 else if k = 10 then 71 else if k = 9 then 60 else if k = 8 then 57 else if k = 7 then 39 else if k = 6 then 21 else if k = 5 then 18 else if k = 4 then 15 else if k = 3 then 8 else if k = 2 then 6 else if k = 1 then 4 else if k = 0 then 2 else 0 := fun k => by
    rw [eT14, sR_setR, sR_new, X13, if_neg (show ¬ (1 : Nat) = 77 by decide), R13]
    simp only [true_and]
  have w13 : nwA T13 20 (nI 5) = some (77, newA T13 20 5) := by rw [← X13]; exact nwA_s (z := 5) (by omega) (by omega)
  obtain ⟨F, eF⟩ : ∃ x, x = setI (setI T14 1 14 (v (-1))) 1 15 (v 0) := ⟨_, rfl⟩
  have XF : sX F = 78 := by rw [eF, setI_X, setI_X, X14]
  have RF : ∀ k, sR F 1 k = if k = 13 then 77 else if k = 12 then 76 else if k = 11 then 75 else if k = 10 then 71 else if k = 9 then 60 else if k = 8 then 57 else if k = 7 then 39 else if k = 6 then 21 else if k = 5 then 18 else if k = 4 then 15 else if k = 3 then 8 else if k = 2 then 6 else if k = 1 then 4 else if k = 0 then 2 else 0 := fun k => by rw [eF, setI_R, setI_R, R14]
  have H14 : Gr (fun q => q = 1) T14 F := by rw [eF]; exact ((Fr.si (F := fun q => q = 1) rfl).tr (Fr.si rfl)).gr
  have H13 : Gr (fun q => q = 1) T13 F := by have : Gr (fun q => q = 1) T13 T14 := by { rw [eT14]; exact (grn (by omega)).tr (gr_setR rfl) }; exact this.tr H14
  have H12 : Gr (fun q => q = 1) T12 F := by have : Gr (fun q => q = 1) T12 T13 := by { rw [eT13]; exact (grn (by omega)).tr (gr_setR rfl) }; exact this.tr H13
  have H11 : Gr (fun q => q = 1) T11 F := by have : Gr (fun q => q = 1) T11 T12 := by { rw [eT12]; exact (grn (by omega)).tr (gr_setR rfl) }; exact this.tr H12
  have J10 : Gr (fun q => q = 1) U10 F := by have : Gr (fun q => q = 1) U10 T11 := by { rw [eT11]; exact gr_setR rfl }; exact this.tr H11
  have H10 : Gr (fun q => q = 1) T10 F := (g10.mo (fun q d => d.elim)).tr J10
  have J9 : Gr (fun q => q = 1) U9 F := by have : Gr (fun q => q = 1) U9 T10 := by { rw [eT10]; exact gr_setR rfl }; exact this.tr H10
  have H9 : Gr (fun q => q = 1) T9 F := (g9.mo (fun q d => d.elim)).tr J9
  have J8 : Gr (fun q => q = 1) U8 F := by have : Gr (fun q => q = 1) U8 T9 := by { rw [eT9]; exact gr_setR rfl }; exact this.tr H9
  have H8 : Gr (fun q => q = 1) T8 F := (g8.mo (fun q d => d.elim)).tr J8
  have J7 : Gr (fun q => q = 1) U7 F := by have : Gr (fun q => q = 1) U7 T8 := by { rw [eT8]; exact gr_setR rfl }; exact this.tr H8
  have H7 : Gr (fun q => q = 1) T7 F := (g7.mo (fun q d => d.elim)).tr J7
  have J6 : Gr (fun q => q = 1) U6 F := by have : Gr (fun q => q = 1) U6 T7 := by { rw [eT7]; exact gr_setR rfl }; exact this.tr H7
  have H6 : Gr (fun q => q = 1) T6 F := (g6.mo (fun q d => d.elim)).tr J6
  have J5 : Gr (fun q => q = 1) U5 F := by have : Gr (fun q => q = 1) U5 T6 := by { rw [eT6]; exact gr_setR rfl }; exact this.tr H6
  have H5 : Gr (fun q => q = 1) T5 F := (g5.mo (fun q d => d.elim)).tr J5
  have J4 : Gr (fun q => q = 1) U4 F := by have : Gr (fun q => q = 1) U4 T5 := by { rw [eT5]; exact gr_setR rfl }; exact this.tr H5
  have H4 : Gr (fun q => q = 1) T4 F := (g4.mo (fun q d => d.elim)).tr J4
  have J3 : Gr (fun q => q = 1) U3 F := by have : Gr (fun q => q = 1) U3 T4 := by { rw [eT4]; exact gr_setR rfl }; exact this.tr H4
  have H3 : Gr (fun q => q = 1) T3 F := (g3.mo (fun q d => d.elim)).tr J3
  have J2 : Gr (fun q => q = 1) U2 F := by have : Gr (fun q => q = 1) U2 T3 := by { rw [eT3]; exact gr_setR rfl }; exact this.tr H3
  have H2 : Gr (fun q => q = 1) T2 F := (g2.mo (fun q d => d.elim)).tr J2
  have J1 : Gr (fun q => q = 1) U1 F := by have : Gr (fun q => q = 1) U1 T2 := by { rw [eT2]; exact gr_setR rfl }; exact this.tr H2
  have H1 : Gr (fun q => q = 1) T1 F := (g1.mo (fun q d => d.elim)).tr J1
  have J0 : Gr (fun q => q = 1) U0 F := by have : Gr (fun q => q = 1) U0 T1 := by { rw [eT1]; exact gr_setR rfl }; exact this.tr H1
  have H0 : Gr (fun q => q = 1) T0 F := (g0.mo (fun q d => d.elim)).tr J0
  have E0 : ∀ q, q ≠ 1 → q < 4 → EqA U0 F q := fun q hq hl => J0.1 q (Or.inl (by omega)) hq
  have E1 : ∀ q, q ≠ 1 → q < 6 → EqA U1 F q := fun q hq hl => J1.1 q (Or.inl (by omega)) hq
  have E2 : ∀ q, q ≠ 1 → q < 8 → EqA U2 F q := fun q hq hl => J2.1 q (Or.inl (by omega)) hq
  have E3 : ∀ q, q ≠ 1 → q < 15 → EqA U3 F q := fun q hq hl => J3.1 q (Or.inl (by omega)) hq
  have E4 : ∀ q, q ≠ 1 → q < 18 → EqA U4 F q := fun q hq hl => J4.1 q (Or.inl (by omega)) hq
  have E5 : ∀ q, q ≠ 1 → q < 21 → EqA U5 F q := fun q hq hl => J5.1 q (Or.inl (by omega)) hq
  have E6 : ∀ q, q ≠ 1 → q < 39 → EqA U6 F q := fun q hq hl => J6.1 q (Or.inl (by omega)) hq
  have E7 : ∀ q, q ≠ 1 → q < 57 → EqA U7 F q := fun q hq hl => J7.1 q (Or.inl (by omega)) hq
  have E8 : ∀ q, q ≠ 1 → q < 60 → EqA U8 F q := fun q hq hl => J8.1 q (Or.inl (by omega)) hq
  have E9 : ∀ q, q ≠ 1 → q < 71 → EqA U9 F q := fun q hq hl => J9.1 q (Or.inl (by omega)) hq
  have E10 : ∀ q, q ≠ 1 → q < 75 → EqA U10 F q := fun q hq hl => J10.1 q (Or.inl (by omega)) hq
  have nR : ∀ (t n : Nat) (T : AS) (k : Nat), sX T ≠ 1 → sR (newA T t n) 1 k = sR T 1 k := fun t n T k h => by rw [sR_new, if_neg (fun e => h e.symm)]
  refine ⟨F, ?_, ⟨?_, ⟨?_, ?_⟩, f0.eq (E0 2 (by decide) (by decide)) (E0 3 (by decide) (by decide)), f1.eq (E1 4 (by decide) (by decide)) (E1 5 (by decide) (by decide)), ⟨_, _, f2.eq (E2 6 (by decide) (by decide)) (E2 7 (by decide) (by decide))⟩, ⟨f3.1.eq (fun i hi => E3 _ (by omega) (by omega)), by rw [(E3 8 (by decide) (by decide)).2.2.2.1]; exact f3.2⟩, ⟨f4.1.eq (fun i hi => E4 _ (by omega) (by omega)), _, f4.2.eq (E4 16 (by decide) (by decide)), fun z _ _ => by show stB 0; decide⟩, f5.eq (fun i hi => E5 _ (by omega) (by omega)) (fun q hq => hq.elim), f6.eq (fun i hi => E6 _ (by omega) (by omega)), ⟨_, f7.eq (fun i hi => E7 _ (by omega) (by omega))⟩, f8.eq (fun i hi => E8 _ (by omega) (by omega)) (fun q hq => hq.elim), ⟨[], f9.2.eq (fun i hi => E9 _ (by omega) (by omega)) (fun q hq => hq.elim), by decide⟩, f9.1.eq (E9 60 (by decide) (by decide)) (fun i hi => E9 _ (by omega) (by omega)), f10.eq (fun i hi => E10 _ (by omega) (by omega)), ⟨⟨?_, ?_⟩, fun _ => 0, fun k hk => ⟨?_, rfl⟩, fun h => absurd rfl h⟩, ⟨?_, ?_⟩, ?_, ?_, fun z hz => ?_⟩, XF, ?_, fun q hq => ?_⟩
  · rw [← eT0]
    unfold f_C_init
    rw [if_pos (show ¬ 1 = 0 by decide)]
    rw [w0, Option.bind_some]
    show (if ¬ 2 = 0 then (f_Row_init (newA T0 9 2) 2 (v 400)).bind _ else none) = _
    rw [if_pos (by decide), q0, Option.bind_some, if_pos k0]
    show (nwO (setR U0 1 0 2) 9 2).bind _ = _
    rw [← eT1, w1, Option.bind_some]
    show (if ¬ 4 = 0 then (f_Row_init (newA T1 9 2) 4 (v 200)).bind _ else none) = _
    rw [if_pos (by decide), q1, Option.bind_some, if_pos k1]
    show (nwO (setR U1 1 1 4) 9 2).bind _ = _
    rw [← eT2, w2, Option.bind_some]
    show (if ¬ 6 = 0 then (f_Row_init (newA T2 9 2) 6 (v 200)).bind _ else none) = _
    rw [if_pos (by decide), q2, Option.bind_some, if_pos k2]
    show (nwO (setR U2 1 2 6) 8 8).bind _ = _
    rw [← eT3, w3, Option.bind_some]
    show (if ¬ 8 = 0 then (f_Reader_init (newA T3 8 8) 8).bind _ else none) = _
    rw [if_pos (by decide), q3, Option.bind_some, if_pos k3]
    show (nwO (setR U3 1 3 8) 6 2).bind _ = _
    rw [← eT4, w4, Option.bind_some]
    show (if ¬ 15 = 0 then (f_Machine_init (newA T4 6 2) 15).bind _ else none) = _
    rw [if_pos (by decide), q4, Option.bind_some, if_pos k4]
    show (nwO (setR U4 1 4 15) 11 4).bind _ = _
    rw [← eT5, w5, Option.bind_some]
    show (if ¬ 18 = 0 then (f_Setting_init (newA T5 11 4) 18).bind _ else none) = _
    rw [if_pos (by decide), q5, Option.bind_some, if_pos k5]
    show (nwO (setR U5 1 5 18) 3 7).bind _ = _
    rw [← eT6, w6, Option.bind_some]
    show (if sT (newA T6 3 7) 1 = 1 then if ¬ 21 = 0 then (f_Desk_init (newA T6 3 7) 21 (sR (newA T6 3 7) 1 5) (sR (newA T6 3 7) 1 4)).bind _ else none else none) = _
    rw [if_pos (show sT (newA T6 3 7) 1 = 1 by rw [sT_new, X6, if_neg (by decide)]; exact K6), if_pos (by decide)]
    rw [show sR (newA T6 3 7) 1 5 = 18 by rw [nR _ _ _ _ (by omega), R6]; rfl]
    rw [show sR (newA T6 3 7) 1 4 = 15 by rw [nR _ _ _ _ (by omega), R6]; rfl]
    rw [q6, Option.bind_some, if_pos k6]
    show (nwO (setR U6 1 6 21) 3 7).bind _ = _
    rw [← eT7, w7, Option.bind_some]
    show (if sT (newA T7 3 7) 1 = 1 then if ¬ 39 = 0 then (f_Desk_init (newA T7 3 7) 39 (sR (newA T7 3 7) 1 5) (sR (newA T7 3 7) 1 4)).bind _ else none else none) = _
    rw [if_pos (show sT (newA T7 3 7) 1 = 1 by rw [sT_new, X7, if_neg (by decide)]; exact K7), if_pos (by decide)]
    rw [show sR (newA T7 3 7) 1 5 = 18 by rw [nR _ _ _ _ (by omega), R7]; rfl]
    rw [show sR (newA T7 3 7) 1 4 = 15 by rw [nR _ _ _ _ (by omega), R7]; rfl]
    rw [q7, Option.bind_some, if_pos k7]
    show (nwO (setR U7 1 7 39) 5 3).bind _ = _
    rw [← eT8, w8, Option.bind_some]
    show (if ¬ 57 = 0 then (f_Log_init (newA T8 5 3) 57).bind _ else none) = _
    rw [if_pos (by decide), q8, Option.bind_some, if_pos k8]
    show (nwO (setR U8 1 8 57) 10 7).bind _ = _
    rw [← eT9, w9, Option.bind_some]
    show (if sT (newA T9 10 7) 1 = 1 then if ¬ 60 = 0 then (f_Runner_init (newA T9 10 7) 60 (sR (newA T9 10 7) 1 6) (sR (newA T9 10 7) 1 4) (sR (newA T9 10 7) 1 2)).bind _ else none else none) = _
    rw [if_pos (show sT (newA T9 10 7) 1 = 1 by rw [sT_new, X9, if_neg (by decide)]; exact K9), if_pos (by decide)]
    rw [show sR (newA T9 10 7) 1 6 = 21 by rw [nR _ _ _ _ (by omega), R9]; rfl]
    rw [show sR (newA T9 10 7) 1 4 = 15 by rw [nR _ _ _ _ (by omega), R9]; rfl]
    rw [show sR (newA T9 10 7) 1 2 = 6 by rw [nR _ _ _ _ (by omega), R9]; rfl]
    rw [q9, Option.bind_some, if_pos k9]
    show (nwO (setR U9 1 9 60) 2 7).bind _ = _
    rw [← eT10, w10, Option.bind_some]
    show (if sT (newA T10 2 7) 1 = 1 then if ¬ 71 = 0 then (f_Calendar_init (newA T10 2 7) 71 (sR (newA T10 2 7) 1 7) (sR (newA T10 2 7) 1 2)).bind _ else none else none) = _
    rw [if_pos (show sT (newA T10 2 7) 1 = 1 by rw [sT_new, X10, if_neg (by decide)]; exact K10), if_pos (by decide)]
    rw [show sR (newA T10 2 7) 1 7 = 39 by rw [nR _ _ _ _ (by omega), R10]; rfl]
    rw [show sR (newA T10 2 7) 1 2 = 6 by rw [nR _ _ _ _ (by omega), R10]; rfl]
    rw [q10, Option.bind_some, if_pos k10]
    show (nwA (setR U10 1 10 71) 43 (nI 2)).bind _ = _
    rw [← eT11, w11, Option.bind_some, if_pos k11]
    show (nwA (setR (newA T11 43 2) 1 11 75) 21 (nI 20)).bind _ = _
    rw [← eT12, w12, Option.bind_some, if_pos k12]
    show (nwA (setR (newA T12 21 20) 1 12 76) 20 (nI 5)).bind _ = _
    rw [← eT13, w13, Option.bind_some, if_pos k13]
    rw [nv0, nv1, v_neg, eF, eT14]
  · refine ⟨by rw [eF, setI_T, setI_T]; exact K14, ?_, ?_⟩
    · simp only [RF]; decide
    · simp only [RF]; decide
  · rw [eF, sI_setI, if_neg (by decide), sI_setI, if_pos ⟨rfl, rfl⟩]
  · rw [eF, sI_setI, if_pos ⟨rfl, rfl⟩]
  · rw [(H12.1 75 (Or.inl (by omega)) (by decide)).1, eT12, setR_T, sT_new, X11, if_pos rfl]
  · rw [(H12.1 75 (Or.inl (by omega)) (by decide)).2.1, eT12, setR_N, sN_new, X11, if_pos rfl]
  · rw [(H12.1 75 (Or.inl (by omega)) (by decide)).2.2.1, eT12, sR_setR, if_neg (by omega), sR_new, X11, if_pos rfl]
  · rw [(H13.1 76 (Or.inl (by omega)) (by decide)).1, eT13, setR_T, sT_new, X12, if_pos rfl]
  · rw [(H13.1 76 (Or.inl (by omega)) (by decide)).2.1, eT13, setR_N, sN_new, X12, if_pos rfl]
  · rw [(H14.1 77 (Or.inl (by omega)) (by decide)).1, eT14, setR_T, sT_new, X13, if_pos rfl]
  · rw [(H14.1 77 (Or.inl (by omega)) (by decide)).2.1, eT14, setR_N, sN_new, X13, if_pos rfl]
  · rw [(H14.1 77 (Or.inl (by omega)) (by decide)).2.2.2.1, eT14, setR_I, sI_new, X13, if_pos rfl]; rfl
  · have zF : sZ F = sZ T14 := by rw [eF, setI_Z, setI_Z]
    rw [zF]; omega
  · exact (G0.tr H0).1 q (Or.inr hq) (by omega)
