/-! THE REFERENCE'S OBJECT IS MADE (gen22g.py) -/
/-- fields up to k are set, rows up to m are there -/
def MPar (s : AS) (k m : Nat) (A : MA) : Prop := sT s 78 = 13 ∧ sX s = 79 + m ∧ (∀ j, 1 ≤ j → j ≤ k → sR s 78 (fdM j) = 78 + j) ∧ (∀ j, 1 ≤ j → j ≤ m → (sT s (78 + j) = tyM j ∧ sN s (78 + j) = szM j) ∧ (∀ z : Int, 0 ≤ z → sI s (78 + j) z.toNat = (if tyM j = 21 then v 0 else v (A j z))) ∧ ∀ z : Int, 0 ≤ z → sL s (78 + j) z.toNat = (if tyM j = 21 then w (A j z) else w 0)) ∧ (∀ q : Nat, sI s 78 q = v (A 0 q) ∧ sL s 78 q = w (A 28 q)) ∧ ∀ j, m < j → j < 28 → ∀ z, A j z = 0
theorem fdM_inj : ∀ i, i < 28 → ∀ j, j < 28 → 1 ≤ i → 1 ≤ j → fdM i = fdM j → i = j := by decide
section MPR
variable {s : AS} {k m : Nat} {A : MA}
theorem MPar.new (h : MPar s k m A) (hm : m + 1 < 28) {t n : Nat} (ht : t = tyM (m + 1)) (hn : n = szM (m + 1)) : MPar (newA s t n) k (m + 1) A := by
  obtain ⟨h1, h2, h3, h4, h5, h6⟩ := h
  refine ⟨by rw [sT_new, h2, if_neg (by omega)]; exact h1, by rw [sX_new, h2]; omega, fun j j0 j1 => by rw [sR_new, h2, if_neg (by omega)]; exact h3 j j0 j1, fun j j0 j1 => ?_, fun q => ?_, fun j j0 j1 => h6 j (by omega) j1⟩
  · by_cases e : j = m + 1
    · rw [sT_new, sN_new, sI_new, sL_new, h2, if_pos (by omega), if_pos (by omega), if_pos (by omega), if_pos (by omega), e]
      refine ⟨⟨ht, hn⟩, fun z z0 => ?_, fun z z0 => ?_⟩
      · rw [h6 (m + 1) (by omega) hm z]
        split <;> rfl
      · rw [h6 (m + 1) (by omega) hm z]
        split <;> rfl
    · rw [sT_new, sN_new, sI_new, sL_new, h2, if_neg (by omega), if_neg (by omega), if_neg (by omega), if_neg (by omega)]
      exact h4 j j0 (by omega)
  · rw [sI_new, sL_new, h2, if_neg (by omega), if_neg (by omega)]
    exact h5 q
theorem MPar.fld (h : MPar s k m A) (hk : k + 1 ≤ m) (hm : m < 28) {f p : Nat} (hf : f = fdM (k + 1)) (hp : p = 78 + (k + 1)) : MPar (setR s 78 f p) (k + 1) m A := by
  obtain ⟨h1, h2, h3, h4, h5, h6⟩ := h
  refine ⟨h1, h2, fun j j0 j1 => ?_, h4, h5, h6⟩
  rw [sR_setR]
  by_cases e : j = k + 1
  · rw [if_pos ⟨rfl, by rw [hf, e]⟩, hp, e]
  · rw [if_neg (fun d => e (fdM_inj j (by omega) (k + 1) (by omega) j0 (by omega) (by rw [← hf]; exact d.2)))]
    exact h3 j j0 (by omega)
theorem MPar.f0 (h : MPar s k m A) {q : Nat} {x : Int} : MPar (setI s 78 q (v x)) k m (pu A 0 q x) := by
  obtain ⟨h1, h2, h3, h4, h5, h6⟩ := h
  refine ⟨h1, h2, h3, fun j j0 j1 => ?_, fun y => ?_, fun j j0 j1 z => ?_⟩
  · obtain ⟨a1, a2, a3⟩ := h4 j j0 j1
    refine ⟨a1, fun z z0 => ?_, fun z z0 => ?_⟩
    · rw [sI_setI, if_neg (by omega), pu_row _ _ _ _ (by omega)]; exact a2 z z0
    · rw [setI_L, pu_row _ _ _ _ (by omega)]; exact a3 z z0
  · refine ⟨?_, by rw [setI_L, pu_row _ _ _ _ (by decide)]; exact (h5 y).2⟩
    rw [sI_setI]
    by_cases e : y = q
    · rw [if_pos ⟨rfl, e⟩, e, pu_eq]
    · rw [if_neg (fun d => e d.2), pu_ne _ _ _ _ (fun d => e (by have := d.2; omega))]; exact (h5 y).1
  · rw [pu_row _ _ _ _ (by omega)]; exact h6 j j0 j1 z
theorem MPar.ej (h : MPar s k m A) {j : Nat} (hj : 1 ≤ j ∧ j ≤ m) (ht : tyM j = 21) {z x : Int} (hz : 0 ≤ z) : MPar (setJ s (78 + j) z.toNat (w x)) k m (pu A j z x) := by
  obtain ⟨h1, h2, h3, h4, h5, h6⟩ := h
  refine ⟨h1, h2, h3, fun i i0 i1 => ?_, fun y => ?_, fun i i0 i1 y => ?_⟩
  · obtain ⟨a1, a2, a3⟩ := h4 i i0 i1
    refine ⟨a1, fun y y0 => ?_, fun y y0 => ?_⟩
    · rw [setJ_I]
      by_cases e : tyM i = 21
      · rw [if_pos e, a2 y y0, if_pos e]
      · rw [if_neg e, a2 y y0, if_neg e, pu_row _ _ _ _ (fun d => e (by rw [d]; exact ht))]
    · rw [sL_setJ]
      by_cases e : i = j ∧ y = z
      · rw [if_pos ⟨by rw [e.1], by rw [e.2]⟩, e.1, e.2, if_pos ht, pu_eq]
      · rw [if_neg (fun d => e ⟨by have := d.1; omega, by have := d.2; omega⟩), a3 y y0, pu_ne _ _ _ _ e]
  · refine ⟨by rw [setJ_I, pu_row _ _ _ _ (by omega)]; exact (h5 y).1, ?_⟩
    rw [sL_setJ, if_neg (by omega)]
    by_cases e : j = 28
    · rw [e] at ht; exact absurd ht (by decide)
    · rw [pu_row _ _ _ _ (by omega)]; exact (h5 y).2
  · rw [pu_row _ _ _ _ (by omega)]; exact h6 i i0 i1 y
theorem MPar.ei (h : MPar s k m A) {j : Nat} (hj : 1 ≤ j ∧ j ≤ m) (hm : m < 28) (ht : tyM j ≠ 21) {z x : Int} (hz : 0 ≤ z) : MPar (setI s (78 + j) z.toNat (v x)) k m (pu A j z x) := by
  obtain ⟨h1, h2, h3, h4, h5, h6⟩ := h
  refine ⟨h1, h2, h3, fun i i0 i1 => ?_, fun y => ?_, fun i i0 i1 y => ?_⟩
  · obtain ⟨a1, a2, a3⟩ := h4 i i0 i1
    refine ⟨a1, fun y y0 => ?_, fun y y0 => ?_⟩
    · rw [sI_setI]
      by_cases e : i = j ∧ y = z
      · rw [if_pos ⟨by rw [e.1], by rw [e.2]⟩, e.1, e.2, if_neg ht, pu_eq]
      · rw [if_neg (fun d => e ⟨by have := d.1; omega, by have := d.2; omega⟩), a2 y y0, pu_ne _ _ _ _ e]
    · rw [setI_L]
      by_cases e : tyM i = 21
      · rw [if_pos e, a3 y y0, if_pos e, pu_row _ _ _ _ (fun d => ht (by rw [← d]; exact e))]
      · rw [if_neg e, a3 y y0, if_neg e]
  · refine ⟨by rw [sI_setI, if_neg (by omega), pu_row _ _ _ _ (by omega)]; exact (h5 y).1, ?_⟩
    rw [setI_L, pu_row _ _ _ _ (by omega)]; exact (h5 y).2
  · rw [pu_row _ _ _ _ (by omega)]; exact h6 i i0 i1 y
theorem MPar.mr (h : MPar s 27 27 A) : MR s 78 A := by
  obtain ⟨h1, h2, h3, h4, h5, h6⟩ := h
  refine ⟨⟨h1, fun j j0 j1 => ⟨h3 j j0 (by omega), (h4 j j0 (by omega)).1⟩⟩, fun q _ => (h5 q).1, fun q _ => (h5 q).2, fun j j0 j1 ht z hz => ?_, fun j j0 j1 ht z hz => ?_⟩
  · have := (h4 j j0 (by omega)).2.1 z hz.1
    rw [if_neg ht] at this
    exact this
  · have := (h4 j j0 (by omega)).2.2 z hz.1
    rw [if_pos ht] at this
    exact this
end MPR
theorem m_init386 {A0 : MA} : ∀ (k N : Nat) (i : Int) (s : AS) (A : MA), i + k = 8 → 0 ≤ i → k < N → MR s 78 A → AF (fun j z => j = 2 ∧ 5 ≤ z) A0 A → (∀ p, 0 ≤ p → p < i → A 2 (5 + 102 * p + 1) = 8) → (∀ z, (∀ p, 0 ≤ p → p < 8 → z ≠ 5 + 102 * p + 1) → A 2 z = A0 2 z) → ∃ s' A', l_M_init_386 N 78 (v i) s = some s' ∧ MR s' 78 A' ∧ AF (fun j z => j = 2 ∧ 5 ≤ z) A0 A' ∧ (∀ p, 0 ≤ p → p < 8 → A' 2 (5 + 102 * p + 1) = 8) ∧ (∀ z, (∀ p, 0 ≤ p → p < 8 → z ≠ 5 + 102 * p + 1) → A' 2 z = A0 2 z) ∧ Fr (inM 78) s s' := by
  intro k
  induction k with
  | zero =>
    intro N i s A hi h0 hN h ha h8 hz
    obtain ⟨N, rfl⟩ : ∃ m, N = m + 1 := ⟨N - 1, by omega⟩
    refine ⟨s, A, ?_, h, ha, fun p p0 p1 => h8 p p0 (by omega), hz, Fr.rf _ _⟩
    show b_M_init_386 _ _ _ _ = _
    unfold b_M_init_386
    rw [nv8, if_neg (nlt (by omega))]
  | succ k ih =>
    intro N i s A hi h0 hN h ha h8 hz
    obtain ⟨N, rfl⟩ : ∃ m, N = m + 1 := ⟨N - 1, by omega⟩
    have hw := h.si 2 (by decide) (by decide) (z := 5 + 102 * i + 1) (x := 8) ⟨by omega, by show 5 + 102 * i + 1 < (6221 : Int); omega⟩
    obtain ⟨s', A', q1, q2, q3, q4, q5, q6⟩ := ih N (i + 1) _ _ (by omega) (by omega) (by omega) hw (ha.tr (AF.pu ⟨rfl, by omega⟩)) (fun p p0 p1 => by
      by_cases e : p = i
      · rw [e, pu_eq]
      · rw [pu_ne _ _ _ _ (fun d => e (by have := d.2; omega))]; exact h8 p p0 (by omega)) (fun z hp => by
      rw [pu_ne _ _ _ _ (fun d => hp i h0 (by omega) d.2)]; exact hz z hp)
    refine ⟨s', A', ?_, q2, q3, q4, q5, (inM_s (by decide)).tr q6⟩
    show b_M_init_386 _ _ _ _ = _
    unfold b_M_init_386
    rw [nv8, nv1, if_pos (plt (by omega)), if_pos h.t, m_pageAt, Option.bind_some, h.r3, h.t3, h.n3, v_add, v_add, if_pos ⟨rfl, v_inA (by omega) (by omega)⟩, v_ix (by omega)]
    exact q1
set_option maxHeartbeats 8000000 in
theorem m_init {s : AS} (hs : sX s = 78) : ∃ F A, f_M_init (newA s 13 57) 78 = some F ∧ MR F 78 A ∧ RepA A (fun _ => 0, 0) bareSe bareP [] (fun _ => none) (fun z => if z = 0 ∨ z = 1 then -1 else 0) (fun _ => 0, 0) none ∧ sX F = 106 ∧ sZ F ≤ sZ s + 60000 ∧ (∀ q, q < 78 ∨ 900000 ≤ q → EqA s F q) := by
  obtain ⟨S0, eS0⟩ : ∃ x, x = newA s 13 57 := ⟨_, rfl⟩
  have g0 : Gr (fun q => 78 ≤ q ∧ q < 106) s S0 := by rw [eS0]; exact grn (by omega)
  have z0 : sZ S0 = sZ s + 57 := by rw [eS0, sZ_new]
  have M0 : MPar S0 0 0 (fun _ _ => 0) := by
    rw [eS0]
    refine ⟨by rw [sT_new, hs, if_pos rfl], by rw [sX_new, hs], fun j j0 j1 => by omega, fun j j0 j1 => by omega, fun q => ?_, fun _ _ _ _ => rfl⟩
    rw [sI_new, sL_new, hs, if_pos rfl, if_pos rfl]
    exact ⟨rfl, rfl⟩
  have W1 : nwA S0 20 (nI 7) = some (79, newA S0 20 7) := by have := nwA_s (s := S0) (t := 20) (z := 7) (by rw [M0.2.1]; omega) (by omega); rw [M0.2.1] at this; exact this
  have N1 := M0.new (by decide) (t := 20) (n := 7) rfl rfl
  have F1 := N1.fld (by decide) (by decide) (f := 2) (p := 79) rfl rfl
  obtain ⟨S1, eS1⟩ : ∃ x, x = setR (newA S0 20 7) 78 2 79 := ⟨_, rfl⟩
  have M1 : MPar S1 1 1 (fun _ _ => 0) := by rw [eS1]; exact F1
  have z1 : sZ S1 = sZ S0 + 7 := by rw [eS1]; rfl
  have g1 : Gr (fun q => 78 ≤ q ∧ q < 106) S0 S1 := by rw [eS1]; exact ((grn (s := S0) (t := 20) (n := 7) (by rw [M0.2.1]; omega)).tr (gr_setR (F := fun q => 78 ≤ q ∧ q < 106) (by omega)))
  have t1 : sT (newA S0 20 7) 78 = 13 := N1.1
  have W2 : nwA S1 20 (nI 6221) = some (80, newA S1 20 6221) := by have := nwA_s (s := S1) (t := 20) (z := 6221) (by rw [M1.2.1]; omega) (by omega); rw [M1.2.1] at this; exact this
  have N2 := M1.new (by decide) (t := 20) (n := 6221) rfl rfl
  have F2 := N2.fld (by decide) (by decide) (f := 3) (p := 80) rfl rfl
  obtain ⟨S2, eS2⟩ : ∃ x, x = setR (newA S1 20 6221) 78 3 80 := ⟨_, rfl⟩
  have M2 : MPar S2 2 2 (fun _ _ => 0) := by rw [eS2]; exact F2
  have z2 : sZ S2 = sZ S1 + 6221 := by rw [eS2]; rfl
  have g2 : Gr (fun q => 78 ≤ q ∧ q < 106) S1 S2 := by rw [eS2]; exact ((grn (s := S1) (t := 20) (n := 6221) (by rw [M1.2.1]; omega)).tr (gr_setR (F := fun q => 78 ≤ q ∧ q < 106) (by omega)))
  have t2 : sT (newA S1 20 6221) 78 = 13 := N2.1
  have W3 : nwA S2 20 (nI 12442) = some (81, newA S2 20 12442) := by have := nwA_s (s := S2) (t := 20) (z := 12442) (by rw [M2.2.1]; omega) (by omega); rw [M2.2.1] at this; exact this
  have N3 := M2.new (by decide) (t := 20) (n := 12442) rfl rfl
  have F3 := N3.fld (by decide) (by decide) (f := 4) (p := 81) rfl rfl
  obtain ⟨S3, eS3⟩ : ∃ x, x = setR (newA S2 20 12442) 78 4 81 := ⟨_, rfl⟩
  have M3 : MPar S3 3 3 (fun _ _ => 0) := by rw [eS3]; exact F3
  have z3 : sZ S3 = sZ S2 + 12442 := by rw [eS3]; rfl
  have g3 : Gr (fun q => 78 ≤ q ∧ q < 106) S2 S3 := by rw [eS3]; exact ((grn (s := S2) (t := 20) (n := 12442) (by rw [M2.2.1]; omega)).tr (gr_setR (F := fun q => 78 ≤ q ∧ q < 106) (by omega)))
  have t3 : sT (newA S2 20 12442) 78 = 13 := N3.1
  have W4 : nwA S3 22 (nI 2) = some (82, newA S3 22 2) := by have := nwA_s (s := S3) (t := 22) (z := 2) (by rw [M3.2.1]; omega) (by omega); rw [M3.2.1] at this; exact this
  have N4 := M3.new (by decide) (t := 22) (n := 2) rfl rfl
  have F4 := N4.fld (by decide) (by decide) (f := 5) (p := 82) rfl rfl
  obtain ⟨S4, eS4⟩ : ∃ x, x = setR (newA S3 22 2) 78 5 82 := ⟨_, rfl⟩
  have M4 : MPar S4 4 4 (fun _ _ => 0) := by rw [eS4]; exact F4
  have z4 : sZ S4 = sZ S3 + 2 := by rw [eS4]; rfl
  have g4 : Gr (fun q => 78 ≤ q ∧ q < 106) S3 S4 := by rw [eS4]; exact ((grn (s := S3) (t := 22) (n := 2) (by rw [M3.2.1]; omega)).tr (gr_setR (F := fun q => 78 ≤ q ∧ q < 106) (by omega)))
  have t4 : sT (newA S3 22 2) 78 = 13 := N4.1
  have W5 : nwA S4 20 (nI 15504) = some (83, newA S4 20 15504) := by have := nwA_s (s := S4) (t := 20) (z := 15504) (by rw [M4.2.1]; omega) (by omega); rw [M4.2.1] at this; exact this
  have N5 := M4.new (by decide) (t := 20) (n := 15504) rfl rfl
  have F5 := N5.fld (by decide) (by decide) (f := 6) (p := 83) rfl rfl
  obtain ⟨S5, eS5⟩ : ∃ x, x = setR (newA S4 20 15504) 78 6 83 := ⟨_, rfl⟩
  have M5 : MPar S5 5 5 (fun _ _ => 0) := by rw [eS5]; exact F5
  have z5 : sZ S5 = sZ S4 + 15504 := by rw [eS5]; rfl
  have g5 : Gr (fun q => 78 ≤ q ∧ q < 106) S4 S5 := by rw [eS5]; exact ((grn (s := S4) (t := 20) (n := 15504) (by rw [M4.2.1]; omega)).tr (gr_setR (F := fun q => 78 ≤ q ∧ q < 106) (by omega)))
  have t5 : sT (newA S4 20 15504) 78 = 13 := N5.1
  have W6 : nwA S5 20 (nI 16) = some (84, newA S5 20 16) := by have := nwA_s (s := S5) (t := 20) (z := 16) (by rw [M5.2.1]; omega) (by omega); rw [M5.2.1] at this; exact this
  have N6 := M5.new (by decide) (t := 20) (n := 16) rfl rfl
  have F6 := N6.fld (by decide) (by decide) (f := 7) (p := 84) rfl rfl
  obtain ⟨S6, eS6⟩ : ∃ x, x = setR (newA S5 20 16) 78 7 84 := ⟨_, rfl⟩
  have M6 : MPar S6 6 6 (fun _ _ => 0) := by rw [eS6]; exact F6
  have z6 : sZ S6 = sZ S5 + 16 := by rw [eS6]; rfl
  have g6 : Gr (fun q => 78 ≤ q ∧ q < 106) S5 S6 := by rw [eS6]; exact ((grn (s := S5) (t := 20) (n := 16) (by rw [M5.2.1]; omega)).tr (gr_setR (F := fun q => 78 ≤ q ∧ q < 106) (by omega)))
  have t6 : sT (newA S5 20 16) 78 = 13 := N6.1
  have W7 : nwA S6 20 (nI 13056) = some (85, newA S6 20 13056) := by have := nwA_s (s := S6) (t := 20) (z := 13056) (by rw [M6.2.1]; omega) (by omega); rw [M6.2.1] at this; exact this
  have N7 := M6.new (by decide) (t := 20) (n := 13056) rfl rfl
  have F7 := N7.fld (by decide) (by decide) (f := 9) (p := 85) rfl rfl
  obtain ⟨S7, eS7⟩ : ∃ x, x = setR (newA S6 20 13056) 78 9 85 := ⟨_, rfl⟩
  have M7 : MPar S7 7 7 (fun _ _ => 0) := by rw [eS7]; exact F7
  have z7 : sZ S7 = sZ S6 + 13056 := by rw [eS7]; rfl
  have g7 : Gr (fun q => 78 ≤ q ∧ q < 106) S6 S7 := by rw [eS7]; exact ((grn (s := S6) (t := 20) (n := 13056) (by rw [M6.2.1]; omega)).tr (gr_setR (F := fun q => 78 ≤ q ∧ q < 106) (by omega)))
  have t7 : sT (newA S6 20 13056) 78 = 13 := N7.1
  have W8 : nwA S7 20 (nI 16) = some (86, newA S7 20 16) := by have := nwA_s (s := S7) (t := 20) (z := 16) (by rw [M7.2.1]; omega) (by omega); rw [M7.2.1] at this; exact this
  have N8 := M7.new (by decide) (t := 20) (n := 16) rfl rfl
  have F8 := N8.fld (by decide) (by decide) (f := 10) (p := 86) rfl rfl
  obtain ⟨S8, eS8⟩ : ∃ x, x = setR (newA S7 20 16) 78 10 86 := ⟨_, rfl⟩
  have M8 : MPar S8 8 8 (fun _ _ => 0) := by rw [eS8]; exact F8
  have z8 : sZ S8 = sZ S7 + 16 := by rw [eS8]; rfl
  have g8 : Gr (fun q => 78 ≤ q ∧ q < 106) S7 S8 := by rw [eS8]; exact ((grn (s := S7) (t := 20) (n := 16) (by rw [M7.2.1]; omega)).tr (gr_setR (F := fun q => 78 ≤ q ∧ q < 106) (by omega)))
  have t8 : sT (newA S7 20 16) 78 = 13 := N8.1
  have W9 : nwA S8 20 (nI 400) = some (87, newA S8 20 400) := by have := nwA_s (s := S8) (t := 20) (z := 400) (by rw [M8.2.1]; omega) (by omega); rw [M8.2.1] at this; exact this
  have N9 := M8.new (by decide) (t := 20) (n := 400) rfl rfl
  have F9 := N9.fld (by decide) (by decide) (f := 11) (p := 87) rfl rfl
  have F9_17 := F9.f0 (q := 17) (x := -1)
  obtain ⟨S9, eS9⟩ : ∃ x, x = setI (setR (newA S8 20 400) 78 11 87) 78 17 (v (-1)) := ⟨_, rfl⟩
  have M9 : MPar S9 9 9 (pu (fun _ _ => 0) 0 (17 : Nat) (-1)) := by rw [eS9]; exact F9_17
  have z9 : sZ S9 = sZ S8 + 400 := by rw [eS9]; rfl
  have g9 : Gr (fun q => 78 ≤ q ∧ q < 106) S8 S9 := by rw [eS9]; exact (((grn (s := S8) (t := 20) (n := 400) (by rw [M8.2.1]; omega)).tr (gr_setR (F := fun q => 78 ≤ q ∧ q < 106) (by omega))).tr ((Fr.si (F := fun q => 78 ≤ q ∧ q < 106) (by omega)).gr))
  have t9 : sT (newA S8 20 400) 78 = 13 := N9.1
  have W10 : nwA S9 20 (nI 96) = some (88, newA S9 20 96) := by have := nwA_s (s := S9) (t := 20) (z := 96) (by rw [M9.2.1]; omega) (by omega); rw [M9.2.1] at this; exact this
  have N10 := M9.new (by decide) (t := 20) (n := 96) rfl rfl
  have F10 := N10.fld (by decide) (by decide) (f := 21) (p := 88) rfl rfl
  obtain ⟨S10, eS10⟩ : ∃ x, x = setR (newA S9 20 96) 78 21 88 := ⟨_, rfl⟩
  have M10 : MPar S10 10 10 (pu (fun _ _ => 0) 0 (17 : Nat) (-1)) := by rw [eS10]; exact F10
  have z10 : sZ S10 = sZ S9 + 96 := by rw [eS10]; rfl
  have g10 : Gr (fun q => 78 ≤ q ∧ q < 106) S9 S10 := by rw [eS10]; exact ((grn (s := S9) (t := 20) (n := 96) (by rw [M9.2.1]; omega)).tr (gr_setR (F := fun q => 78 ≤ q ∧ q < 106) (by omega)))
  have t10 : sT (newA S9 20 96) 78 = 13 := N10.1
  have W11 : nwA S10 20 (nI 400) = some (89, newA S10 20 400) := by have := nwA_s (s := S10) (t := 20) (z := 400) (by rw [M10.2.1]; omega) (by omega); rw [M10.2.1] at this; exact this
  have N11 := M10.new (by decide) (t := 20) (n := 400) rfl rfl
  have F11 := N11.fld (by decide) (by decide) (f := 23) (p := 89) rfl rfl
  obtain ⟨S11, eS11⟩ : ∃ x, x = setR (newA S10 20 400) 78 23 89 := ⟨_, rfl⟩
  have M11 : MPar S11 11 11 (pu (fun _ _ => 0) 0 (17 : Nat) (-1)) := by rw [eS11]; exact F11
  have z11 : sZ S11 = sZ S10 + 400 := by rw [eS11]; rfl
  have g11 : Gr (fun q => 78 ≤ q ∧ q < 106) S10 S11 := by rw [eS11]; exact ((grn (s := S10) (t := 20) (n := 400) (by rw [M10.2.1]; omega)).tr (gr_setR (F := fun q => 78 ≤ q ∧ q < 106) (by omega)))
  have t11 : sT (newA S10 20 400) 78 = 13 := N11.1
  have W12 : nwA S11 20 (nI 400) = some (90, newA S11 20 400) := by have := nwA_s (s := S11) (t := 20) (z := 400) (by rw [M11.2.1]; omega) (by omega); rw [M11.2.1] at this; exact this
  have N12 := M11.new (by decide) (t := 20) (n := 400) rfl rfl
  have F12 := N12.fld (by decide) (by decide) (f := 24) (p := 90) rfl rfl
  obtain ⟨S12, eS12⟩ : ∃ x, x = setR (newA S11 20 400) 78 24 90 := ⟨_, rfl⟩
  have M12 : MPar S12 12 12 (pu (fun _ _ => 0) 0 (17 : Nat) (-1)) := by rw [eS12]; exact F12
  have z12 : sZ S12 = sZ S11 + 400 := by rw [eS12]; rfl
  have g12 : Gr (fun q => 78 ≤ q ∧ q < 106) S11 S12 := by rw [eS12]; exact ((grn (s := S11) (t := 20) (n := 400) (by rw [M11.2.1]; omega)).tr (gr_setR (F := fun q => 78 ≤ q ∧ q < 106) (by omega)))
  have t12 : sT (newA S11 20 400) 78 = 13 := N12.1
  have W13 : nwA S12 20 (nI 400) = some (91, newA S12 20 400) := by have := nwA_s (s := S12) (t := 20) (z := 400) (by rw [M12.2.1]; omega) (by omega); rw [M12.2.1] at this; exact this
  have N13 := M12.new (by decide) (t := 20) (n := 400) rfl rfl
  have F13 := N13.fld (by decide) (by decide) (f := 26) (p := 91) rfl rfl
  obtain ⟨S13, eS13⟩ : ∃ x, x = setR (newA S12 20 400) 78 26 91 := ⟨_, rfl⟩
  have M13 : MPar S13 13 13 (pu (fun _ _ => 0) 0 (17 : Nat) (-1)) := by rw [eS13]; exact F13
  have z13 : sZ S13 = sZ S12 + 400 := by rw [eS13]; rfl
  have g13 : Gr (fun q => 78 ≤ q ∧ q < 106) S12 S13 := by rw [eS13]; exact ((grn (s := S12) (t := 20) (n := 400) (by rw [M12.2.1]; omega)).tr (gr_setR (F := fun q => 78 ≤ q ∧ q < 106) (by omega)))
  have t13 : sT (newA S12 20 400) 78 = 13 := N13.1
  have W14 : nwA S13 20 (nI 400) = some (92, newA S13 20 400) := by have := nwA_s (s := S13) (t := 20) (z := 400) (by rw [M13.2.1]; omega) (by omega); rw [M13.2.1] at this; exact this
  have N14 := M13.new (by decide) (t := 20) (n := 400) rfl rfl
  have F14 := N14.fld (by decide) (by decide) (f := 27) (p := 92) rfl rfl
  obtain ⟨S14, eS14⟩ : ∃ x, x = setR (newA S13 20 400) 78 27 92 := ⟨_, rfl⟩
  have M14 : MPar S14 14 14 (pu (fun _ _ => 0) 0 (17 : Nat) (-1)) := by rw [eS14]; exact F14
  have z14 : sZ S14 = sZ S13 + 400 := by rw [eS14]; rfl
  have g14 : Gr (fun q => 78 ≤ q ∧ q < 106) S13 S14 := by rw [eS14]; exact ((grn (s := S13) (t := 20) (n := 400) (by rw [M13.2.1]; omega)).tr (gr_setR (F := fun q => 78 ≤ q ∧ q < 106) (by omega)))
  have t14 : sT (newA S13 20 400) 78 = 13 := N14.1
  have W15 : nwA S14 21 (nI 7) = some (93, newA S14 21 7) := by have := nwA_s (s := S14) (t := 21) (z := 7) (by rw [M14.2.1]; omega) (by omega); rw [M14.2.1] at this; exact this
  have N15 := M14.new (by decide) (t := 21) (n := 7) rfl rfl
  have N15_0 := N15.ej (j := 15) (z := 0) (x := 525541) (by decide) rfl (by decide)
  have N15_1 := N15_0.ej (j := 15) (z := 1) (x := 632645) (by decide) rfl (by decide)
  have N15_2 := N15_1.ej (j := 15) (z := 2) (x := 215205) (by decide) rfl (by decide)
  have N15_3 := N15_2.ej (j := 15) (z := 3) (x := 20332179) (by decide) rfl (by decide)
  have N15_4 := N15_3.ej (j := 15) (z := 4) (x := 17800013413) (by decide) rfl (by decide)
  have N15_5 := N15_4.ej (j := 15) (z := 5) (x := 664997) (by decide) rfl (by decide)
  have N15_6 := N15_5.ej (j := 15) (z := 6) (x := 441828) (by decide) rfl (by decide)
  have F15 := N15_6.fld (by decide) (by decide) (f := 30) (p := 93) rfl rfl
  obtain ⟨S15, eS15⟩ : ∃ x, x = setR (setJ (setJ (setJ (setJ (setJ (setJ (setJ (newA S14 21 7) 93 (0 : Int).toNat (w 525541)) 93 (1 : Int).toNat (w 632645)) 93 (2 : Int).toNat (w 215205)) 93 (3 : Int).toNat (w 20332179)) 93 (4 : Int).toNat (w 17800013413)) 93 (5 : Int).toNat (w 664997)) 93 (6 : Int).toNat (w 441828)) 78 30 93 := ⟨_, rfl⟩
  have M15 : MPar S15 15 15 (pu (pu (pu (pu (pu (pu (pu (pu (fun _ _ => 0) 0 (17 : Nat) (-1)) 15 0 525541) 15 1 632645) 15 2 215205) 15 3 20332179) 15 4 17800013413) 15 5 664997) 15 6 441828) := by rw [eS15]; exact F15
  have z15 : sZ S15 = sZ S14 + 7 := by rw [eS15]; rfl
  have g15 : Gr (fun q => 78 ≤ q ∧ q < 106) S14 S15 := by rw [eS15]; exact (((((((((grn (s := S14) (t := 21) (n := 7) (by rw [M14.2.1]; omega)).tr ((Fr.sj (F := fun q => 78 ≤ q ∧ q < 106) (by omega)).gr)).tr ((Fr.sj (F := fun q => 78 ≤ q ∧ q < 106) (by omega)).gr)).tr ((Fr.sj (F := fun q => 78 ≤ q ∧ q < 106) (by omega)).gr)).tr ((Fr.sj (F := fun q => 78 ≤ q ∧ q < 106) (by omega)).gr)).tr ((Fr.sj (F := fun q => 78 ≤ q ∧ q < 106) (by omega)).gr)).tr ((Fr.sj (F := fun q => 78 ≤ q ∧ q < 106) (by omega)).gr)).tr ((Fr.sj (F := fun q => 78 ≤ q ∧ q < 106) (by omega)).gr)).tr (gr_setR (F := fun q => 78 ≤ q ∧ q < 106) (by omega)))
  have t15 : sT (newA S14 21 7) 78 = 13 := N15.1
  have W16 : nwA S15 21 (nI 6) = some (94, newA S15 21 6) := by have := nwA_s (s := S15) (t := 21) (z := 6) (by rw [M15.2.1]; omega) (by omega); rw [M15.2.1] at this; exact this
  have N16 := M15.new (by decide) (t := 21) (n := 6) rfl rfl
  have N16_0 := N16.ej (j := 16) (z := 0) (x := 664997) (by decide) rfl (by decide)
  have N16_1 := N16_0.ej (j := 16) (z := 1) (x := 146885) (by decide) rfl (by decide)
  have N16_2 := N16_1.ej (j := 16) (z := 2) (x := 404362868) (by decide) rfl (by decide)
  have N16_3 := N16_2.ej (j := 16) (z := 3) (x := 403141) (by decide) rfl (by decide)
  have N16_4 := N16_3.ej (j := 16) (z := 4) (x := 215205) (by decide) rfl (by decide)
  have N16_5 := N16_4.ej (j := 16) (z := 5) (x := 17800013413) (by decide) rfl (by decide)
  have F16 := N16_5.fld (by decide) (by decide) (f := 31) (p := 94) rfl rfl
  obtain ⟨S16, eS16⟩ : ∃ x, x = setR (setJ (setJ (setJ (setJ (setJ (setJ (newA S15 21 6) 94 (0 : Int).toNat (w 664997)) 94 (1 : Int).toNat (w 146885)) 94 (2 : Int).toNat (w 404362868)) 94 (3 : Int).toNat (w 403141)) 94 (4 : Int).toNat (w 215205)) 94 (5 : Int).toNat (w 17800013413)) 78 31 94 := ⟨_, rfl⟩
  have M16 : MPar S16 16 16 (pu (pu (pu (pu (pu (pu (pu (pu (pu (pu (pu (pu (pu (pu (fun _ _ => 0) 0 (17 : Nat) (-1)) 15 0 525541) 15 1 632645) 15 2 215205) 15 3 20332179) 15 4 17800013413) 15 5 664997) 15 6 441828) 16 0 664997) 16 1 146885) 16 2 404362868) 16 3 403141) 16 4 215205) 16 5 17800013413) := by rw [eS16]; exact F16
  have z16 : sZ S16 = sZ S15 + 6 := by rw [eS16]; rfl
  have g16 : Gr (fun q => 78 ≤ q ∧ q < 106) S15 S16 := by rw [eS16]; exact ((((((((grn (s := S15) (t := 21) (n := 6) (by rw [M15.2.1]; omega)).tr ((Fr.sj (F := fun q => 78 ≤ q ∧ q < 106) (by omega)).gr)).tr ((Fr.sj (F := fun q => 78 ≤ q ∧ q < 106) (by omega)).gr)).tr ((Fr.sj (F := fun q => 78 ≤ q ∧ q < 106) (by omega)).gr)).tr ((Fr.sj (F := fun q => 78 ≤ q ∧ q < 106) (by omega)).gr)).tr ((Fr.sj (F := fun q => 78 ≤ q ∧ q < 106) (by omega)).gr)).tr ((Fr.sj (F := fun q => 78 ≤ q ∧ q < 106) (by omega)).gr)).tr (gr_setR (F := fun q => 78 ≤ q ∧ q < 106) (by omega)))
  have t16 : sT (newA S15 21 6) 78 = 13 := N16.1
  have W17 : nwA S16 21 (nI 2) = some (95, newA S16 21 2) := by have := nwA_s (s := S16) (t := 21) (z := 2) (by rw [M16.2.1]; omega) (by omega); rw [M16.2.1] at this; exact this
  have N17 := M16.new (by decide) (t := 21) (n := 2) rfl rfl
  have N17_0 := N17.ej (j := 17) (z := 0) (x := 407951539) (by decide) rfl (by decide)
  have N17_1 := N17_0.ej (j := 17) (z := 1) (x := 67155) (by decide) rfl (by decide)
  have F17 := N17_1.fld (by decide) (by decide) (f := 32) (p := 95) rfl rfl
  obtain ⟨S17, eS17⟩ : ∃ x, x = setR (setJ (setJ (newA S16 21 2) 95 (0 : Int).toNat (w 407951539)) 95 (1 : Int).toNat (w 67155)) 78 32 95 := ⟨_, rfl⟩
  have M17 : MPar S17 17 17 (pu (pu (pu (pu (pu (pu (pu (pu (pu (pu (pu (pu (pu (pu (pu (pu (fun _ _ => 0) 0 (17 : Nat) (-1)) 15 0 525541) 15 1 632645) 15 2 215205) 15 3 20332179) 15 4 17800013413) 15 5 664997) 15 6 441828) 16 0 664997) 16 1 146885) 16 2 404362868) 16 3 403141) 16 4 215205) 16 5 17800013413) 17 0 407951539) 17 1 67155) := by rw [eS17]; exact F17
  have z17 : sZ S17 = sZ S16 + 2 := by rw [eS17]; rfl
  have g17 : Gr (fun q => 78 ≤ q ∧ q < 106) S16 S17 := by rw [eS17]; exact ((((grn (s := S16) (t := 21) (n := 2) (by rw [M16.2.1]; omega)).tr ((Fr.sj (F := fun q => 78 ≤ q ∧ q < 106) (by omega)).gr)).tr ((Fr.sj (F := fun q => 78 ≤ q ∧ q < 106) (by omega)).gr)).tr (gr_setR (F := fun q => 78 ≤ q ∧ q < 106) (by omega)))
  have t17 : sT (newA S16 21 2) 78 = 13 := N17.1
  have W18 : nwA S17 21 (nI 13) = some (96, newA S17 21 13) := by have := nwA_s (s := S17) (t := 21) (z := 13) (by rw [M17.2.1]; omega) (by omega); rw [M17.2.1] at this; exact this
  have N18 := M17.new (by decide) (t := 21) (n := 13) rfl rfl
  have F18 := N18.fld (by decide) (by decide) (f := 34) (p := 96) rfl rfl
  obtain ⟨S18, eS18⟩ : ∃ x, x = setR (newA S17 21 13) 78 34 96 := ⟨_, rfl⟩
  have M18 : MPar S18 18 18 (pu (pu (pu (pu (pu (pu (pu (pu (pu (pu (pu (pu (pu (pu (pu (pu (fun _ _ => 0) 0 (17 : Nat) (-1)) 15 0 525541) 15 1 632645) 15 2 215205) 15 3 20332179) 15 4 17800013413) 15 5 664997) 15 6 441828) 16 0 664997) 16 1 146885) 16 2 404362868) 16 3 403141) 16 4 215205) 16 5 17800013413) 17 0 407951539) 17 1 67155) := by rw [eS18]; exact F18
  have z18 : sZ S18 = sZ S17 + 13 := by rw [eS18]; rfl
  have g18 : Gr (fun q => 78 ≤ q ∧ q < 106) S17 S18 := by rw [eS18]; exact ((grn (s := S17) (t := 21) (n := 13) (by rw [M17.2.1]; omega)).tr (gr_setR (F := fun q => 78 ≤ q ∧ q < 106) (by omega)))
  have t18 : sT (newA S17 21 13) 78 = 13 := N18.1
  have W19 : nwA S18 21 (nI 13) = some (97, newA S18 21 13) := by have := nwA_s (s := S18) (t := 21) (z := 13) (by rw [M18.2.1]; omega) (by omega); rw [M18.2.1] at this; exact this
  have N19 := M18.new (by decide) (t := 21) (n := 13) rfl rfl
  have F19 := N19.fld (by decide) (by decide) (f := 35) (p := 97) rfl rfl
  obtain ⟨S19, eS19⟩ : ∃ x, x = setR (newA S18 21 13) 78 35 97 := ⟨_, rfl⟩
  have M19 : MPar S19 19 19 (pu (pu (pu (pu (pu (pu (pu (pu (pu (pu (pu (pu (pu (pu (pu (pu (fun _ _ => 0) 0 (17 : Nat) (-1)) 15 0 525541) 15 1 632645) 15 2 215205) 15 3 20332179) 15 4 17800013413) 15 5 664997) 15 6 441828) 16 0 664997) 16 1 146885) 16 2 404362868) 16 3 403141) 16 4 215205) 16 5 17800013413) 17 0 407951539) 17 1 67155) := by rw [eS19]; exact F19
  have z19 : sZ S19 = sZ S18 + 13 := by rw [eS19]; rfl
  have g19 : Gr (fun q => 78 ≤ q ∧ q < 106) S18 S19 := by rw [eS19]; exact ((grn (s := S18) (t := 21) (n := 13) (by rw [M18.2.1]; omega)).tr (gr_setR (F := fun q => 78 ≤ q ∧ q < 106) (by omega)))
  have t19 : sT (newA S18 21 13) 78 = 13 := N19.1
  have W20 : nwA S19 21 (nI 400) = some (98, newA S19 21 400) := by have := nwA_s (s := S19) (t := 21) (z := 400) (by rw [M19.2.1]; omega) (by omega); rw [M19.2.1] at this; exact this
  have N20 := M19.new (by decide) (t := 21) (n := 400) rfl rfl
  have F20 := N20.fld (by decide) (by decide) (f := 36) (p := 98) rfl rfl
  obtain ⟨S20, eS20⟩ : ∃ x, x = setR (newA S19 21 400) 78 36 98 := ⟨_, rfl⟩
  have M20 : MPar S20 20 20 (pu (pu (pu (pu (pu (pu (pu (pu (pu (pu (pu (pu (pu (pu (pu (pu (fun _ _ => 0) 0 (17 : Nat) (-1)) 15 0 525541) 15 1 632645) 15 2 215205) 15 3 20332179) 15 4 17800013413) 15 5 664997) 15 6 441828) 16 0 664997) 16 1 146885) 16 2 404362868) 16 3 403141) 16 4 215205) 16 5 17800013413) 17 0 407951539) 17 1 67155) := by rw [eS20]; exact F20
  have z20 : sZ S20 = sZ S19 + 400 := by rw [eS20]; rfl
  have g20 : Gr (fun q => 78 ≤ q ∧ q < 106) S19 S20 := by rw [eS20]; exact ((grn (s := S19) (t := 21) (n := 400) (by rw [M19.2.1]; omega)).tr (gr_setR (F := fun q => 78 ≤ q ∧ q < 106) (by omega)))
  have t20 : sT (newA S19 21 400) 78 = 13 := N20.1
  have W21 : nwA S20 20 (nI 64) = some (99, newA S20 20 64) := by have := nwA_s (s := S20) (t := 20) (z := 64) (by rw [M20.2.1]; omega) (by omega); rw [M20.2.1] at this; exact this
  have N21 := M20.new (by decide) (t := 20) (n := 64) rfl rfl
  have F21 := N21.fld (by decide) (by decide) (f := 40) (p := 99) rfl rfl
  have F21_41 := F21.f0 (q := 41) (x := -1)
  have F21_42 := F21_41.f0 (q := 42) (x := -1)
  obtain ⟨S21, eS21⟩ : ∃ x, x = setI (setI (setR (newA S20 20 64) 78 40 99) 78 41 (v (-1))) 78 42 (v (-1)) := ⟨_, rfl⟩
  have M21 : MPar S21 21 21 (pu (pu (pu (pu (pu (pu (pu (pu (pu (pu (pu (pu (pu (pu (pu (pu (pu (pu (fun _ _ => 0) 0 (17 : Nat) (-1)) 15 0 525541) 15 1 632645) 15 2 215205) 15 3 20332179) 15 4 17800013413) 15 5 664997) 15 6 441828) 16 0 664997) 16 1 146885) 16 2 404362868) 16 3 403141) 16 4 215205) 16 5 17800013413) 17 0 407951539) 17 1 67155) 0 (41 : Nat) (-1)) 0 (42 : Nat) (-1)) := by rw [eS21]; exact F21_42
  have z21 : sZ S21 = sZ S20 + 64 := by rw [eS21]; rfl
  have g21 : Gr (fun q => 78 ≤ q ∧ q < 106) S20 S21 := by rw [eS21]; exact ((((grn (s := S20) (t := 20) (n := 64) (by rw [M20.2.1]; omega)).tr (gr_setR (F := fun q => 78 ≤ q ∧ q < 106) (by omega))).tr ((Fr.si (F := fun q => 78 ≤ q ∧ q < 106) (by omega)).gr)).tr ((Fr.si (F := fun q => 78 ≤ q ∧ q < 106) (by omega)).gr))
  have t21 : sT (newA S20 20 64) 78 = 13 := N21.1
  have W22 : nwA S21 20 (nI 200) = some (100, newA S21 20 200) := by have := nwA_s (s := S21) (t := 20) (z := 200) (by rw [M21.2.1]; omega) (by omega); rw [M21.2.1] at this; exact this
  have N22 := M21.new (by decide) (t := 20) (n := 200) rfl rfl
  have F22 := N22.fld (by decide) (by decide) (f := 43) (p := 100) rfl rfl
  obtain ⟨S22, eS22⟩ : ∃ x, x = setR (newA S21 20 200) 78 43 100 := ⟨_, rfl⟩
  have M22 : MPar S22 22 22 (pu (pu (pu (pu (pu (pu (pu (pu (pu (pu (pu (pu (pu (pu (pu (pu (pu (pu (fun _ _ => 0) 0 (17 : Nat) (-1)) 15 0 525541) 15 1 632645) 15 2 215205) 15 3 20332179) 15 4 17800013413) 15 5 664997) 15 6 441828) 16 0 664997) 16 1 146885) 16 2 404362868) 16 3 403141) 16 4 215205) 16 5 17800013413) 17 0 407951539) 17 1 67155) 0 (41 : Nat) (-1)) 0 (42 : Nat) (-1)) := by rw [eS22]; exact F22
  have z22 : sZ S22 = sZ S21 + 200 := by rw [eS22]; rfl
  have g22 : Gr (fun q => 78 ≤ q ∧ q < 106) S21 S22 := by rw [eS22]; exact ((grn (s := S21) (t := 20) (n := 200) (by rw [M21.2.1]; omega)).tr (gr_setR (F := fun q => 78 ≤ q ∧ q < 106) (by omega)))
  have t22 : sT (newA S21 20 200) 78 = 13 := N22.1
  have W23 : nwA S22 20 (nI 200) = some (101, newA S22 20 200) := by have := nwA_s (s := S22) (t := 20) (z := 200) (by rw [M22.2.1]; omega) (by omega); rw [M22.2.1] at this; exact this
  have N23 := M22.new (by decide) (t := 20) (n := 200) rfl rfl
  have F23 := N23.fld (by decide) (by decide) (f := 45) (p := 101) rfl rfl
  obtain ⟨S23, eS23⟩ : ∃ x, x = setR (newA S22 20 200) 78 45 101 := ⟨_, rfl⟩
  have M23 : MPar S23 23 23 (pu (pu (pu (pu (pu (pu (pu (pu (pu (pu (pu (pu (pu (pu (pu (pu (pu (pu (fun _ _ => 0) 0 (17 : Nat) (-1)) 15 0 525541) 15 1 632645) 15 2 215205) 15 3 20332179) 15 4 17800013413) 15 5 664997) 15 6 441828) 16 0 664997) 16 1 146885) 16 2 404362868) 16 3 403141) 16 4 215205) 16 5 17800013413) 17 0 407951539) 17 1 67155) 0 (41 : Nat) (-1)) 0 (42 : Nat) (-1)) := by rw [eS23]; exact F23
  have z23 : sZ S23 = sZ S22 + 200 := by rw [eS23]; rfl
  have g23 : Gr (fun q => 78 ≤ q ∧ q < 106) S22 S23 := by rw [eS23]; exact ((grn (s := S22) (t := 20) (n := 200) (by rw [M22.2.1]; omega)).tr (gr_setR (F := fun q => 78 ≤ q ∧ q < 106) (by omega)))
  have t23 : sT (newA S22 20 200) 78 = 13 := N23.1
  have W24 : nwA S23 21 (nI 21) = some (102, newA S23 21 21) := by have := nwA_s (s := S23) (t := 21) (z := 21) (by rw [M23.2.1]; omega) (by omega); rw [M23.2.1] at this; exact this
  have N24 := M23.new (by decide) (t := 21) (n := 21) rfl rfl
  have F24 := N24.fld (by decide) (by decide) (f := 47) (p := 102) rfl rfl
  obtain ⟨S24, eS24⟩ : ∃ x, x = setR (newA S23 21 21) 78 47 102 := ⟨_, rfl⟩
  have M24 : MPar S24 24 24 (pu (pu (pu (pu (pu (pu (pu (pu (pu (pu (pu (pu (pu (pu (pu (pu (pu (pu (fun _ _ => 0) 0 (17 : Nat) (-1)) 15 0 525541) 15 1 632645) 15 2 215205) 15 3 20332179) 15 4 17800013413) 15 5 664997) 15 6 441828) 16 0 664997) 16 1 146885) 16 2 404362868) 16 3 403141) 16 4 215205) 16 5 17800013413) 17 0 407951539) 17 1 67155) 0 (41 : Nat) (-1)) 0 (42 : Nat) (-1)) := by rw [eS24]; exact F24
  have z24 : sZ S24 = sZ S23 + 21 := by rw [eS24]; rfl
  have g24 : Gr (fun q => 78 ≤ q ∧ q < 106) S23 S24 := by rw [eS24]; exact ((grn (s := S23) (t := 21) (n := 21) (by rw [M23.2.1]; omega)).tr (gr_setR (F := fun q => 78 ≤ q ∧ q < 106) (by omega)))
  have t24 : sT (newA S23 21 21) 78 = 13 := N24.1
  have W25 : nwA S24 21 (nI 5) = some (103, newA S24 21 5) := by have := nwA_s (s := S24) (t := 21) (z := 5) (by rw [M24.2.1]; omega) (by omega); rw [M24.2.1] at this; exact this
  have N25 := M24.new (by decide) (t := 21) (n := 5) rfl rfl
  have N25_0 := N25.ej (j := 25) (z := 0) (x := 17076) (by decide) rfl (by decide)
  have N25_1 := N25_0.ej (j := 25) (z := 1) (x := 248311) (by decide) rfl (by decide)
  have N25_2 := N25_1.ej (j := 25) (z := 2) (x := 150000) (by decide) rfl (by decide)
  have N25_3 := N25_2.ej (j := 25) (z := 3) (x := 525419) (by decide) rfl (by decide)
  have N25_4 := N25_3.ej (j := 25) (z := 4) (x := 431556) (by decide) rfl (by decide)
  have F25 := N25_4.fld (by decide) (by decide) (f := 48) (p := 103) rfl rfl
  obtain ⟨S25, eS25⟩ : ∃ x, x = setR (setJ (setJ (setJ (setJ (setJ (newA S24 21 5) 103 (0 : Int).toNat (w 17076)) 103 (1 : Int).toNat (w 248311)) 103 (2 : Int).toNat (w 150000)) 103 (3 : Int).toNat (w 525419)) 103 (4 : Int).toNat (w 431556)) 78 48 103 := ⟨_, rfl⟩
  have M25 : MPar S25 25 25 (pu (pu (pu (pu (pu (pu (pu (pu (pu (pu (pu (pu (pu (pu (pu (pu (pu (pu (pu (pu (pu (pu (pu (fun _ _ => 0) 0 (17 : Nat) (-1)) 15 0 525541) 15 1 632645) 15 2 215205) 15 3 20332179) 15 4 17800013413) 15 5 664997) 15 6 441828) 16 0 664997) 16 1 146885) 16 2 404362868) 16 3 403141) 16 4 215205) 16 5 17800013413) 17 0 407951539) 17 1 67155) 0 (41 : Nat) (-1)) 0 (42 : Nat) (-1)) 25 0 17076) 25 1 248311) 25 2 150000) 25 3 525419) 25 4 431556) := by rw [eS25]; exact F25
  have z25 : sZ S25 = sZ S24 + 5 := by rw [eS25]; rfl
  have g25 : Gr (fun q => 78 ≤ q ∧ q < 106) S24 S25 := by rw [eS25]; exact (((((((grn (s := S24) (t := 21) (n := 5) (by rw [M24.2.1]; omega)).tr ((Fr.sj (F := fun q => 78 ≤ q ∧ q < 106) (by omega)).gr)).tr ((Fr.sj (F := fun q => 78 ≤ q ∧ q < 106) (by omega)).gr)).tr ((Fr.sj (F := fun q => 78 ≤ q ∧ q < 106) (by omega)).gr)).tr ((Fr.sj (F := fun q => 78 ≤ q ∧ q < 106) (by omega)).gr)).tr ((Fr.sj (F := fun q => 78 ≤ q ∧ q < 106) (by omega)).gr)).tr (gr_setR (F := fun q => 78 ≤ q ∧ q < 106) (by omega)))
  have t25 : sT (newA S24 21 5) 78 = 13 := N25.1
  have W26 : nwA S25 20 (nI 96) = some (104, newA S25 20 96) := by have := nwA_s (s := S25) (t := 20) (z := 96) (by rw [M25.2.1]; omega) (by omega); rw [M25.2.1] at this; exact this
  have N26 := M25.new (by decide) (t := 20) (n := 96) rfl rfl
  have F26 := N26.fld (by decide) (by decide) (f := 49) (p := 104) rfl rfl
  have F26_52 := F26.f0 (q := 52) (x := -1)
  obtain ⟨S26, eS26⟩ : ∃ x, x = setI (setR (newA S25 20 96) 78 49 104) 78 52 (v (-1)) := ⟨_, rfl⟩
  have M26 : MPar S26 26 26 (pu (pu (pu (pu (pu (pu (pu (pu (pu (pu (pu (pu (pu (pu (pu (pu (pu (pu (pu (pu (pu (pu (pu (pu (fun _ _ => 0) 0 (17 : Nat) (-1)) 15 0 525541) 15 1 632645) 15 2 215205) 15 3 20332179) 15 4 17800013413) 15 5 664997) 15 6 441828) 16 0 664997) 16 1 146885) 16 2 404362868) 16 3 403141) 16 4 215205) 16 5 17800013413) 17 0 407951539) 17 1 67155) 0 (41 : Nat) (-1)) 0 (42 : Nat) (-1)) 25 0 17076) 25 1 248311) 25 2 150000) 25 3 525419) 25 4 431556) 0 (52 : Nat) (-1)) := by rw [eS26]; exact F26_52
  have z26 : sZ S26 = sZ S25 + 96 := by rw [eS26]; rfl
  have g26 : Gr (fun q => 78 ≤ q ∧ q < 106) S25 S26 := by rw [eS26]; exact (((grn (s := S25) (t := 20) (n := 96) (by rw [M25.2.1]; omega)).tr (gr_setR (F := fun q => 78 ≤ q ∧ q < 106) (by omega))).tr ((Fr.si (F := fun q => 78 ≤ q ∧ q < 106) (by omega)).gr))
  have t26 : sT (newA S25 20 96) 78 = 13 := N26.1
  have W27 : nwA S26 20 (nI 24) = some (105, newA S26 20 24) := by have := nwA_s (s := S26) (t := 20) (z := 24) (by rw [M26.2.1]; omega) (by omega); rw [M26.2.1] at this; exact this
  have N27 := M26.new (by decide) (t := 20) (n := 24) rfl rfl
  have F27 := N27.fld (by decide) (by decide) (f := 55) (p := 105) rfl rfl
  obtain ⟨S27, eS27⟩ : ∃ x, x = setR (newA S26 20 24) 78 55 105 := ⟨_, rfl⟩
  have M27 : MPar S27 27 27 (pu (pu (pu (pu (pu (pu (pu (pu (pu (pu (pu (pu (pu (pu (pu (pu (pu (pu (pu (pu (pu (pu (pu (pu (fun _ _ => 0) 0 (17 : Nat) (-1)) 15 0 525541) 15 1 632645) 15 2 215205) 15 3 20332179) 15 4 17800013413) 15 5 664997) 15 6 441828) 16 0 664997) 16 1 146885) 16 2 404362868) 16 3 403141) 16 4 215205) 16 5 17800013413) 17 0 407951539) 17 1 67155) 0 (41 : Nat) (-1)) 0 (42 : Nat) (-1)) 25 0 17076) 25 1 248311) 25 2 150000) 25 3 525419) 25 4 431556) 0 (52 : Nat) (-1)) := by rw [eS27]; exact F27
  have z27 : sZ S27 = sZ S26 + 24 := by rw [eS27]; rfl
  have g27 : Gr (fun q => 78 ≤ q ∧ q < 106) S26 S27 := by rw [eS27]; exact ((grn (s := S26) (t := 20) (n := 24) (by rw [M26.2.1]; omega)).tr (gr_setR (F := fun q => 78 ≤ q ∧ q < 106) (by omega)))
  have t27 : sT (newA S26 20 24) 78 = 13 := N27.1
  have L1 := M27.ei (j := 2) (z := 1) (x := -1) (by decide) (by decide) (by decide) (by decide)
  have L2 := L1.ei (j := 2) (z := 3) (x := 1) (by decide) (by decide) (by decide) (by decide)
  obtain ⟨SL, eSL⟩ : ∃ x, x = setI (setI S27 (78 + 2) (1 : Int).toNat (v (-1))) (78 + 2) (3 : Int).toNat (v 1) := ⟨_, rfl⟩
  have gL : Gr (fun q => 78 ≤ q ∧ q < 106) S27 SL := by rw [eSL]; exact ((Fr.si (F := fun q => 78 ≤ q ∧ q < 106) (by omega)).tr (Fr.si (by omega))).gr
  have zL : sZ SL = sZ S27 := by rw [eSL]; rfl
  have XL : sX SL = 106 := by rw [eSL]; exact M27.2.1
  have ML : MR SL 78 (pu (pu (pu (pu (pu (pu (pu (pu (pu (pu (pu (pu (pu (pu (pu (pu (pu (pu (pu (pu (pu (pu (pu (pu (pu (pu (fun _ _ => 0) 0 (17 : Nat) (-1)) 15 0 525541) 15 1 632645) 15 2 215205) 15 3 20332179) 15 4 17800013413) 15 5 664997) 15 6 441828) 16 0 664997) 16 1 146885) 16 2 404362868) 16 3 403141) 16 4 215205) 16 5 17800013413) 17 0 407951539) 17 1 67155) 0 (41 : Nat) (-1)) 0 (42 : Nat) (-1)) 25 0 17076) 25 1 248311) 25 2 150000) 25 3 525419) 25 4 431556) 0 (52 : Nat) (-1)) 2 1 (-1)) 2 3 1) := by rw [eSL]; exact L2.mr
  obtain ⟨AL, eAL⟩ : ∃ x, x = (pu (pu (pu (pu (pu (pu (pu (pu (pu (pu (pu (pu (pu (pu (pu (pu (pu (pu (pu (pu (pu (pu (pu (pu (pu (pu (fun _ _ => 0) 0 (17 : Nat) (-1)) 15 0 525541) 15 1 632645) 15 2 215205) 15 3 20332179) 15 4 17800013413) 15 5 664997) 15 6 441828) 16 0 664997) 16 1 146885) 16 2 404362868) 16 3 403141) 16 4 215205) 16 5 17800013413) 17 0 407951539) 17 1 67155) 0 (41 : Nat) (-1)) 0 (42 : Nat) (-1)) 25 0 17076) 25 1 248311) 25 2 150000) 25 3 525419) 25 4 431556) 0 (52 : Nat) (-1)) 2 1 (-1)) 2 3 1) := ⟨_, rfl⟩
  have ML' : MR SL 78 AL := by rw [eAL]; exact ML
  obtain ⟨F, A, q1, q2, q3, q4, q5, q6⟩ := m_init386 (A0 := AL) 8 fuel 0 SL AL (by omega) (by omega) (by unfold fuel; omega) ML' (AF.rf _ _) (fun p p0 p1 => by omega) (fun z _ => rfl)
  have gg : Gr (fun q => 78 ≤ q ∧ q < 106) s SL := ((((((((((((((((((((((((((((g0.tr g1).tr g2).tr g3).tr g4).tr g5).tr g6).tr g7).tr g8).tr g9).tr g10).tr g11).tr g12).tr g13).tr g14).tr g15).tr g16).tr g17).tr g18).tr g19).tr g20).tr g21).tr g22).tr g23).tr g24).tr g25).tr g26).tr g27).tr gL)
  have r0 : ∀ z, A 0 z = AL 0 z := fun z => q3 0 z (by omega)
  have rA : ∀ (j : Nat) (z : Int), j ≠ 2 → A j z = AL j z := fun j z h => q3 j z (fun d => h d.1)
  have a2 : ∀ z : Int, z ≠ 1 → z ≠ 3 → AL 2 z = 0 := fun z h1 h3 => by
    rw [eAL, pu_ne _ _ _ _ (fun d => h3 d.2), pu_ne _ _ _ _ (fun d => h1 d.2)]
    rfl
  refine ⟨F, A, ?_, q2, ⟨⟨?_, by show (0 : Int) ≤ 0 ∧ (0 : Int) ≤ 400; decide, fun z z0 z1 => absurd (show z < 0 from z1) (by omega)⟩, ⟨?_, ?_, ?_, ?_⟩, ⟨?_, Or.inl ⟨rfl, ?_, ?_⟩⟩, ⟨?_, ?_, ⟨?_, ?_, ?_⟩, fun i CL h => (by cases h)⟩, ⟨fun p hp => ?_, fun p hp => ?_, fun p i hp => ?_, fun p i hp => absurd rfl hp.2, fun p i hp => ?_, fun p y hp => ?_, fun p i hp => ?_⟩, ⟨?_, by decide, fun i x h => (by simp at h)⟩, fun k hk => ?_, ⟨?_, ?_, ?_⟩, ⟨?_, ?_, ?_, ?_, ?_⟩, ⟨?_, fun z z0 z1 => absurd (show z < 0 from z1) (by omega)⟩, ?_⟩, ?_, ?_, fun q hq => ?_⟩
  · rw [← eS0]
    unfold f_M_init
    rw [if_pos (show ¬ 78 = 0 by decide)]
    rw [W1, Option.bind_some]
    rw [if_pos t1]
    show (nwA (setR (newA S0 20 7) 78 2 79) 20 (nI 6221)).bind _ = _
    rw [← eS1]
    rw [W2, Option.bind_some]
    rw [if_pos t2]
    show (nwA (setR (newA S1 20 6221) 78 3 80) 20 (nI 12442)).bind _ = _
    rw [← eS2]
    rw [W3, Option.bind_some]
    rw [if_pos t3]
    show (nwA (setR (newA S2 20 12442) 78 4 81) 22 (nI 2)).bind _ = _
    rw [← eS3]
    rw [W4, Option.bind_some]
    rw [if_pos t4]
    show (nwA (setR (newA S3 22 2) 78 5 82) 20 (nI 15504)).bind _ = _
    rw [← eS4]
    rw [W5, Option.bind_some]
    rw [if_pos t5]
    show (nwA (setR (newA S4 20 15504) 78 6 83) 20 (nI 16)).bind _ = _
    rw [← eS5]
    rw [W6, Option.bind_some]
    rw [if_pos t6]
    show (nwA (setR (newA S5 20 16) 78 7 84) 20 (nI 13056)).bind _ = _
    rw [← eS6]
    rw [W7, Option.bind_some]
    rw [if_pos t7]
    show (nwA (setR (newA S6 20 13056) 78 9 85) 20 (nI 16)).bind _ = _
    rw [← eS7]
    rw [W8, Option.bind_some]
    rw [if_pos t8]
    show (nwA (setR (newA S7 20 16) 78 10 86) 20 (nI 400)).bind _ = _
    rw [← eS8]
    rw [W9, Option.bind_some]
    rw [if_pos t9]
    show (nwA (setI (setR (newA S8 20 400) 78 11 87) 78 17 (v (-1))) 20 (nI 96)).bind _ = _
    rw [← eS9]
    rw [W10, Option.bind_some]
    rw [if_pos t10]
    show (nwA (setR (newA S9 20 96) 78 21 88) 20 (nI 400)).bind _ = _
    rw [← eS10]
    rw [W11, Option.bind_some]
    rw [if_pos t11]
    show (nwA (setR (newA S10 20 400) 78 23 89) 20 (nI 400)).bind _ = _
    rw [← eS11]
    rw [W12, Option.bind_some]
    rw [if_pos t12]
    show (nwA (setR (newA S11 20 400) 78 24 90) 20 (nI 400)).bind _ = _
    rw [← eS12]
    rw [W13, Option.bind_some]
    rw [if_pos t13]
    show (nwA (setR (newA S12 20 400) 78 26 91) 20 (nI 400)).bind _ = _
    rw [← eS13]
    rw [W14, Option.bind_some]
    rw [if_pos t14]
    show (nwA (setR (newA S13 20 400) 78 27 92) 21 (nI 7)).bind _ = _
    rw [← eS14]
    rw [W15, Option.bind_some]
    rw [if_pos (show sT (newA S14 21 7) 93 = 21 ∧ inA (nI 0) (sN (newA S14 21 7) 93) from ⟨(N15.2.2.2.1 15 (by decide) (by decide)).1.1, by rw [(N15.2.2.2.1 15 (by decide) (by decide)).1.2]; exact v_inA (a := 0) (by decide) (by decide)⟩)]
    rw [if_pos (show sT (newA S14 21 7) 93 = 21 ∧ inA (nI 1) (sN (newA S14 21 7) 93) from ⟨(N15.2.2.2.1 15 (by decide) (by decide)).1.1, by rw [(N15.2.2.2.1 15 (by decide) (by decide)).1.2]; exact v_inA (a := 1) (by decide) (by decide)⟩)]
    rw [if_pos (show sT (newA S14 21 7) 93 = 21 ∧ inA (nI 2) (sN (newA S14 21 7) 93) from ⟨(N15.2.2.2.1 15 (by decide) (by decide)).1.1, by rw [(N15.2.2.2.1 15 (by decide) (by decide)).1.2]; exact v_inA (a := 2) (by decide) (by decide)⟩)]
    rw [if_pos (show sT (newA S14 21 7) 93 = 21 ∧ inA (nI 3) (sN (newA S14 21 7) 93) from ⟨(N15.2.2.2.1 15 (by decide) (by decide)).1.1, by rw [(N15.2.2.2.1 15 (by decide) (by decide)).1.2]; exact v_inA (a := 3) (by decide) (by decide)⟩)]
    rw [if_pos (show sT (newA S14 21 7) 93 = 21 ∧ inA (nI 4) (sN (newA S14 21 7) 93) from ⟨(N15.2.2.2.1 15 (by decide) (by decide)).1.1, by rw [(N15.2.2.2.1 15 (by decide) (by decide)).1.2]; exact v_inA (a := 4) (by decide) (by decide)⟩)]
    rw [if_pos (show sT (newA S14 21 7) 93 = 21 ∧ inA (nI 5) (sN (newA S14 21 7) 93) from ⟨(N15.2.2.2.1 15 (by decide) (by decide)).1.1, by rw [(N15.2.2.2.1 15 (by decide) (by decide)).1.2]; exact v_inA (a := 5) (by decide) (by decide)⟩)]
    rw [if_pos (show sT (newA S14 21 7) 93 = 21 ∧ inA (nI 6) (sN (newA S14 21 7) 93) from ⟨(N15.2.2.2.1 15 (by decide) (by decide)).1.1, by rw [(N15.2.2.2.1 15 (by decide) (by decide)).1.2]; exact v_inA (a := 6) (by decide) (by decide)⟩)]
    rw [if_pos t15]
    show (nwA (setR (setJ (setJ (setJ (setJ (setJ (setJ (setJ (newA S14 21 7) 93 (0 : Int).toNat (w 525541)) 93 (1 : Int).toNat (w 632645)) 93 (2 : Int).toNat (w 215205)) 93 (3 : Int).toNat (w 20332179)) 93 (4 : Int).toNat (w 17800013413)) 93 (5 : Int).toNat (w 664997)) 93 (6 : Int).toNat (w 441828)) 78 30 93) 21 (nI 6)).bind _ = _
    rw [← eS15]
    rw [W16, Option.bind_some]
    rw [if_pos (show sT (newA S15 21 6) 94 = 21 ∧ inA (nI 0) (sN (newA S15 21 6) 94) from ⟨(N16.2.2.2.1 16 (by decide) (by decide)).1.1, by rw [(N16.2.2.2.1 16 (by decide) (by decide)).1.2]; exact v_inA (a := 0) (by decide) (by decide)⟩)]
    rw [if_pos (show sT (newA S15 21 6) 94 = 21 ∧ inA (nI 1) (sN (newA S15 21 6) 94) from ⟨(N16.2.2.2.1 16 (by decide) (by decide)).1.1, by rw [(N16.2.2.2.1 16 (by decide) (by decide)).1.2]; exact v_inA (a := 1) (by decide) (by decide)⟩)]
    rw [if_pos (show sT (newA S15 21 6) 94 = 21 ∧ inA (nI 2) (sN (newA S15 21 6) 94) from ⟨(N16.2.2.2.1 16 (by decide) (by decide)).1.1, by rw [(N16.2.2.2.1 16 (by decide) (by decide)).1.2]; exact v_inA (a := 2) (by decide) (by decide)⟩)]
    rw [if_pos (show sT (newA S15 21 6) 94 = 21 ∧ inA (nI 3) (sN (newA S15 21 6) 94) from ⟨(N16.2.2.2.1 16 (by decide) (by decide)).1.1, by rw [(N16.2.2.2.1 16 (by decide) (by decide)).1.2]; exact v_inA (a := 3) (by decide) (by decide)⟩)]
    rw [if_pos (show sT (newA S15 21 6) 94 = 21 ∧ inA (nI 4) (sN (newA S15 21 6) 94) from ⟨(N16.2.2.2.1 16 (by decide) (by decide)).1.1, by rw [(N16.2.2.2.1 16 (by decide) (by decide)).1.2]; exact v_inA (a := 4) (by decide) (by decide)⟩)]
    rw [if_pos (show sT (newA S15 21 6) 94 = 21 ∧ inA (nI 5) (sN (newA S15 21 6) 94) from ⟨(N16.2.2.2.1 16 (by decide) (by decide)).1.1, by rw [(N16.2.2.2.1 16 (by decide) (by decide)).1.2]; exact v_inA (a := 5) (by decide) (by decide)⟩)]
    rw [if_pos t16]
    show (nwA (setR (setJ (setJ (setJ (setJ (setJ (setJ (newA S15 21 6) 94 (0 : Int).toNat (w 664997)) 94 (1 : Int).toNat (w 146885)) 94 (2 : Int).toNat (w 404362868)) 94 (3 : Int).toNat (w 403141)) 94 (4 : Int).toNat (w 215205)) 94 (5 : Int).toNat (w 17800013413)) 78 31 94) 21 (nI 2)).bind _ = _
    rw [← eS16]
    rw [W17, Option.bind_some]
    rw [if_pos (show sT (newA S16 21 2) 95 = 21 ∧ inA (nI 0) (sN (newA S16 21 2) 95) from ⟨(N17.2.2.2.1 17 (by decide) (by decide)).1.1, by rw [(N17.2.2.2.1 17 (by decide) (by decide)).1.2]; exact v_inA (a := 0) (by decide) (by decide)⟩)]
    rw [if_pos (show sT (newA S16 21 2) 95 = 21 ∧ inA (nI 1) (sN (newA S16 21 2) 95) from ⟨(N17.2.2.2.1 17 (by decide) (by decide)).1.1, by rw [(N17.2.2.2.1 17 (by decide) (by decide)).1.2]; exact v_inA (a := 1) (by decide) (by decide)⟩)]
    rw [if_pos t17]
    show (nwA (setR (setJ (setJ (newA S16 21 2) 95 (0 : Int).toNat (w 407951539)) 95 (1 : Int).toNat (w 67155)) 78 32 95) 21 (nI 13)).bind _ = _
    rw [← eS17]
    rw [W18, Option.bind_some]
    rw [if_pos t18]
    show (nwA (setR (newA S17 21 13) 78 34 96) 21 (nI 13)).bind _ = _
    rw [← eS18]
    rw [W19, Option.bind_some]
    rw [if_pos t19]
    show (nwA (setR (newA S18 21 13) 78 35 97) 21 (nI 400)).bind _ = _
    rw [← eS19]
    rw [W20, Option.bind_some]
    rw [if_pos t20]
    show (nwA (setR (newA S19 21 400) 78 36 98) 20 (nI 64)).bind _ = _
    rw [← eS20]
    rw [W21, Option.bind_some]
    rw [if_pos t21]
    show (nwA (setI (setI (setR (newA S20 20 64) 78 40 99) 78 41 (v (-1))) 78 42 (v (-1))) 20 (nI 200)).bind _ = _
    rw [← eS21]
    rw [W22, Option.bind_some]
    rw [if_pos t22]
    show (nwA (setR (newA S21 20 200) 78 43 100) 20 (nI 200)).bind _ = _
    rw [← eS22]
    rw [W23, Option.bind_some]
    rw [if_pos t23]
    show (nwA (setR (newA S22 20 200) 78 45 101) 21 (nI 21)).bind _ = _
    rw [← eS23]
    rw [W24, Option.bind_some]
    rw [if_pos t24]
    show (nwA (setR (newA S23 21 21) 78 47 102) 21 (nI 5)).bind _ = _
    rw [← eS24]
    rw [W25, Option.bind_some]
    rw [if_pos (show sT (newA S24 21 5) 103 = 21 ∧ inA (nI 0) (sN (newA S24 21 5) 103) from ⟨(N25.2.2.2.1 25 (by decide) (by decide)).1.1, by rw [(N25.2.2.2.1 25 (by decide) (by decide)).1.2]; exact v_inA (a := 0) (by decide) (by decide)⟩)]
    rw [if_pos (show sT (newA S24 21 5) 103 = 21 ∧ inA (nI 1) (sN (newA S24 21 5) 103) from ⟨(N25.2.2.2.1 25 (by decide) (by decide)).1.1, by rw [(N25.2.2.2.1 25 (by decide) (by decide)).1.2]; exact v_inA (a := 1) (by decide) (by decide)⟩)]
    rw [if_pos (show sT (newA S24 21 5) 103 = 21 ∧ inA (nI 2) (sN (newA S24 21 5) 103) from ⟨(N25.2.2.2.1 25 (by decide) (by decide)).1.1, by rw [(N25.2.2.2.1 25 (by decide) (by decide)).1.2]; exact v_inA (a := 2) (by decide) (by decide)⟩)]
    rw [if_pos (show sT (newA S24 21 5) 103 = 21 ∧ inA (nI 3) (sN (newA S24 21 5) 103) from ⟨(N25.2.2.2.1 25 (by decide) (by decide)).1.1, by rw [(N25.2.2.2.1 25 (by decide) (by decide)).1.2]; exact v_inA (a := 3) (by decide) (by decide)⟩)]
    rw [if_pos (show sT (newA S24 21 5) 103 = 21 ∧ inA (nI 4) (sN (newA S24 21 5) 103) from ⟨(N25.2.2.2.1 25 (by decide) (by decide)).1.1, by rw [(N25.2.2.2.1 25 (by decide) (by decide)).1.2]; exact v_inA (a := 4) (by decide) (by decide)⟩)]
    rw [if_pos t25]
    show (nwA (setR (setJ (setJ (setJ (setJ (setJ (newA S24 21 5) 103 (0 : Int).toNat (w 17076)) 103 (1 : Int).toNat (w 248311)) 103 (2 : Int).toNat (w 150000)) 103 (3 : Int).toNat (w 525419)) 103 (4 : Int).toNat (w 431556)) 78 48 103) 20 (nI 96)).bind _ = _
    rw [← eS25]
    rw [W26, Option.bind_some]
    rw [if_pos t26]
    show (nwA (setI (setR (newA S25 20 96) 78 49 104) 78 52 (v (-1))) 20 (nI 24)).bind _ = _
    rw [← eS26]
    rw [W27, Option.bind_some]
    rw [if_pos t27]
    rw [show sR (setR (newA S26 20 24) 78 55 105) 78 3 = 80 from F27.2.2.1 2 (by decide) (by decide)]
    rw [if_pos (show sT (newA S26 20 24) 80 = 20 ∧ inA (nI 1) (sN (newA S26 20 24) 80) from ⟨(N27.2.2.2.1 2 (by decide) (by decide)).1.1, by rw [(N27.2.2.2.1 2 (by decide) (by decide)).1.2]; exact v_inA (a := 1) (by decide) (by decide)⟩)]
    rw [if_pos (show sT (newA S26 20 24) 80 = 20 ∧ inA (nI 3) (sN (newA S26 20 24) 80) from ⟨(N27.2.2.2.1 2 (by decide) (by decide)).1.1, by rw [(N27.2.2.2.1 2 (by decide) (by decide)).1.2]; exact v_inA (a := 3) (by decide) (by decide)⟩)]
    show l_M_init_386 fuel 78 (v 0) (setI (setI (setR (newA S26 20 24) 78 55 105) (78 + 2) (1 : Int).toNat (v (-1))) (78 + 2) (3 : Int).toNat (v 1)) = some F
    rw [← eS27, ← eSL]
    exact q1
  · rw [r0, eAL]; rfl
  · intro k x h
    rw [rA 15 _ (by decide), eAL]
    rcases k with _ | k
    · cases h; rfl
    rcases k with _ | k
    · cases h; rfl
    rcases k with _ | k
    · cases h; rfl
    rcases k with _ | k
    · cases h; rfl
    rcases k with _ | k
    · cases h; rfl
    rcases k with _ | k
    · cases h; rfl
    rcases k with _ | k
    · cases h; rfl
    exact absurd (List.getElem?_eq_some_iff.mp h).1 (by show ¬ (k + 1 + 1 + 1 + 1 + 1 + 1 + 1) < 7; omega)
  · intro k x h
    rw [rA 16 _ (by decide), eAL]
    rcases k with _ | k
    · cases h; rfl
    rcases k with _ | k
    · cases h; rfl
    rcases k with _ | k
    · cases h; rfl
    rcases k with _ | k
    · cases h; rfl
    rcases k with _ | k
    · cases h; rfl
    rcases k with _ | k
    · cases h; rfl
    exact absurd (List.getElem?_eq_some_iff.mp h).1 (by show ¬ (k + 1 + 1 + 1 + 1 + 1 + 1) < 6; omega)
  · intro k x h
    rw [rA 17 _ (by decide), eAL]
    rcases k with _ | k
    · cases h; rfl
    rcases k with _ | k
    · cases h; rfl
    exact absurd (List.getElem?_eq_some_iff.mp h).1 (by show ¬ (k + 1 + 1) < 2; omega)
  · intro k x h
    rw [rA 25 _ (by decide), eAL]
    rcases k with _ | k
    · cases h; rfl
    rcases k with _ | k
    · cases h; rfl
    rcases k with _ | k
    · cases h; rfl
    rcases k with _ | k
    · cases h; rfl
    rcases k with _ | k
    · cases h; rfl
    exact absurd (List.getElem?_eq_some_iff.mp h).1 (by show ¬ (k + 1 + 1 + 1 + 1 + 1) < 5; omega)
  · rw [r0, eAL]; rfl
  · rw [r0, eAL]; rfl
  · rw [r0, eAL]; rfl
  · rw [q5 0 (fun p p0 p1 => by omega), a2 0 (by decide) (by decide)]; rfl
  · rw [q5 1 (fun p p0 p1 => by omega), eAL]; rfl
  · rw [q5 2 (fun p p0 p1 => by omega), a2 2 (by decide) (by decide)]; rfl
  · rw [q5 3 (fun p p0 p1 => by omega), eAL]; rfl
  · rw [q5 4 (fun p p0 p1 => by omega), a2 4 (by decide) (by decide)]; rfl
  · rw [q5 _ (fun r r0 r1 => by omega), a2 _ (by omega) (by omega)]; rfl
  · rw [q4 p hp.1 hp.2]; rfl
  · rw [q5 _ (fun r r0 r1 => by omega), a2 _ (by omega) (by omega)]; rfl
  · rw [q5 _ (fun r r0 r1 => by omega), a2 _ (by omega) (by omega)]; rfl
  · rw [q5 _ (fun r r0 r1 => by omega), a2 _ (by omega) (by omega)]; rfl
  · rw [q5 _ (fun r r0 r1 => by omega), a2 _ (by omega) (by omega)]; decide
  · rw [r0, eAL]; rfl
  · show A 4 k = 0; rw [rA 4 _ (by decide), eAL]; rfl
  · rw [r0, eAL]; rfl
  · rw [r0, eAL]; rfl
  · rw [r0, eAL]; rfl
  · rw [rA 1 _ (by decide), eAL]; rfl
  · rw [rA 1 _ (by decide), eAL]; rfl
  · rw [rA 1 _ (by decide), eAL]; rfl
  · rw [rA 1 _ (by decide), eAL]; rfl
  · rw [rA 1 _ (by decide), eAL]; rfl
  · rw [r0, eAL]; rfl
  · show A 0 56 = 0; rw [r0, eAL]; rfl
  · rw [q6.1.2.2.2.1]; exact XL
  · rw [q6.1.2.2.2.2]; omega
  · exact (gg.1 q (by omega) (by omega)).tr (q6.eqA (by omega))
