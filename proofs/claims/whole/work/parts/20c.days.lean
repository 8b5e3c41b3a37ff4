/-! PAIRS: what the reference keeps aside, and gives back -/
def Sv (A : MA) (k : Int) : Int → Int := fun z => A 7 (816 * k + (z - 5))
/-- the log that was kept aside -/
def LogS (A : MA) (L : LGS) : Prop := L.length ≤ 16 ∧ ∀ (i : Nat) (x : Int × PG), L[i]? = some x → A 8 i = x.1 ∧ PgM (Sv A i) x.2
theorem LogS.fr {A B : MA} {L : LGS} (h : LogS A L) (h7 : ∀ z, B 7 z = A 7 z) (h8 : ∀ z, B 8 z = A 8 z) : LogS B L := by
  refine ⟨h.1, fun i x hx => ?_⟩
  obtain ⟨k1, k2⟩ := h.2 i x hx
  exact ⟨by rw [h8]; exact k1, k2.cg (fun z _ _ => h7 _)⟩
theorem LogS.of {A B : MA} {L : LGS} (h : LogM A L) (h7 : ∀ z, 0 ≤ z → z < 13056 → B 7 z = A 5 z) (h8 : ∀ z, 0 ≤ z → z < 16 → B 8 z = A 6 z) : LogS B L := by
  refine ⟨h.2.1, fun i x hx => ?_⟩
  obtain ⟨k1, k2⟩ := h.2.2 i x hx
  have hi : i < L.length := (List.getElem?_eq_some_iff.mp hx).1
  have h16 := h.2.1
  exact ⟨by rw [h8 _ (by omega) (by omega)]; exact k1, k2.cg (fun z z0 z1 => h7 _ (by omega) (by omega))⟩
section GBK
variable {s : AS} {A : MA} {L : LGS} {P : PG}
theorem m_gb35 {c : Int} {A0 : MA} : ∀ (k N : Nat) (i : Int) (s : AS) (A : MA), i + k = 16 → 0 ≤ i → k < N → MR s 78 A → AF (fun j _ => j = 6) A0 A → (∀ y, 0 ≤ y → y < i → A 6 y = A0 8 y) → ∃ s' A', l_M_giveBack_35 N 78 (v c) (v i) s = some (setI s' 78 8 (v c)) ∧ MR s' 78 A' ∧ AF (fun j _ => j = 6) A0 A' ∧ (∀ y, 0 ≤ y → y < 16 → A' 6 y = A0 8 y) ∧ Fr (inM 78) s s' := by
  intro k
  induction k with
  | zero =>
    intro N i s A hi h0 hN h hA hy
    obtain ⟨N, rfl⟩ : ∃ m, N = m + 1 := ⟨N - 1, by omega⟩
    refine ⟨s, A, ?_, h, hA, fun y y0 y1 => hy y y0 (by omega), Fr.rf _ _⟩
    show b_M_giveBack_35 _ _ _ _ _ = _
    unfold b_M_giveBack_35
    rw [nv16, if_neg (nlt (by omega)), if_pos h.t]
  | succ k ih =>
    intro N i s A hi h0 hN h hA hy
    obtain ⟨N, rfl⟩ : ∃ m, N = m + 1 := ⟨N - 1, by omega⟩
    have r := h.a10 i (by omega)
    rw [hA 8 i (show ¬ (8 : Nat) = 6 by decide)] at r
    have hw := h.si 6 (by decide) (by decide) (z := i) (x := A0 8 i) ⟨by omega, by show i < 16; omega⟩
    obtain ⟨s', A', q1, q2, q3, q4, q5⟩ := ih N (i + 1) _ _ (by omega) (by omega) (by omega) hw (hA.tr (AF.pu rfl)) (fun y y0 y1 => by
      by_cases e : y = i
      · rw [e, pu_eq]
      · rw [pu_ne _ _ _ _ (fun d => e d.2)]; exact hy y y0 (by omega))
    refine ⟨s', A', ?_, q2, q3, q4, (inM_s (by decide)).tr q5⟩
    show b_M_giveBack_35 _ _ _ _ _ = _
    unfold b_M_giveBack_35
    rw [nv16, if_pos (plt (by omega)), if_pos h.t, h.r10, h.t10, h.n10, if_pos ⟨rfl, v_inA (by omega) (by omega)⟩, h.r7, h.t7, h.n7, if_pos ⟨rfl, v_inA (by omega) (by omega)⟩, v_ix (by omega), r, nv1, v_add]
    exact q1
theorem m_gb8 {c : Int} {A0 : MA} : ∀ (k N : Nat) (i : Int) (s : AS) (A : MA), i + k = 13056 → 0 ≤ i → k < N → MR s 78 A → AF (fun j z => j = 5 ∧ z < 13056) A0 A → (∀ y, 0 ≤ y → y < i → A 5 y = A0 7 y) → ∃ s' A', l_M_giveBack_8 N 78 (v c) (v i) s = l_M_giveBack_35 fuel 78 (v c) (v 0) s' ∧ MR s' 78 A' ∧ AF (fun j z => j = 5 ∧ z < 13056) A0 A' ∧ (∀ y, 0 ≤ y → y < 13056 → A' 5 y = A0 7 y) ∧ Fr (inM 78) s s' := by
  intro k
  induction k with
  | zero =>
    intro N i s A hi h0 hN h hA hy
    obtain ⟨N, rfl⟩ : ∃ m, N = m + 1 := ⟨N - 1, by omega⟩
    refine ⟨s, A, ?_, h, hA, fun y y0 y1 => hy y y0 (by omega), Fr.rf _ _⟩
    show b_M_giveBack_8 _ _ _ _ _ = _
    unfold b_M_giveBack_8
    rw [show nI 13056 = v 13056 from rfl, if_neg (nlt (by omega)), nv0]
  | succ k ih =>
    intro N i s A hi h0 hN h hA hy
    obtain ⟨N, rfl⟩ : ∃ m, N = m + 1 := ⟨N - 1, by omega⟩
    have r := h.a9 i (by omega)
    rw [hA 7 i (by omega)] at r
    have hw := h.si 5 (by decide) (by decide) (z := i) (x := A0 7 i) ⟨by omega, by show i < 15504; omega⟩
    obtain ⟨s', A', q1, q2, q3, q4, q5⟩ := ih N (i + 1) _ _ (by omega) (by omega) (by omega) hw (hA.tr (AF.pu ⟨rfl, by omega⟩)) (fun y y0 y1 => by
      by_cases e : y = i
      · rw [e, pu_eq]
      · rw [pu_ne _ _ _ _ (fun d => e d.2)]; exact hy y y0 (by omega))
    refine ⟨s', A', ?_, q2, q3, q4, (inM_s (by decide)).tr q5⟩
    show b_M_giveBack_8 _ _ _ _ _ = _
    unfold b_M_giveBack_8
    rw [show nI 13056 = v 13056 from rfl, if_pos (plt (by omega)), if_pos h.t, h.r9, h.t9, h.n9, if_pos ⟨rfl, v_inA (by omega) (by omega)⟩, h.r6, h.t6, h.n6, if_pos ⟨rfl, v_inA (by omega) (by omega)⟩, v_ix (by omega), r, nv1, v_add]
    exact q1
/-- what giving back touches -/
abbrev scrG : Nat → Int → Prop := fun j z => (j = 2 ∧ 5 ≤ z ∧ z < 821) ∨ (j = 5 ∧ z < 13056) ∨ j = 6 ∨ (j = 0 ∧ z = 8)
theorem m_giveBack (h : MR s 78 A) (hS : LogS A L) (hU : PgM (Un A 17) P) : ∃ s' A', f_M_giveBack s 78 (v L.length) = some s' ∧ MR s' 78 A' ∧ PgM (A' 2) P ∧ LogM A' L ∧ AF scrG A A' ∧ Fr (inM 78) s s' := by
  obtain ⟨s1, A1, q1, q2, q3, q4, q5⟩ := m_putBack (c := 17) h (by decide)
  obtain ⟨s2, A2, r1, r2, r3, r4, r5⟩ := m_gb8 (c := L.length) 13056 fuel 0 s1 A1 (by omega) (by omega) (by unfold fuel; omega) q2 (AF.rf _ _) (fun y y0 y1 => by omega)
  obtain ⟨s3, A3, u1, u2, u3, u4, u5⟩ := m_gb35 (c := L.length) 16 fuel 0 s2 A2 (by omega) (by omega) (by unfold fuel; omega) r2 (AF.rf _ _) (fun y y0 y1 => by omega)
  have k3 := u2.s0 (x := L.length) (k := 8) (z := 8) rfl (by decide)
  have e2 : pu A3 0 8 L.length 2 = A1 2 := funext (fun z => by rw [pu_row _ _ _ _ (by decide), u3 2 z (show ¬ (2 : Nat) = 6 by decide), r3 2 z (by omega)])
  have e5 : ∀ y, 0 ≤ y → y < 13056 → pu A3 0 8 L.length 5 y = A 7 y := fun y y0 y1 => by rw [pu_row _ _ _ _ (by decide), u3 5 y (show ¬ (5 : Nat) = 6 by decide), r4 y y0 y1, q3 7 y (by omega)]
  have e6 : ∀ y, 0 ≤ y → y < 16 → pu A3 0 8 L.length 6 y = A 8 y := fun y y0 y1 => by rw [pu_row _ _ _ _ (by decide), u4 y y0 y1, r3 8 y (by omega), q3 8 y (by omega)]
  refine ⟨_, _, ?_, k3, by rw [e2]; exact q4 P hU, ⟨pu_eq _ _ _ _, hS.1, fun i x hx => ?_⟩, ?_, ((q5.tr r5).tr u5).tr (Fr.si (by omega))⟩
  · unfold f_M_giveBack
    rw [if_pos h.t, show nI 17 = v 17 from rfl, q1, Option.bind_some, nv0, r1]
    exact u1
  · obtain ⟨g1, g2⟩ := hS.2 i x hx
    have hi : i < L.length := (List.getElem?_eq_some_iff.mp hx).1
    have h16 := hS.1
    exact ⟨by rw [e6 _ (by omega) (by omega)]; exact g1, g2.cg (fun z z0 z1 => e5 _ (by omega) (by omega))⟩
  · exact (((q3.mo (fun j z hj => Or.inl hj)).tr (r3.mo (fun j z hj => Or.inr (Or.inl hj)))).tr (u3.mo (fun j z hj => Or.inr (Or.inr (Or.inl hj))))).tr (AF.pu (Or.inr (Or.inr (Or.inr ⟨rfl, rfl⟩))))
/-! days keep aside -/
theorem m_dy49 {a b c : Int32} {A0 : MA} : ∀ (k N : Nat) (i : Int) (s : AS) (A : MA), i + k = 13056 → 0 ≤ i → k < N → MR s 78 A → AF (fun j _ => j = 7) A0 A → (∀ y, 0 ≤ y → y < i → A 7 y = A0 5 y) → ∃ s' A', l_M_days_49 N 78 a b c (v i) s = l_M_days_80 fuel 78 a b c (v 0) s' ∧ MR s' 78 A' ∧ AF (fun j _ => j = 7) A0 A' ∧ (∀ y, 0 ≤ y → y < 13056 → A' 7 y = A0 5 y) ∧ Fr (inM 78) s s' := by
  intro k
  induction k with
  | zero =>
    intro N i s A hi h0 hN h hA hy
    obtain ⟨N, rfl⟩ : ∃ m, N = m + 1 := ⟨N - 1, by omega⟩
    refine ⟨s, A, ?_, h, hA, fun y y0 y1 => hy y y0 (by omega), Fr.rf _ _⟩
    show b_M_days_49 _ _ _ _ _ _ _ = _
    unfold b_M_days_49
    rw [show nI 13056 = v 13056 from rfl, if_neg (nlt (by omega)), nv0]
  | succ k ih =>
    intro N i s A hi h0 hN h hA hy
    obtain ⟨N, rfl⟩ : ∃ m, N = m + 1 := ⟨N - 1, by omega⟩
    have r := h.a6 i (by omega)
    rw [hA 5 i (show ¬ (5 : Nat) = 7 by decide)] at r
    have hw := h.si 7 (by decide) (by decide) (z := i) (x := A0 5 i) ⟨by omega, by show i < 13056; omega⟩
    obtain ⟨s', A', q1, q2, q3, q4, q5⟩ := ih N (i + 1) _ _ (by omega) (by omega) (by omega) hw (hA.tr (AF.pu rfl)) (fun y y0 y1 => by
      by_cases e : y = i
      · rw [e, pu_eq]
      · rw [pu_ne _ _ _ _ (fun d => e d.2)]; exact hy y y0 (by omega))
    refine ⟨s', A', ?_, q2, q3, q4, (inM_s (by decide)).tr q5⟩
    show b_M_days_49 _ _ _ _ _ _ _ = _
    unfold b_M_days_49
    rw [show nI 13056 = v 13056 from rfl, if_pos (plt (by omega)), if_pos h.t, h.r6, h.t6, h.n6, if_pos ⟨rfl, v_inA (by omega) (by omega)⟩, h.r9, h.t9, h.n9, if_pos ⟨rfl, v_inA (by omega) (by omega)⟩, v_ix (by omega), r, nv1, v_add]
    exact q1
theorem m_dy80 {a b c : Int32} {A0 : MA} : ∀ (k N : Nat) (i : Int) (s : AS) (A : MA), i + k = 16 → 0 ≤ i → k < N → MR s 78 A → AF (fun j _ => j = 8) A0 A → (∀ y, 0 ≤ y → y < i → A 8 y = A0 6 y) → ∃ s' A', l_M_days_80 N 78 a b c (v i) s = l_M_days_116 fuel 78 b c (v 0) (setJ s' 78 54 a.toInt64) ∧ MR s' 78 A' ∧ AF (fun j _ => j = 8) A0 A' ∧ (∀ y, 0 ≤ y → y < 16 → A' 8 y = A0 6 y) ∧ Fr (inM 78) s s' := by
  intro k
  induction k with
  | zero =>
    intro N i s A hi h0 hN h hA hy
    obtain ⟨N, rfl⟩ : ∃ m, N = m + 1 := ⟨N - 1, by omega⟩
    refine ⟨s, A, ?_, h, hA, fun y y0 y1 => hy y y0 (by omega), Fr.rf _ _⟩
    show b_M_days_80 _ _ _ _ _ _ _ = _
    unfold b_M_days_80
    rw [nv16, if_neg (nlt (by omega)), if_pos h.t, nv0]
  | succ k ih =>
    intro N i s A hi h0 hN h hA hy
    obtain ⟨N, rfl⟩ : ∃ m, N = m + 1 := ⟨N - 1, by omega⟩
    have r := h.a7 i (by omega)
    rw [hA 6 i (show ¬ (6 : Nat) = 8 by decide)] at r
    have hw := h.si 8 (by decide) (by decide) (z := i) (x := A0 6 i) ⟨by omega, by show i < 16; omega⟩
    obtain ⟨s', A', q1, q2, q3, q4, q5⟩ := ih N (i + 1) _ _ (by omega) (by omega) (by omega) hw (hA.tr (AF.pu rfl)) (fun y y0 y1 => by
      by_cases e : y = i
      · rw [e, pu_eq]
      · rw [pu_ne _ _ _ _ (fun d => e d.2)]; exact hy y y0 (by omega))
    refine ⟨s', A', ?_, q2, q3, q4, (inM_s (by decide)).tr q5⟩
    show b_M_days_80 _ _ _ _ _ _ _ = _
    unfold b_M_days_80
    rw [nv16, if_pos (plt (by omega)), if_pos h.t, h.r7, h.t7, h.n7, if_pos ⟨rfl, v_inA (by omega) (by omega)⟩, h.r10, h.t10, h.n10, if_pos ⟨rfl, v_inA (by omega) (by omega)⟩, v_ix (by omega), r, nv1, v_add]
    exact q1
end GBK
/-! one day of the reference's -/
section DAYR
variable {s : AS} {tp : (Int → Int) × Int} {se : ST1} {P Q : PG} {LG : LGS} {IM : Nat → IMG} {ms : Int → Int} {vw : (Int → Int) × Int} {dr : DRW} {A : MA} {x : Int}
theorem m_draw (h : MR s 78 A) (hs : A 28 54 = x) (hx : 0 ≤ x ∧ x < 1000003) {b : Int} (hb : 0 < b ∧ b < 1000) : ∃ s', f_M_draw s 78 (v b) = some (v (nxtS x % b), s') ∧ MR s' 78 (pu A 28 54 (nxtS x)) ∧ Fr (inM 78) s s' := by
  have hr := nxtS_r x
  have e1 : Int.tdiv (x * 1103 + 12345) 1000003 = (x * 1103 + 12345) / 1000003 := Int.tdiv_eq_ediv_of_nonneg (by omega)
  have e2 : Int.tdiv (nxtS x) b = nxtS x / b := Int.tdiv_eq_ediv_of_nonneg hr.1
  have e : w x * w 1103 + w 12345 - (w x * w 1103 + w 12345) / w 1000003 * w 1000003 = w (nxtS x) := by
    rw [w_mul, w_add, w_div (by omega) (by omega), e1, w_mul, w_sub, modE]
    rfl
  have eb : ¬ w b = w 0 := fun d => by
    have := (w_inj (by omega) (by omega)).mp d
    omega
  have k1 := h.s28 (x := nxtS x) (k := 54) (z := 54) rfl (by decide)
  refine ⟨setJ s 78 54 (w (nxtS x)), ?_, k1, Fr.sj (by omega)⟩
  unfold f_M_draw
  rw [if_pos h.t, show lN 1000003 = w 1000003 from rfl, lw0, if_pos (show ¬ w 1000003 = w 0 by decide), v_w (by omega), if_pos eb, h.i54, hs, show lN 1103 = w 1103 from rfl, show lN 12345 = w 12345 from rfl, e, sL_setJ, if_pos ⟨rfl, rfl⟩, w_div (by omega) (by omega), e2, w_mul, w_sub, modE, w_v]
/-- what a day touches -/
abbrev scrA : Nat → Int → Prop := fun j z => scrX j z ∨ j = 22 ∨ (j = 0 ∧ z = 44)
theorem m_drawnAct (h : MR s 78 A) (hR : RepA A tp se Q LG IM ms vw dr) (hw : WfT se) (hH : PgH Q) : ∃ s' A' LG', f_M_drawnAct s 78 (v (dyN x)) (v (dyB x)) (v (dyA x)) (v (dyW x)) = some s' ∧ MR s' 78 A' ∧ RepA A' tp se (dayP (lwF se) se.1 x Q) LG' IM ms vw dr ∧ AF scrA A A' ∧ Fr (inM 78) s s' := by
  obtain ⟨r1, r2, r3, r4, r5⟩ := dy_r x
  obtain ⟨s1, A1, b1, b2, b3, b4, b5⟩ := m_alike (a := dyN x) (x := dyB x) h (by omega)
  have h1 := hR.v_s (b3.mo (fun j z hj => by omega))
  have hP1 := h1.pg
  have hf : f_M_firstFrom s1 78 (v (dyA x)) = some (v (fromP Q (dyA x))) := by
    have := m_fromL b2 hP1 hH.1.1.1 (128 - (max 0 (dyA x))).toNat fuel (dyA x) (by omega) (by unfold fuel; omega) (by omega)
    unfold f_M_firstFrom fromP
    rw [show max 0 (dyA x) = dyA x by omega] at this ⊢
    exact this
  have aB : AF scrA A A1 := b3.mo (fun j z hj => Or.inr hj)
  have aX : ∀ {B : MA}, AF scrX A1 B → AF scrA A B := fun k => aB.tr (k.mo (fun j z hj => Or.inl hj))
  unfold f_M_drawnAct
  rw [if_pos h.t, b1, Option.bind_some, if_pos b2.t, hf, Option.bind_some, nv4, nv6, nv1, v_neg]
  unfold dayP
  by_cases w1 : dyW x ≤ 3
  · obtain ⟨s2, A2, q1, q2, q3, q4, q5, q6⟩ := m_putNow b2 (h1.mk' hw) h1.2.2.2.2.2.1 b4 (by omega) (byte_all r2) hH.1
    rw [if_pos (plt (by omega)), if_pos w1, q1, Option.bind_some]
    exact ⟨s2, A2, _, rfl, q2, h1.now q3 q4 q5, aX q5, b5.tr q6⟩
  rw [if_neg (nlt (by omega)), if_neg w1]
  have e73 : dyW x = 7 → ∃ s' A' LG', b_M_drawnAct_73 78 (v (dyA x)) (v (dyW x)) s1 = some s' ∧ MR s' 78 A' ∧ RepA A' tp se (packP Q (dyA x / 16)) LG' IM ms vw dr ∧ AF scrA A A' ∧ Fr (inM 78) s s' := fun w7 => by
    obtain ⟨s2, A2, q1, q2, q3, q4, q5, q6⟩ := m_packNow b2 (h1.mk' hw) h1.2.2.2.2.2.1 hH.1.1 (p := dyA x / 16) (by omega)
    have hp : 0 ≤ dyA x / 16 ∧ dyA x / 16 < 8 := by omega
    rw [if_pos hp] at q1 q3 q4
    unfold b_M_drawnAct_73
    rw [nv7, if_pos (peq w7), if_pos (show ¬ nI 16 = nI 0 by decide), if_pos b2.t, nv16, v_div (by omega) (by decide), q1, Option.bind_some]
    exact ⟨s2, A2, _, rfl, q2, h1.now q3 q4 q5, aX q5, b5.tr q6⟩
  have n73 : dyW x ≠ 7 → b_M_drawnAct_73 78 (v (dyA x)) (v (dyW x)) s1 = some s1 := fun w7 => by
    unfold b_M_drawnAct_73
    rw [nv7, if_neg (pne (by omega))]
  by_cases w7 : dyW x = 7
  · rw [if_neg (nlt (by omega)), if_pos w7]
    unfold b_M_drawnAct_50
    rw [nv6, if_neg (pne (by omega))]
    exact e73 w7
  rw [if_neg w7]
  by_cases wf : fromP Q (dyA x) = -1
  · rw [if_pos wf, wf]
    have e50 : b_M_drawnAct_50 78 (v (dyA x)) (v (dyW x)) (v (-1)) s1 = some s1 := by
      unfold b_M_drawnAct_50
      rw [nv1, v_neg, if_pos rfl, n73 w7]
      split <;> rfl
    rw [if_pos rfl, e50]
    refine ⟨s1, A1, LG, ?_, b2, h1, aB, b5⟩
    split <;> rfl
  have hr := (fromP_r Q (dyA x)).resolve_left wf
  have hr1 := hr.1
  rw [if_neg wf]
  by_cases w6 : dyW x = 6
  · obtain ⟨s2, A2, q1, q2, q3, q4, q5, q6⟩ := m_dropNow b2 (h1.mk' hw) h1.2.2.2.2.2.1 hH (a := fromP Q (dyA x)) (by omega)
    rw [if_pos hr] at q1 q3 q4
    rw [if_neg (nlt (by omega)), if_pos w6]
    unfold b_M_drawnAct_50
    rw [nv6, nv1, v_neg, if_pos (peq w6), if_neg (pne ⟨⟨by omega, by decide⟩, wf⟩), if_pos b2.t, q1, Option.bind_some]
    exact ⟨s2, A2, _, rfl, q2, h1.now q3 q4 q5, aX q5, b5.tr q6⟩
  · obtain ⟨s2, A2, q1, q2, q3, q4, q5, q6⟩ := m_rewriteNow b2 (h1.mk' hw) h1.2.2.2.2.2.1 b4 (by omega) (byte_all r2) hH.1 hr
    rw [if_pos (plt (by omega)), if_neg w6, if_neg (pne ⟨⟨by omega, by decide⟩, wf⟩), q1, Option.bind_some]
    exact ⟨s2, A2, _, rfl, q2, h1.now q3 q4 q5, aX q5, b5.tr q6⟩
end DAYR
