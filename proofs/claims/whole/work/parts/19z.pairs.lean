/-! PAIRS: fit -/
theorem zero_byte {n : Int} : RecB (fun _ => 0) n := fun _ _ _ => ⟨Int.le_refl 0, by show (0 : Int) ≤ 255; decide⟩
section FIT
variable {s : AS} {D : DYN} {tp : (Int → Int) × Int} {se : ST1} {P Q Q' Bf : PG} {LG : LGS} {IM : Nat → IMG} {ms : Int → Int} {vw : (Int → Int) × Int} {dr : DRW} {cn : Nat} {A : MA} {R : Int → Int} {n : Int}
theorem DkO.pg9 {s' : AS} {F : Nat → Prop} (h : DkO s 39 Q) (hf : Fr F s s') (hF : ∀ q, 39 ≤ q ∧ q ≤ 56 → F q → 40 < q ∧ q ≤ 46) (hP : PgR s' 40 Q') : DkO s' 39 Q' := by
  obtain ⟨h1, h2, h3, ⟨Bf, h4⟩, B, len, h5⟩ := h
  exact ⟨h1.st hf.1, by rw [(hf.2 39 (fun d => by have := hF _ (by omega) d; omega)).1]; exact h2, hP, ⟨Bf, h4.fr hf (fun i i1 i2 d => by have := hF _ (by omega) d; omega)⟩, B, len, h5.fr hf (fun d => by have := hF _ (by omega) d; omega) (fun d => by have := hF _ (by omega) d; omega)⟩
theorem RepD.pd (h : RepD s D tp se P LG IM ms vw dr cn) (hp : DkO s 39 Q) (hw : WfT se) : ∃ Bf, DkT s 39 18 15 (lwF se) se.1 Q Bf := DkT_of (Or.inr rfl) hp h.2.2.2.2.2.2.1 h.2.2.2.2.2.2.2.1 hw h.dl
theorem RepD.dp {s' : AS} (h : RepD s D tp se P LG IM ms vw dr cn) (k : DkT s' 39 18 15 (lwF se) se.1 Q' Bf) (f : Fr (inD 39 15) s s') : RepD s' D tp se P LG IM ms vw dr cn ∧ DkO s' 39 Q' ∧ GrM s s' := by
  obtain ⟨k1, k2⟩ := k.parts
  exact ⟨h.u_pp (f.mo (fun q hq => by rcases hq with e | e | e; exact Or.inl ⟨e.1, e.2⟩; exact Or.inr (Or.inl e); exact Or.inr (Or.inr e))) ⟨Q', k1⟩ k2, k1, f.grM (fun q hq => by rcases hq with e | e | e; have := e.2; omega; omega; omega)⟩
theorem RepD.pp (h : RepD s D tp se P LG IM ms vw dr cn) : sR s 1 7 = 39 ∧ ∃ Q, DkO s 39 Q := ⟨h.1.2.1.2.2.2.2.2.2.2, h.2.2.2.2.2.2.2.2.2.1⟩
theorem RepD.md (h : RepD s D tp se P LG IM ms vw dr cn) : sR s 1 2 = 6 ∧ ∃ B n, RwR s 6 200 B n := ⟨h.1.2.1.2.2.1, h.2.2.2.2.1⟩
/-- the paper takes over the live pages -/
theorem c_paper (h : RepD s D tp se P LG IM ms vw dr cn) : ∃ s', f_Pages_takeFrom s 40 22 = some s' ∧ RepD s' D tp se P LG IM ms vw dr cn ∧ DkO s' 39 P ∧ GrM s s' := by
  obtain ⟨o1, o2, o3, o4, o5⟩ := h.lv
  obtain ⟨p1, Q, hQ⟩ := h.pp
  obtain ⟨s1, q1, q2, q3⟩ := s_takeFrom hQ.2.2.1.1 o5 (by decide)
  have k1 : DkO s1 39 P := hQ.pg9 q3 (fun q hq d => ⟨d.1, by have := d.2; omega⟩) q2
  have f1 : Fr (fun z => (39 ≤ z ∧ z ≤ 56) ∨ z = 16 ∨ z = 17) s s1 := q3.mo (fun z hz => Or.inl ⟨by have := hz.1; omega, by have := hz.2; omega⟩)
  exact ⟨s1, q1, h.u_pp f1 ⟨P, k1⟩ ⟨h.2.2.2.2.2.2.1.1.st f1.1, by obtain ⟨W, w1, w2⟩ := h.2.2.2.2.2.2.1.2; exact ⟨W, w1.eq (q3.eqA (fun c => by have := c.1; omega)), w2⟩⟩, k1, f1.grM (fun z hz => by omega)⟩
theorem c_repeat (h : RepD s D tp se P LG IM ms vw dr cn) (hp : DkO s 39 Q) {a x : Int} (ha : 0 ≤ a ∧ a ≤ 200) : ∃ s' B, f_Row_repeat s 6 (v a) (v x) = some s' ∧ RepD s' D tp se P LG IM ms vw dr cn ∧ DkO s' 39 Q ∧ RwR s' 6 200 (rpB B a x) a ∧ GrM s s' := by
  obtain ⟨m1, B, n, m2⟩ := h.md
  obtain ⟨s1, q1, q2, q3⟩ := s_repeat (k := a) (x := x) m2 ⟨ha.1, by omega, by decide⟩
  have f1 : Fr (fun q => q = 6 ∨ q = 7) s s1 := q3.mo (fun q hq => hq)
  exact ⟨s1, B, q1, h.u_md f1 ⟨_, _, q2⟩, hp.eq (fun i hi => f1.eqA (by omega)), q2, f1.grM (fun q hq => by omega)⟩
theorem c_fitL (hw : WfT se) (hR : RecB R n) (hn : 0 ≤ n ∧ n ≤ 200) : ∀ (k N : Nat) (i c : Int) (s : AS) (Q : PG), i + k = 128 → 0 ≤ i → k < N → RepD s D tp se P LG IM ms vw dr cn → DkO s 39 Q → RwR s 6 200 R n → PgG Q → ∃ s', l_C_fit_43 N 1 (v c) (v i) s = some (v (fitL (lwF se) se.1 R n k c Q), s') ∧ RepD s' D tp se P LG IM ms vw dr cn ∧ GrM s s' := by
  intro k
  induction k with
  | zero =>
    intro N i c s Q hi h0 hN h hp hr hG
    obtain ⟨N, rfl⟩ : ∃ m, N = m + 1 := ⟨N - 1, by omega⟩
    refine ⟨s, ?_, h, GrM.rf s⟩
    show b_C_fit_43 _ _ _ _ _ = _
    unfold b_C_fit_43
    rw [nv128, if_neg (nlt (by omega))]
    rfl
  | succ k ih =>
    intro N i c s Q hi h0 hN h hp hr hG
    obtain ⟨N, rfl⟩ : ∃ m, N = m + 1 := ⟨N - 1, by omega⟩
    obtain ⟨Bf, hd⟩ := h.pd hp hw
    obtain ⟨s1, q1, q2, q3⟩ := s_bring hd hG hr ⟨by show ¬ ((39 ≤ 6 ∧ 6 ≤ 39 + 17) ∨ 6 = 15 + 1 ∨ 6 = 15 + 2); omega, by show ¬ ((39 ≤ 6 + 1 ∧ 6 + 1 ≤ 39 + 17) ∨ 6 + 1 = 15 + 1 ∨ 6 + 1 = 15 + 2); omega⟩ (by omega) (by omega) hR
    obtain ⟨h1, p1, g1⟩ := h.dp q2 q3
    have hb := bring_r (o := lwF se) (V := se.1) (P := Q) hG hR hn
    obtain ⟨e1, -⟩ := h.pp
    obtain ⟨e2, -⟩ := h.md
    have hr1 : RwR s1 6 200 R n := hr.fr q3 (by show ¬ ((39 ≤ 6 ∧ 6 ≤ 39 + 17) ∨ 6 = 15 + 1 ∨ 6 = 15 + 2); omega) (by show ¬ ((39 ≤ 6 + 1 ∧ 6 + 1 ≤ 39 + 17) ∨ 6 + 1 = 15 + 1 ∨ 6 + 1 = 15 + 2); omega)
    obtain ⟨s2, r1, r2, r3⟩ := ih N (i + 1) (c + 1) s1 _ (by omega) (by omega) (by omega) h1 p1 hr1 (bring_G hG hR hn)
    unfold fitL
    by_cases e : (bringP (lwF se) se.1 R n Q).1 = -1
    · refine ⟨s1, ?_, h1, g1⟩
      show b_C_fit_43 _ _ _ _ _ = _
      unfold b_C_fit_43
      rw [nv128, nv1, v_neg, if_pos (plt (by omega)), if_pos h.1.1, e1, if_pos hp.1.1, e2, q1, Option.bind_some, if_pos (peq e), if_pos e]
    · refine ⟨s2, ?_, r2, g1.tr r3⟩
      show b_C_fit_43 _ _ _ _ _ = _
      unfold b_C_fit_43
      rw [nv128, nv1, v_neg, if_pos (plt (by omega)), if_pos h.1.1, e1, if_pos hp.1.1, e2, q1, Option.bind_some, if_neg (pne (by omega)), if_neg e, v_add, v_add]
      exact r1
theorem fitL_ext {o : LWS} {V : Int → Int} {R R' : Int → Int} {n : Int} (hn : 0 ≤ n) (hR : ∀ z, 0 ≤ z → z < n → R z = R' z) : ∀ (k : Nat) (c : Int) (P : PG), fitL o V R n k c P = fitL o V R' n k c P := by
  intro k
  induction k with
  | zero => intro c P; rfl
  | succ k ih =>
    intro c P
    unfold fitL
    rw [bring_ext hn hR, ih]
theorem c_fit (h : RepD s D tp se P LG IM ms vw dr cn) (hw : WfT se) (hH : PgH P) {a : Int} (ha : r32 a) : CO s (f_C_fit s 1 (v a)) (fitZ se P a) tp se P LG IM ms vw dr cn := by
  obtain ⟨o1, o2, o3, o4, o5⟩ := h.lv
  obtain ⟨p1, Q, hQ⟩ := h.pp
  unfold f_C_fit fitZ
  rw [nv0, nv1, nv200, v_neg]
  by_cases c : a < 0
  · rw [if_pos (plt (by omega)), if_neg (by omega)]
    exact CO.rf h
  rw [if_neg (nlt (by omega))]
  by_cases c2 : 200 < a
  · rw [if_pos (plt (by omega)), if_neg (by omega)]
    exact CO.rf h
  have hok : 0 ≤ a ∧ a ≤ 200 := by omega
  obtain ⟨s1, q1, h1, k1, g1⟩ := c_paper h
  obtain ⟨s2, B, q2, h2, k2, r2, g2⟩ := c_repeat (x := 0) h1 k1 hok
  have hR : ∀ z, 0 ≤ z → z < a → rpB B a 0 z = (fun _ => (0 : Int)) z := fun z z0 z1 => if_pos ⟨z0, z1⟩
  obtain ⟨s3, q3, h3, g3⟩ := c_fitL (R := rpB B a 0) (n := a) hw (fun z z0 z1 => by rw [hR z z0 z1]; exact zero_byte z z0 z1) hok 128 fuel 0 0 s2 P (by omega) (by omega) (by unfold fuel; omega) h2 k2 r2 hH.1
  rw [fitL_ext hok.1 hR] at q3
  refine ⟨s3, D, ?_, h3, (g1.tr g2).tr g3⟩
  rw [if_neg (nlt (by omega)), if_pos o1, p1, if_pos hQ.1.1, o2, if_pos o3, hQ.1.2.1.2.2.1, if_pos hQ.2.2.1.1.1, o4, q1, Option.bind_some, if_pos h1.1.1, h1.md.1, if_pos (by obtain ⟨B, n, m⟩ := h1.md.2; exact m.1.1), q2, Option.bind_some, if_pos hok]
  exact q3
theorem m_alikeL {A0 : MA} {a x : Int} (ha : 0 ≤ a ∧ a ≤ 200) : ∀ (k N : Nat) (i : Int) (s : AS) (A : MA), i + k = a → 0 ≤ i → k < N → MR s 78 A → AF (fun j _ => j = 22) A0 A → (∀ z, 0 ≤ z → z < i → A 22 z = x) → ∃ s' A', l_M_bringAlike_7 N 78 (v a) (v x) (v i) s = some s' ∧ MR s' 78 A' ∧ AF (fun j _ => j = 22) A0 A' ∧ (∀ z, 0 ≤ z → z < a → A' 22 z = x) ∧ Fr (inM 78) s s' := by
  intro k
  induction k with
  | zero =>
    intro N i s A hi h0 hN h hf hz
    obtain ⟨N, rfl⟩ : ∃ m, N = m + 1 := ⟨N - 1, by omega⟩
    refine ⟨s, A, ?_, h, hf, fun z z0 z1 => hz z z0 (by omega), Fr.rf _ _⟩
    show b_M_bringAlike_7 _ _ _ _ _ _ = _
    unfold b_M_bringAlike_7
    rw [if_neg (nlt (by omega))]
  | succ k ih =>
    intro N i s A hi h0 hN h hf hz
    obtain ⟨N, rfl⟩ : ∃ m, N = m + 1 := ⟨N - 1, by omega⟩
    obtain ⟨s', A', q1, q2, q3, q4, q5⟩ := ih N (i + 1) _ _ (by omega) (by omega) (by omega) (h.si (x := x) 22 (by decide) (by decide) (z := i) ⟨h0, by show i < (200 : Int); omega⟩) (hf.tr (AF.pu rfl)) (fun z z0 z1 => by
      by_cases c : z = i
      · rw [c, pu_eq]
      · rw [pu_ne _ _ _ _ (fun e => c e.2)]; exact hz z z0 (by omega))
    refine ⟨s', A', ?_, q2, q3, q4, (Fr.si (by omega)).tr q5⟩
    show b_M_bringAlike_7 _ _ _ _ _ _ = _
    unfold b_M_bringAlike_7
    rw [if_pos (plt (by omega)), if_pos h.t, h.r43, h.t43, h.n43, if_pos ⟨rfl, v_inA (by omega) (by omega)⟩, v_ix (by omega), nv1, v_add]
    exact q1
theorem m_alike (h : MR s 78 A) {a x : Int} (ha : 0 ≤ a ∧ a ≤ 200) : ∃ s' A', f_M_bringAlike s 78 (v a) (v x) = some s' ∧ MR s' 78 A' ∧ AF (fun j z => j = 22 ∨ (j = 0 ∧ z = 44)) A A' ∧ BrM A' (fun _ => x) a ∧ Fr (inM 78) s s' := by
  have m1 := h.s0 (x := a) (k := 44) (z := 44) rfl (by decide)
  obtain ⟨s', A', q1, q2, q3, q4, q5⟩ := m_alikeL (A0 := pu A 0 44 a) (x := x) ha a.toNat fuel 0 _ _ (by omega) (by omega) (by unfold fuel; omega) m1 (AF.rf _ _) (fun z z0 z1 => by omega)
  refine ⟨s', A', ?_, q2, (AF.pu (Or.inr ⟨rfl, rfl⟩)).tr (q3.mo (fun j z hj => Or.inl hj)), ⟨by rw [q3 0 44 (show ¬ (0 : Nat) = 22 by decide), pu_eq], q4⟩, (Fr.si (by omega)).tr q5⟩
  unfold f_M_bringAlike
  rw [if_pos h.t, nv0]
  exact q1
theorem m_fitL (hR : RecB R n) (hn : 0 ≤ n ∧ n ≤ 200) {o : LWS} {V : Int → Int} {A0 : MA} : ∀ (k N : Nat) (c : Int) (s : AS) (A : MA) (Q : PG), 129 ≤ nzP Q + k → k < N → MR s 78 A → MkE A o V (-1) Q → BrM A R n → PgG Q → AF scrP A0 A → ∃ s' A', l_M_fit_33 N 78 (v c) s = some (v (fitL o V R n k c Q), s') ∧ MR s' 78 A' ∧ AF scrP A0 A' ∧ (∀ P0, PgM (Un A0 16) P0 → PgM (A' 2) P0) ∧ Fr (inM 78) s s' := by
  intro k
  induction k with
  | zero =>
    intro N c s A Q hk hN h hE hb hG hf
    have := nzP_r Q
    omega
  | succ k ih =>
    intro N c s A Q hk hN h hE hb hG hf
    obtain ⟨N, rfl⟩ : ∃ m, N = m + 1 := ⟨N - 1, by omega⟩
    obtain ⟨s1, A1, P1, q1, q2, q3, q4, q5, q6, q7⟩ := m_putIt h hE hb hn hR hG
    unfold fitL
    by_cases e : (bringP o V R n Q).1 = -1
    · obtain ⟨s2, A2, r1, r2, r3, r4, r5⟩ := m_putBack (c := 16) q2 (by decide)
      have f1 := hf.tr q5
      refine ⟨s2, A2, ?_, r2, f1.tr (r3.mo (fun j z hj => Or.inr (Or.inr hj))), fun P0 h0 => r4 P0 ?_, q6.tr r5⟩
      · show b_M_fit_33 _ _ _ _ = _
        unfold b_M_fit_33
        rw [if_pos h.t, q1, Option.bind_some, nv1, v_neg, if_pos (peq e), if_pos q2.t, nv16, r1, Option.bind_some, if_pos e]
      · have : Un A1 16 = Un A0 16 := by
          funext z
          unfold Un
          exact f1 5 _ (by omega)
        rw [this]; exact h0
    · have hz := nz_bring hG hR hn e
      have hE1 : MkE A1 o V (-1) (bringP o V R n Q).2 := hE.pg q5 (by rw [← q4 e]; exact q3)
      have hb1 : BrM A1 R n := ⟨by rw [q5 0 44 (by omega)]; exact hb.1, fun z z0 z1 => by rw [q5 22 z (by omega)]; exact hb.2 z z0 z1⟩
      obtain ⟨s2, A2, r1, r2, r3, r4, r5⟩ := ih N (c + 1) s1 A1 _ (by omega) (by omega) q2 hE1 hb1 (bring_G hG hR hn) (hf.tr q5)
      refine ⟨s2, A2, ?_, r2, r3, r4, q6.tr r5⟩
      show b_M_fit_33 _ _ _ _ = _
      unfold b_M_fit_33
      rw [if_pos h.t, q1, Option.bind_some, nv1, v_neg, if_neg (pne ⟨⟨q7, by decide⟩, e⟩), if_neg e, v_add]
      exact r1
theorem r_fit (h : MR s 78 A) (hR : RepA A tp se P LG IM ms vw dr) (hw : WfT se) (hH : PgH P) {a : Int} (ha : r32 a) : RO s (f_M_fit s 78 (v a)) (fitZ se P a) tp se P LG IM ms vw dr := by
  obtain ⟨k1, k2, k3⟩ := r_thr h hR
  unfold f_M_fit fitZ
  rw [if_pos h.t, nv0, nv1, nv16, lw0, lw200, v_neg, v_w ha, m_in (by omega) (by omega) (by omega), Option.bind_some]
  by_cases c : 0 ≤ a ∧ a ≤ 200
  · obtain ⟨s1, A1, q1, q2, q3, q4, q5⟩ := m_keepAll (c := 16) k1 (by decide)
    have e2 : A1 2 = pu A 0 0 0 2 := funext (fun z => q3 2 z (by omega))
    have r1 := k2.v_s (q3.mo (fun j z hj => by omega))
    obtain ⟨s2, A2, b1, b2, b3, b4, b5⟩ := m_alike (x := 0) q2 c
    have r2 := r1.v_s (b3.mo (fun j z hj => by omega))
    obtain ⟨s3, A3, c1, c2, c3, c4, c5⟩ := m_fitL (R := fun _ => 0) (n := a) (A0 := A2) zero_byte c 129 fuel 0 s2 A2 P (by have := nzP_r P; omega) (by unfold fuel; omega) b2 (r2.mk' hw) b4 hH.1 (AF.rf _ _)
    have hU : PgM (A3 2) P := c4 P (by
      have : Un A2 16 = Un A1 16 := by
        funext z
        unfold Un
        exact b3 5 _ (by omega)
      rw [this]
      exact q4 P k2.pg)
    have e1 : fitL (lwF se) se.1 (fun _ => 0) a 129 0 P = fitL (lwF se) se.1 (fun _ => 0) a 128 0 P := fit_one zero_byte c 128 0 P hH.1 (by have := nzP_r P; omega)
    rw [bi_t c, if_neg (show ¬ v 1 = v 0 by decide), q1, Option.bind_some, if_pos q2.t, b1, Option.bind_some, if_pos c, ← e1]
    refine ⟨s3, A3, c1, c2, r2.v_pg (c3.mo (fun j z hj => by omega)) hU (r2.2.2.2.2.2.1.gen (fun z _ _ => c3 5 z (by omega)) (fun z _ _ => c3 6 z (by omega)) (c3 0 8 (by omega))) (r2.2.2.1.2.fr (c3 0 41 (by omega)) (c3 0 42 (by omega))), ((k3.tr q5).tr b5).tr c5⟩
  · rw [bi_f c, if_pos rfl, if_neg c]
    exact ⟨_, _, rfl, k1, k2, k3⟩
end FIT
