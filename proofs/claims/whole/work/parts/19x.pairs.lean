/-! PAIRS: back; the reference's image and back -/
theorem TxM.cong2 {R S : Int → Int} {at_ : Int} {T : TXS} {cl : Int} (h : TxM R at_ T cl) (he : ∀ z, at_ ≤ z → z < at_ + 900 → S z = R z) : TxM S at_ T cl := by
  obtain ⟨g0, g00, g⟩ := h
  refine ⟨by rw [he _ (by omega) (by omega)]; exact g0, g00, fun c c0 c1 => ?_⟩
  obtain ⟨g1, g2, g3, g4, g5⟩ := g c c0 c1
  rw [he (at_ + 2 + 8 * c) (by omega) (by omega), he (at_ + 2 + 8 * c + 3) (by omega) (by omega), he (at_ + 2 + 8 * c + 4) (by omega) (by omega), he (at_ + 2 + 8 * c + 5) (by omega) (by omega), he (at_ + 2 + 8 * c + 6) (by omega) (by omega)]
  have hi : ∀ a b, 0 ≤ a → b ≤ 400 → Agr (insL R at_) (insL S at_) a b := fun a b ha hb x hx hx2 => by
    unfold insL
    rw [he _ (by omega) (by omega), he _ (by omega) (by omega)]
  refine ⟨g1, g2, fun hz => (g3 hz).agr (hi _ _ g2.1.1 g2.1.2), ?_, fun z z0 z1 => ?_⟩
  · rcases g4 with g4 | g4
    · exact Or.inl g4
    · exact Or.inr (g4.agr (hi _ _ g2.2.1 g2.2.2))
  · rw [he (at_ + 98 + 2 * z) (by omega) (by omega), he (at_ + 98 + 2 * z + 1) (by omega) (by omega)]
    exact g5 z z0 z1
theorem SetA.cong2 {R S : Int → Int} {se : ST1} (h : SetA R se) (hn : se.2.1.length ≤ 6) (he : ∀ z, 0 ≤ z → z < 6221 → S z = R z) : SetA S se := by
  obtain ⟨h1, h2, ⟨h3, h4, h5⟩, h6⟩ := h
  refine ⟨by rw [he 0 (by omega) (by omega)]; exact h1, by rw [he 1 (by omega) (by omega)]; exact h2, ⟨by rw [he 2 (by omega) (by omega)]; exact h3, by rw [he 3 (by omega) (by omega)]; exact h4, by rw [he 4 (by omega) (by omega)]; exact h5⟩, fun i CL hi => (h6 i CL hi).cong2 (fun z hz hz2 => he z (by omega) ?_)⟩
  have hl : i < se.2.1.length := by
    rcases Nat.lt_or_ge i se.2.1.length with d | d
    · exact d
    · rw [List.getElem?_eq_none d] at hi; exact absurd hi (by simp)
  omega
abbrev bckOK (IM : Nat → IMG) (a : Int) : Prop := (0 ≤ a ∧ a ≤ 1) ∧ IM a.toNat ≠ none
def bckG (IM : Nat → IMG) (a : Int) (se : ST1) (P : PG) : ST1 × PG := if 0 ≤ a ∧ a ≤ 1 then (IM a.toNat).getD (se, P) else (se, P)
def bckA (IM : Nat → IMG) (a : Int) : Int := if 0 ≤ a ∧ a ≤ 1 then (if IM a.toNat = none then -2 else 0) else -1
def bckL (IM : Nat → IMG) (a : Int) (LG : LGS) : LGS := if 0 ≤ a ∧ a ≤ 1 then (if IM a.toNat = none then LG else []) else LG
section BCK
variable {s : AS} {D : DYN} {tp : (Int → Int) × Int} {se : ST1} {P : PG} {LG : LGS} {IM : Nat → IMG} {ms : Int → Int} {vw : (Int → Int) × Int} {dr : DRW} {cn k : Nat} {A : MA}
theorem c_bk (h : RepD s D tp se P LG IM ms vw dr cn) {q : Nat} {x : ST1 × PG} (hw : WfT x.1) (hx : ImO s q (some x) D.2.1.2 D.2.1.1) : ∃ s1 s2, f_Pages_takeFrom s 22 (q + 1) = some s1 ∧ (sT s1 1 = 1 ∧ sR s1 1 11 = 75 ∧ EqA s s1 75 ∧ EqA s s1 q) ∧ sR s1 1 5 = 18 ∧ sT s1 18 = 11 ∧ f_Setting_takeFrom s1 18 (q + 8) = some s2 ∧ RepD s2 D tp x.1 x.2 LG IM ms vw dr cn ∧ GrM s s2 := by
  have hsx := h.sx
  have hdy := h.dy
  obtain ⟨o1, o2, o3, o4, o5⟩ := h.lv
  obtain ⟨y1, y2, y3, y4, y5⟩ := hx
  have yb : ∀ i, i ≤ 10 → 106 ≤ q + i ∧ q + i < sX s := fun i hi => hdy.1 _ (Or.inr (Or.inr (Or.inr (y5 i hi))))
  have yb0 := yb 0 (by omega)
  obtain ⟨s1, p1, p2, p3⟩ := s_takeFrom o5.1 y3 (by omega)
  have f1 : Fr (fun z => (21 ≤ z ∧ z ≤ 38) ∨ z = 16 ∨ z = 17) s s1 := p3.mo (fun z hz => Or.inl ⟨by have := hz.1; omega, by have := hz.2; omega⟩)
  have h1 := h.u_lv f1 (h.2.2.2.2.2.2.2.2.1.pg p3 (fun z hz d => ⟨d.1, by have := d.2; omega⟩) p2) ⟨h.2.2.2.2.2.2.1.1.st f1.1, by obtain ⟨W, w1, w2⟩ := h.2.2.2.2.2.2.1.2; exact ⟨W, w1.eq (p3.eqA (fun c => by have := c.1; omega)), w2⟩⟩
  have E1 : ∀ z, ¬ (22 < z ∧ z ≤ 28) → EqA s s1 z := fun z hz => p3.eqA (fun c => hz ⟨c.1, by have := c.2; omega⟩)
  have hDL : ∀ z, D.2.1.1 z → 106 ≤ z := h.dl
  have hst2 : SetC s1 (q + 8) x.1 D.2.1.1 := y4.eq (fun i hi => E1 _ (by omega)) (fun z hz => E1 z (by have := hDL z hz; omega))
  obtain ⟨s2, r1, r2, r3, r4, r5⟩ := s_stTake h1.2.2.2.2.2.2.2.1 hst2 hw.2.1 (by omega) (fun z hz hc => by have := hDL z hz; omega)
  have g2 : Gr (fun z => 18 ≤ z ∧ z ≤ 20) s1 s2 := ⟨fun z _ hF => r3 z hF, by rw [r4]; exact Nat.le_refl _⟩
  have h2 : RepD s2 (D.1, (D.2.1.1, D.2.1.2), D.2.2) tp x.1 x.2 LG IM ms vw dr cn := h1.g_st (DL' := D.2.1.1) g2 (fun z hz => hz) r2 (by
    have := h1.dy
    unfold DyO at this ⊢
    rw [r4, r5]
    exact this)
  have e1 := E1 1 (by omega)
  refine ⟨s1, s2, p1, ⟨by rw [e1.1]; exact o1, by rw [e1.2.2.1]; exact h.1.2.2.2.2.2.1, E1 75 (by omega), E1 q (by omega)⟩, h1.st18.1, h1.2.2.2.2.2.2.2.1.is.1, r1, h2, ?_⟩
  exact (f1.grM (fun z hz => by omega)).tr (GrM.of g2 h1.sx.1 (fun z hz => Or.inl (by omega)))
theorem c_back (h : RepD s D tp se P LG IM ms vw dr cn) (hI : ∀ k x, IM k = some x → WfT x.1) {a : Int} (ha : r32 a) : CO s (f_C_back s 1 (v a)) (bckA IM a) tp (bckG IM a se P).1 (bckG IM a se P).2 (bckL IM a LG) IM (tl ms (bckA IM a)) vw dr cn := by
  obtain ⟨o1, o2, o3, o4, o5⟩ := h.lv
  have h9 : CO s (b_C_back_9 1 s) (-1) tp se P LG IM (tl ms (-1)) vw dr cn := by
    unfold b_C_back_9
    rw [if_pos o1, nv1, v_neg]
    exact CO.refu h (GrM.rf s) (by decide)
  have hob : sR s 1 11 = 75 := h.1.2.2.2.2.2.1
  unfold f_C_back bckA bckL bckG
  rw [nv0, nv2]
  by_cases c : a < 0
  · rw [if_pos (plt (by omega)), if_neg (by omega), if_neg (by omega), if_neg (by omega)]
    exact h9
  rw [if_neg (nlt (by omega))]
  by_cases c2 : a < 2
  · obtain ⟨k, hk, rfl⟩ : ∃ k : Nat, k < 2 ∧ a = k := ⟨a.toNat, by omega, by omega⟩
    obtain ⟨⟨m1, m2⟩, q, m3, m4⟩ := h.im
    obtain ⟨n1, n2⟩ := m3 k hk
    have hkv : (v (k : Int)).toNatClampNeg = k := by rw [v_ix (by omega)]; omega
    have n1' : sR s 75 (v (k : Int)).toNatClampNeg = q k := by rw [hkv]; exact n1
    have hok : 0 ≤ (k : Int) ∧ (k : Int) ≤ 1 := by omega
    rw [if_pos (plt (by omega)), if_pos o1, hob, m1, m2, if_pos (show 40 ≤ 43 ∧ inA (v (k : Int)) 2 from ⟨by decide, v_inA (by omega) (by omega)⟩), n1', if_pos hok, if_pos hok, if_pos hok, show ((k : Nat) : Int).toNat = k by omega, v_neg]
    cases hx : IM k with
    | none =>
      rw [hx] at n2
      have n2' : q k = 0 := n2
      rw [if_pos n2', if_pos rfl, if_pos rfl, tl_n (by decide)]
      exact CO.refu h (GrM.rf s) (by decide)
    | some x =>
      rw [hx] at n2
      obtain ⟨s1, s2, z1, z2, z3, z4, z5, z6, z7⟩ := c_bk h (hI k x hx) n2
      obtain ⟨y1, y2, y3, y4, y5⟩ := n2
      rw [if_neg (by omega), if_neg (show ¬ (some x : IMG) = none by simp), if_neg (show ¬ (some x : IMG) = none by simp), o2, if_pos o3, if_pos y2.1, o4, if_pos o5.1.1, y2.2.1, z1, Option.bind_some, if_pos z2.1, z2.2.1, z2.2.2.1.1, z2.2.2.1.2.1, m1, m2, if_pos (show 40 ≤ 43 ∧ inA (v (k : Int)) 2 from ⟨by decide, v_inA (by omega) (by omega)⟩), z2.2.2.1.2.2.1, n1', z2.2.2.2.1, if_pos y2.1, z3, if_pos z4, z2.2.2.2.2.2.1, y2.2.2, z5, Option.bind_some, if_pos z6.1.1, z6.lg57.1, if_pos z6.lg57.2.1, tl_0 (Int.le_refl 0)]
      have f3 : Fr (fun z => 57 ≤ z ∧ z ≤ 59) s2 (setI s2 57 2 (v 0)) := Fr.si (by omega)
      have h3 := z6.u_lg f3 (z6.2.2.2.2.2.2.2.2.2.2.1.clr (fun z hz => by have := (z6.dy.1 z (Or.inl hz)).1; omega))
      exact CO.told h3 (z7.tr (f3.grM (fun z hz => by omega)))
  · rw [if_neg (nlt (by omega)), if_neg (by omega), if_neg (by omega), if_neg (by omega)]
    exact h9
theorem m_imL {A0 : MA} {c : Int} (hc : 0 ≤ c ∧ c ≤ 1) : ∀ (k n : Nat) (i : Int) (s : AS) (A : MA), i + k = 6221 → 0 ≤ i → k < n → MR s 78 A → AF (fun j _ => j = 3) A0 A → (∀ z, 0 ≤ z → z < i → A 3 (6221 * c + z) = A0 2 z) → (∀ z, z < 6221 * c ∨ 6221 * c + 6221 ≤ z → A 3 z = A0 3 z) → ∃ s' A', l_M_image_23 n 78 (v c) (v i) s = b_M_image_23 (fun _ _ _ _ => none) 78 (v c) (v 6221) s' ∧ MR s' 78 A' ∧ AF (fun j _ => j = 3) A0 A' ∧ (∀ z, 0 ≤ z → z < 6221 → A' 3 (6221 * c + z) = A0 2 z) ∧ (∀ z, z < 6221 * c ∨ 6221 * c + 6221 ≤ z → A' 3 z = A0 3 z) ∧ Fr (inM 78) s s' := by
  intro k
  induction k with
  | zero =>
    intro n i s A hi h0 hn h ha hz ho
    obtain ⟨n, rfl⟩ : ∃ m, n = m + 1 := ⟨n - 1, by omega⟩
    refine ⟨s, A, ?_, h, ha, fun z z0 z1 => hz z z0 (by omega), ho, Fr.rf _ _⟩
    rw [show i = 6221 by omega]
    show b_M_image_23 _ _ _ _ _ = _
    unfold b_M_image_23
    rw [nv6221, if_neg (nlt (by omega)), if_neg (nlt (by omega))]
  | succ k ih =>
    intro n i s A hi h0 hn h ha hz ho
    obtain ⟨n, rfl⟩ : ∃ m, n = m + 1 := ⟨n - 1, by omega⟩
    obtain ⟨s', A', q1, q2, q3, q4, q5, q6⟩ := ih n (i + 1) _ _ (by omega) (by omega) (by omega) (h.si (x := A0 2 i) 3 (by decide) (by decide) (z := 6221 * c + i) ⟨by omega, by show 6221 * c + i < (12442 : Int); omega⟩) (ha.tr (AF.pu rfl)) (fun z z0 z1 => by
      by_cases e : z = i
      · rw [e, pu_eq]
      · rw [pu_ne _ _ _ _ (by omega)]; exact hz z z0 (by omega)) (fun z hz2 => by rw [pu_ne _ _ _ _ (by omega)]; exact ho z hz2)
    refine ⟨s', A', ?_, q2, q3, q4, q5, (Fr.si (by omega)).tr q6⟩
    show b_M_image_23 _ _ _ _ _ = _
    conv => lhs; unfold b_M_image_23
    rw [nv6221, nv1, if_pos (plt (by omega)), if_pos h.t, h.r3, h.t3, h.n3, h.r4, h.t4, h.n4, v_mul, v_add, if_pos ⟨rfl, v_inA (by omega) (by omega)⟩, if_pos ⟨rfl, v_inA (by omega) (by omega)⟩, show (v i).toNatClampNeg = i.toNat from v_ix (by omega), show (v (6221 * c + i)).toNatClampNeg = (6221 * c + i).toNat from v_ix (by omega), h.a3 i (by omega), ha 2 i (show ¬ (2 : Nat) = 3 by decide), v_add]
    exact q1
theorem r_image (h : MR s 78 A) (hR : RepA A tp se P LG IM ms vw dr) (hI : ∀ k x, IM k = some x → WfT x.1) (hw : WfT se) {a : Int} (ha : r32 a) : RO s (f_M_image s 78 (v a)) (if 0 ≤ a ∧ a ≤ 1 then 0 else -1) tp se P LG (if 0 ≤ a ∧ a ≤ 1 then imS IM a.toNat (se, P) else IM) (tl ms (if 0 ≤ a ∧ a ≤ 1 then 0 else -1)) vw dr := by
  obtain ⟨k1, k2, k3⟩ := r_thr h hR
  unfold f_M_image
  rw [if_pos h.t, nv0, nv1, lw0, lw1, v_neg, v_w ha, m_in (by omega) (by omega) (by omega), Option.bind_some]
  by_cases c : 0 ≤ a ∧ a ≤ 1
  · obtain ⟨s', A', q1, q2, q3, q4, q5, q6⟩ := m_imL (A0 := pu A 0 0 0) c 6221 fuel 0 _ _ (by omega) (by omega) (by unfold fuel; omega) k1 (AF.rf _ _) (fun z z0 z1 => by omega) (fun z _ => rfl)
    rw [bi_t c, if_neg (show ¬ v 1 = v 0 by decide), if_pos c, if_pos c, q1]
    unfold b_M_image_23
    rw [nv6221, if_neg (nlt (by omega)), if_pos q2.t, q2.r5, q2.t5, q2.n5, nv1, nv0, if_pos ⟨⟨rfl, v_inA (by omega) (by omega)⟩, Or.inr rfl⟩, show (v a).toNatClampNeg = a.toNat from v_ix (by omega)]
    have m2 := q2.si (x := 1) 4 (by decide) (by decide) (z := a) ⟨c.1, by show a < (2 : Int); omega⟩
    have e32 : ∀ z, 0 ≤ z → z < 6221 → pu A' 4 a 1 3 (6221 * a + z) = pu A 0 0 0 2 z := fun z z0 z1 => by rw [pu_row _ _ _ _ (by decide)]; exact q4 z z0 z1
    refine RO.tell m2 (k2.v_im ((q3.mo (fun j z hj => Or.inr (Or.inl hj))).tr (AF.pu (Or.inr (Or.inr rfl)))) (fun k hk => ?_)) (k3.tr (q6.tr (Fr.si (by omega)))) (by decide)
    by_cases e : k = a.toNat
    · rw [e, imS_eq]
      refine ⟨by rw [show ((a.toNat : Nat) : Int) = a by omega, pu_eq], k2.2.2.2.1.cong2 hw.2.1 (fun z z0 z1 => ?_), k2.pg.cg (fun z z0 z1 => ?_)⟩
      · show pu A' 4 a 1 3 (6221 * ((a.toNat : Nat) : Int) + z) = _
        rw [show ((a.toNat : Nat) : Int) = a by omega]
        exact e32 z z0 z1
      · show pu A' 4 a 1 3 (6221 * ((a.toNat : Nat) : Int) + z) = _
        rw [show ((a.toNat : Nat) : Int) = a by omega]
        exact e32 z (by omega) (by omega)
    · rw [imS_ne e]
      have hz3 : ∀ z, 0 ≤ z → z < 6221 → pu A' 4 a 1 3 (6221 * (k : Int) + z) = pu A 0 0 0 3 (6221 * (k : Int) + z) := fun z z0 z1 => by
        rw [pu_row _ _ _ _ (by decide)]
        exact q5 _ (by omega)
      have h4 : pu A' 4 a 1 4 (k : Int) = pu A 0 0 0 4 (k : Int) := by rw [pu_ne _ _ _ _ (by omega), q3 4 _ (show ¬ (4 : Nat) = 3 by decide)]
      have := k2.2.2.2.2.2.2.1 k hk
      cases hx : IM k with
      | none =>
        rw [hx] at this
        show pu A' 4 a 1 4 (k : Int) = 0
        rw [h4]; exact this
      | some x =>
        rw [hx] at this
        obtain ⟨i1, i2, i3⟩ := this
        exact ⟨by rw [h4]; exact i1, i2.cong2 (hI k x hx).2.1 (fun z z0 z1 => hz3 z z0 z1), i3.cg (fun z z0 z1 => hz3 z (by omega) (by omega))⟩
  · rw [bi_f c, if_pos rfl, if_neg c, if_neg c]
    exact RO.tell k1 k2 k3 (by decide)
theorem m_bkL {A0 : MA} {c : Int} (hc : 0 ≤ c ∧ c ≤ 1) : ∀ (k n : Nat) (i : Int) (s : AS) (A : MA), i + k = 6221 → 0 ≤ i → k < n → MR s 78 A → AF (fun j _ => j = 2) A0 A → (∀ z, 0 ≤ z → z < i → A 2 z = A0 3 (6221 * c + z)) → ∃ s' A', l_M_back_39 n 78 (v c) (v i) s = (f_M_tell (setI s' 78 8 (v 0)) 78 (v 0)).bind (fun r => some (r.1, r.2)) ∧ MR s' 78 A' ∧ AF (fun j _ => j = 2) A0 A' ∧ (∀ z, 0 ≤ z → z < 6221 → A' 2 z = A0 3 (6221 * c + z)) ∧ Fr (inM 78) s s' := by
  intro k
  induction k with
  | zero =>
    intro n i s A hi h0 hn h ha hz
    obtain ⟨n, rfl⟩ : ∃ m, n = m + 1 := ⟨n - 1, by omega⟩
    refine ⟨s, A, ?_, h, ha, fun z z0 z1 => hz z z0 (by omega), Fr.rf _ _⟩
    show b_M_back_39 _ _ _ _ _ = _
    unfold b_M_back_39
    rw [nv6221, nv0, if_neg (nlt (by omega)), if_pos h.t]
  | succ k ih =>
    intro n i s A hi h0 hn h ha hz
    obtain ⟨n, rfl⟩ : ∃ m, n = m + 1 := ⟨n - 1, by omega⟩
    obtain ⟨s', A', q1, q2, q3, q4, q6⟩ := ih n (i + 1) _ _ (by omega) (by omega) (by omega) (h.si (x := A0 3 (6221 * c + i)) 2 (by decide) (by decide) (z := i) ⟨by omega, by show i < (6221 : Int); omega⟩) (ha.tr (AF.pu rfl)) (fun z z0 z1 => by
      by_cases e : z = i
      · rw [e, pu_eq]
      · rw [pu_ne _ _ _ _ (by omega)]; exact hz z z0 (by omega))
    refine ⟨s', A', ?_, q2, q3, q4, (Fr.si (by omega)).tr q6⟩
    show b_M_back_39 _ _ _ _ _ = _
    unfold b_M_back_39
    rw [nv6221, nv1, if_pos (plt (by omega)), if_pos h.t, h.r3, h.t3, h.n3, h.r4, h.t4, h.n4, v_mul, v_add, if_pos ⟨rfl, v_inA (by omega) (by omega)⟩, if_pos ⟨rfl, v_inA (by omega) (by omega)⟩, show (v i).toNatClampNeg = i.toNat from v_ix (by omega), show (v (6221 * c + i)).toNatClampNeg = (6221 * c + i).toNat from v_ix (by omega), h.a4 (6221 * c + i) (by omega), ha 3 _ (show ¬ (3 : Nat) = 2 by decide), v_add]
    exact q1
theorem r_back (h : MR s 78 A) (hR : RepA A tp se P LG IM ms vw dr) (hI : ∀ k x, IM k = some x → WfT x.1) {a : Int} (ha : r32 a) : RO s (f_M_back s 78 (v a)) (bckA IM a) tp (bckG IM a se P).1 (bckG IM a se P).2 (bckL IM a LG) IM (tl ms (bckA IM a)) vw dr := by
  obtain ⟨k1, k2, k3⟩ := r_thr h hR
  unfold f_M_back bckA bckL bckG
  rw [if_pos h.t, nv0, nv1, show nI 2 = v 2 from rfl, lw0, lw1, v_neg, v_neg, v_w ha, m_in (by omega) (by omega) (by omega), Option.bind_some]
  by_cases c : 0 ≤ a ∧ a ≤ 1
  · obtain ⟨k, hk, rfl⟩ : ∃ k : Nat, k < 2 ∧ a = k := ⟨a.toNat, by omega, by omega⟩
    have him := k2.2.2.2.2.2.2.1 k hk
    rw [bi_t c, if_neg (show ¬ v 1 = v 0 by decide), if_pos c, if_pos c, if_pos c, show ((k : Nat) : Int).toNat = k by omega, h.r5, h.t5, h.n5, if_pos ⟨rfl, v_inA (by omega) (by omega)⟩, show sI (setI s 78 0 (v 0)) (78 + 4) (v (k : Int)).toNatClampNeg = v (pu A 0 0 0 4 (k : Int)) by rw [v_ix (by omega)]; exact k1.a5 _ (by omega)]
    cases hx : IM k with
    | none =>
      rw [hx] at him
      have him' : pu A 0 0 0 4 (k : Int) = 0 := him
      rw [him', if_pos rfl, if_pos rfl, if_pos rfl]
      exact RO.tell k1 k2 k3 (by decide)
    | some x =>
      rw [hx] at him
      obtain ⟨i1, i2, i3⟩ := him
      obtain ⟨s', A', q1, q2, q3, q4, q5⟩ := m_bkL (A0 := pu A 0 0 0) c 6221 fuel 0 _ _ (by omega) (by omega) (by unfold fuel; omega) k1 (AF.rf _ _) (fun z z0 z1 => by omega)
      rw [i1, if_neg (show ¬ v 1 = v 0 by decide), if_neg (show ¬ (some x : IMG) = none by simp), if_neg (show ¬ (some x : IMG) = none by simp), q1]
      have m2 := q2.s0 (x := 0) (k := 8) (z := 8) rfl (by decide)
      have e2 : ∀ z, 0 ≤ z → z < 6221 → pu A' 0 8 0 2 z = pu A 0 0 0 3 (6221 * (k : Int) + z) := fun z z0 z1 => by rw [pu_row _ _ _ _ (by decide)]; exact q4 z z0 z1
      exact RO.tell m2 (k2.v_ps (se' := x.1) (P' := x.2) (LG' := []) ((q3.mo (fun j z hj => Or.inr (Or.inl hj))).tr (AF.pu (Or.inr (Or.inr ⟨rfl, rfl⟩)))) (i3.cg (fun z z0 z1 => e2 z (by omega) (by omega))) (i2.cong2 (hI k x hx).2.1 e2) ⟨pu_eq _ _ _ _, Nat.zero_le _, fun i y hy => by simp at hy⟩) (k3.tr (q5.tr (Fr.si (by omega)))) (by decide)
  · rw [bi_f c, if_pos rfl, if_neg c, if_neg c, if_neg c]
    exact RO.tell k1 k2 k3 (by decide)
end BCK
