/-! PAIRS: what a record gets; the log is pushed; the tape is brought -/
theorem bring_r {o : LWS} {V : Int → Int} {R : Int → Int} {n : Int} {P : PG} (hG : PgG P) (hR : RecB R n) (hn : 0 ≤ n ∧ n ≤ 200) : (bringP o V R n P).1 = -1 ∨ (0 ≤ (bringP o V R n P).1 ∧ (bringP o V R n P).1 < 128) := by
  obtain ⟨hI, rk, hL⟩ := hG
  unfold bringP
  by_cases c : n ≤ 40
  · rw [if_pos c]
    by_cases e : placeA o V P (-1) n = -1
    · rw [if_pos e]; exact Or.inl rfl
    · rw [if_neg e]
      exact Or.inr (placeA_r hI (Or.inl rfl) hn.1 e).1
  · rw [if_neg c]
    have hJ : PieI (piecesP o V (-1) R n P).2 (piecesP o V (-1) R n P).1 (-1) 0 := pie_I hn.2 hR _ _ _ ⟨hI, Or.inl rfl, rk, hL, Or.inr (Or.inl rfl)⟩ (by omega) (fun h => absurd rfl h)
    by_cases e : (piecesP o V (-1) R n P).1 = -1
    · rw [if_pos e]; exact Or.inl rfl
    · rw [if_neg e]
      by_cases e2 : placeA o V (piecesP o V (-1) R n P).2 (-1) 40 = -1
      · rw [if_pos e2]; exact Or.inl rfl
      · rw [if_neg e2]
        exact Or.inr (placeA_r hJ.1 (Or.inl rfl) (by decide) e2).1
theorem anew_r (o : LWS) (V : Int → Int) (R : Int → Int) (n a : Int) (P : PG) : -1 ≤ (anewP o V R n a P).1 ∧ (anewP o V R n a P).1 ≤ 2 := by
  have zm : (-1 : Int) ≤ -1 ∧ (-1 : Int) ≤ 2 := by decide
  have z0 : (-1 : Int) ≤ 0 ∧ (0 : Int) ≤ 2 := by decide
  have z1 : (-1 : Int) ≤ 1 ∧ (1 : Int) ≤ 2 := by decide
  have z2 : (-1 : Int) ≤ 2 ∧ (2 : Int) ≤ 2 := by decide
  unfold anewP
  split
  · split
    · exact z0
    split
    · exact zm
    split
    · exact zm
    · exact z1
  split
  · exact zm
  split
  · exact zm
  · exact z2
theorem anew_fail {o : LWS} {V : Int → Int} {R : Int → Int} {n a : Int} {P : PG} (h : (anewP o V R n a P).1 = -1) : (anewP o V R n a P).2 = P := by
  unfold anewP at h ⊢
  split
  · rename_i c
    rw [if_pos c] at h
    split
    · rename_i c2
      rw [if_pos c2] at h
      exact absurd (show (0 : Int) = -1 from h) (by decide)
    · rename_i c2
      rw [if_neg c2] at h
      split
      · rfl
      · rename_i c3
        rw [if_neg c3] at h
        split
        · rfl
        · rename_i c4
          rw [if_neg c4] at h
          exact absurd (show (1 : Int) = -1 from h) (by decide)
  · rename_i c
    rw [if_neg c] at h
    split
    · rfl
    · rename_i c2
      rw [if_neg c2] at h
      split
      · rfl
      · rename_i c3
        rw [if_neg c3] at h
        exact absurd (show (2 : Int) = -1 from h) (by decide)
theorem mendL_r (P0 : PG) : ∀ (k : Nat) (p c : Int) (P : PG), c ≤ (mendL P0 k p c P).1 ∧ (mendL P0 k p c P).1 ≤ c + k := by
  intro k
  induction k with
  | zero => intro p c P; exact ⟨Int.le_refl _, by show c ≤ c + (0 : Int); omega⟩
  | succ k ih =>
    intro p c P
    unfold mendL
    have := ih (p + 1) (if promP P p 4 p = P0 4 p then c else c + 1) (promP P p)
    split at this <;> split <;> omega
theorem DyO.lg {s s' : AS} {D : DYN} {IM : Nat → IMG} {cn k1' : Nat} {D1' : Nat → Prop} (h : DyO s D IM cn) (hD1 : ∀ q, D1' q → D.1.1 q ∨ (sX s ≤ q ∧ q < sX s')) (hk : D.2.2.1 ≤ k1' ∧ k1' ≤ 16) (eX : sX s' = sX s + 7 * (k1' - D.2.2.1)) (eZ : sZ s' = sZ s + 918 * (k1' - D.2.2.1)) : DyO s' ((D1', D.1.2), D.2.1, k1', D.2.2.2) IM cn := by
  obtain ⟨h1, h2, h3, h4, h5, h6, h7, h8, h9⟩ := h
  refine ⟨fun q hq => ?_, fun q hq => ?_, h3, h4, ⟨hk.2, h5.2⟩, by omega, ?_, ?_, h9⟩
  · rcases hq with d | d
    · rcases hD1 q d with e | e
      · have := h1 q (Or.inl e); omega
      · omega
    · have := h1 q (Or.inr d); omega
  · rcases hD1 q hq with e | e
    · exact h2 q e
    · exact ⟨fun d => by have := (h1 q (Or.inr (Or.inl d))).2; omega, fun d => by have := (h1 q (Or.inr (Or.inr (Or.inl d)))).2; omega, fun d => by have := (h1 q (Or.inr (Or.inr (Or.inr d)))).2; omega⟩
  · show sX s' + 7 * (32 - k1' - D.2.2.2) + _ + _ ≤ _
    omega
  · show sZ s' + 918 * (32 - k1' - D.2.2.2) + _ + _ ≤ _
    omega
section PGU
variable {s : AS} {D : DYN} {tp : (Int → Int) × Int} {se : ST1} {P Bf : PG} {LG : LGS} {IM : Nat → IMG} {ms : Int → Int} {vw : (Int → Int) × Int} {dr : DRW} {A : MA} {cn : Nat} {kind : Int}
theorem c_push (h : RepD s D tp se P LG IM ms vw dr cn) (hb : PgR s 29 Bf) (h16 : LG.length ≤ 16) : ∃ s' D', f_Log_push s 57 (v kind) 29 = some s' ∧ RepD s' D' tp se P (pushL LG (kind, Bf)) IM ms vw dr cn ∧ GrM s s' := by
  have hdy := h.2.2.2.2.2.2.2.2.2.2.2.2.2.2.2.2.2
  obtain ⟨h1, h2, h3, h4, h5, h6, h7, h8, h9⟩ := hdy
  have hd : ∀ q, D.1.1 q → 106 ≤ q ∧ q < sX s := fun q hq => h1 q (Or.inl hq)
  obtain ⟨s', k', q1, q2, q3, q4⟩ := s_push (kind := kind) h.2.2.2.2.2.2.2.2.2.2.1 h16 (fun q hq => by have := hd q hq; omega) (by omega) (by omega) hb (fun j hj => ⟨⟨fun e => by have := hd _ e; omega, by omega⟩, by omega⟩)
  have hk16 : k' ≤ 16 := by obtain ⟨Lr, -, -, e, -⟩ := q2; exact e.2
  refine ⟨s', _, q1, h.g_lg (q3.mo (fun q hq => hq)) q2 ((show DyO s D IM cn from ⟨h1, h2, h3, h4, h5, h6, h7, h8, h9⟩).lg (fun q hq => hq) (by omega) (by omega) (by omega)), fun q hq => q3.1 q (by rcases hq with e | e; exact Or.inl (by have := e.2; omega); exact Or.inr e) (fun d => ?_)⟩
  have : ∀ q, inM 78 q ∨ 900000 ≤ q → ¬ (57 ≤ q ∧ q ≤ 59) ∧ ¬ (106 ≤ q ∧ q < 900000) := fun q hq => by rcases hq with e | e; exact ⟨by have := e.1; omega, by have := e.2; omega⟩; exact ⟨by omega, by omega⟩
  rcases d with d | d
  · exact (this q hq).1 d
  · have := hd q d
    exact (‹∀ q, inM 78 q ∨ 900000 ≤ q → ¬ (57 ≤ q ∧ q ≤ 59) ∧ ¬ (106 ≤ q ∧ q < 900000)› q hq).2 ⟨this.1, by omega⟩
theorem m_bringTape (h : MR s 78 A) (hR : RepA A tp se P LG IM ms vw dr) (hT : TpB tp) : ∃ s' A', f_M_bringTape s 78 = some s' ∧ MR s' 78 A' ∧ RepA A' (tp.1, 0) se P LG IM ms vw dr ∧ A' 0 44 = tp.2 ∧ (∀ z, 0 ≤ z → z < tp.2 → z < 200 → A' 22 z = tp.1 z) ∧ Fr (inM 78) s s' := by
  obtain ⟨p1, p2, p3⟩ := hR.1
  have hn := hT.1
  have loop : ∀ (k n : Nat) (i : Int) (s : AS) (A' : MA), i + k = min tp.2 200 → 0 ≤ i → k < n → MR s 78 A' → AF (fun j z => j = 22 ∨ (j = 0 ∧ z = 44)) A A' → (∀ z, 0 ≤ z → z < i → A' 22 z = tp.1 z) → A' 0 44 = tp.2 → ∃ s' A'', l_M_bringTape_10 n 78 (v i) s = some s' ∧ MR s' 78 A'' ∧ AF (fun j z => j = 22 ∨ (j = 0 ∧ (z = 44 ∨ z = 12))) A A'' ∧ A'' 0 12 = 0 ∧ A'' 0 44 = tp.2 ∧ (∀ z, 0 ≤ z → z < min tp.2 200 → A'' 22 z = tp.1 z) ∧ Fr (inM 78) s s' := by
    intro k
    induction k with
    | zero =>
      intro n i s A' hi h0 hk hm ha hz h44
      obtain ⟨n, rfl⟩ : ∃ m, n = m + 1 := ⟨n - 1, by omega⟩
      have e12 : A' 0 12 = tp.2 := by rw [ha 0 12 (by omega)]; exact p1
      refine ⟨setI s 78 12 (v 0), pu A' 0 12 0, ?_, hm.s0 rfl (by decide), (ha.mo (fun j z hj => by omega)).tr (AF.pu (Or.inr ⟨rfl, Or.inr rfl⟩)), pu_eq _ _ _ _, by rw [pu_ne _ _ _ _ (by omega)]; exact h44, fun z z0 z1 => by rw [pu_row _ _ _ _ (by decide)]; exact hz z z0 (by omega), Fr.si (by omega)⟩
      show b_M_bringTape_10 _ _ _ _ = _
      unfold b_M_bringTape_10
      rw [if_pos hm.t, hm.i12, e12, nv200, nv0]
      by_cases c : i < tp.2
      · rw [if_pos (plt (by omega)), if_neg (nlt (by omega))]
      · rw [if_neg (nlt (by omega))]
    | succ k ih =>
      intro n i s A' hi h0 hk hm ha hz h44
      obtain ⟨n, rfl⟩ : ∃ m, n = m + 1 := ⟨n - 1, by omega⟩
      have e12 : A' 0 12 = tp.2 := by rw [ha 0 12 (by omega)]; exact p1
      have e9 : A' 9 i = tp.1 i := by rw [ha 9 i (by omega)]; exact (p3 i h0 (by omega)).1
      obtain ⟨s', A'', q1, q2, q3, q4, q5, q6, q7⟩ := ih n (i + 1) _ _ (by omega) (by omega) (by omega) (hm.si (x := tp.1 i) 22 (by decide) (by decide) (z := i) ⟨h0, by show i < (200 : Int); omega⟩) (ha.tr (AF.pu (Or.inl rfl))) (fun z z0 z1 => by
        by_cases c : z = i
        · rw [c, pu_eq]
        · rw [pu_ne _ _ _ _ (fun e => c e.2)]; exact hz z z0 (by omega)) (by rw [pu_row _ _ _ _ (by decide)]; exact h44)
      refine ⟨s', A'', ?_, q2, q3, q4, q5, q6, (Fr.si (by omega)).tr q7⟩
      show b_M_bringTape_10 _ _ _ _ = _
      unfold b_M_bringTape_10
      rw [if_pos hm.t, hm.i12, e12, nv200, nv1, if_pos (plt (by omega)), if_pos (plt (by omega)), hm.r11, hm.t11, hm.n11, hm.r43, hm.t43, hm.n43, if_pos ⟨rfl, v_inA (by omega) (by omega)⟩, if_pos ⟨rfl, v_inA (by omega) (by omega)⟩, v_ix (by omega), hm.a11 i (by omega), e9, v_add]
      exact q1
  have m0 := h.s0 (x := tp.2) (k := 44) (z := 44) rfl (by decide)
  obtain ⟨s', A', q1, q2, q3, q4, q5, q6, q7⟩ := loop (min tp.2 200).toNat fuel 0 _ _ (by omega) (by omega) (by unfold fuel; omega) m0 (AF.pu (Or.inr ⟨rfl, rfl⟩)) (fun z z0 z1 => by omega) (pu_eq _ _ _ _)
  refine ⟨s', A', ?_, q2, hR.v_tp (tp' := (tp.1, 0)) (q3.mo (fun j z hj => by omega)) ⟨q4, (show (0 : Int) ≤ 0 ∧ (0 : Int) ≤ 400 by decide), fun z z0 z1 => absurd (show z < 0 from z1) (by omega)⟩, q5, fun z z0 z1 z2 => q6 z z0 (by omega), (Fr.si (by omega)).tr q7⟩
  unfold f_M_bringTape
  rw [if_pos h.t, h.i12, p1, nv0]
  exact q1
end PGU
