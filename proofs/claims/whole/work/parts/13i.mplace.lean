/-! THE REFERENCE: a cell comes, cells leave -/
section ML
variable {m : Nat} {P : PG} {p : Int}
/-- a slot written -/
theorem m_slotw {s : AS} {A : MA} {i kd pl ln : Int} (h : MR s m A) (hP : PgM (A 2) P) (hp : 0 ≤ p ∧ p < 8) (hi : 0 ≤ i ∧ i < 12) (hx : -1000 ≤ pl ∧ pl ≤ 1000) :
    ∃ s' A', setI (setI (setI s (m + 2) (5 + 102 * p + 2 + 3 * i).toNat (v kd)) (m + 2) (5 + 102 * p + 2 + 3 * i + 1).toNat (v pl)) (m + 2) (5 + 102 * p + 2 + 3 * i + 2).toNat (v ln) = s' ∧ MR s' m A' ∧ PgM (A' 2) (pu (pu (pu P 0 (p * 16 + i) kd) 1 (p * 16 + i) pl) 2 (p * 16 + i) ln) ∧ AF (fun j z => j = 2 ∧ 5 ≤ z ∧ z < 821) A A' ∧ Fr (inM m) s s' := by
  have h1 := h.si 2 (by decide) (by decide) (z := 5 + 102 * p + 2 + 3 * i) (x := kd) ⟨by omega, by show 5 + 102 * p + 2 + 3 * i < 6221; omega⟩
  have h2 := h1.si 2 (by decide) (by decide) (z := 5 + 102 * p + 2 + 3 * i + 1) (x := pl) ⟨by omega, by show 5 + 102 * p + 2 + 3 * i + 1 < 6221; omega⟩
  have h3 := h2.si 2 (by decide) (by decide) (z := 5 + 102 * p + 2 + 3 * i + 2) (x := ln) ⟨by omega, by show 5 + 102 * p + 2 + 3 * i + 2 < 6221; omega⟩
  refine ⟨_, _, rfl, h3, ?_, ((AF.pu ⟨rfl, by omega, by omega⟩).tr (AF.pu ⟨rfl, by omega, by omega⟩)).tr (AF.pu ⟨rfl, by omega, by omega⟩), ((inM_s (by decide)).tr (inM_s (by decide))).tr (inM_s (by decide))⟩
  rw [pu_b, pu_b, pu_b]
  exact hP.s012 hp hi hx
theorem m_leaveL {kept : Int} (hp : 0 ≤ p ∧ p < 8) : ∀ (k n : Nat) (s : AS) (A : MA) (P : PG), MR s m A → PgM (A 2) P → KptM A kept → PgB P → (k : Int) ≤ 12 → k < n →
    l_M_leaves_51 n m (v p) (v k) s = some (setI s (m + 2) (5 + 102 * p).toNat (v (trimL P p kept k))) := by
  intro k
  induction k with
  | zero =>
    intro n s A P h hP hK hB hk hn
    obtain ⟨n, rfl⟩ : ∃ m, n = m + 1 := ⟨n - 1, by omega⟩
    show b_M_leaves_51 _ _ _ _ _ = _
    unfold b_M_leaves_51 b_M_leaves_83
    rw [nv0, if_neg (nlt (by omega)), if_pos h.t, m_pageAt, Option.bind_some, h.r3, h.t3, h.n3, v_add, Int.add_zero, if_pos ⟨rfl, v_inA (by omega) (by omega)⟩, v_ix (by omega)]
    rfl
  | succ k ih =>
    intro n s A P h hP hK hB hk hn
    obtain ⟨n, rfl⟩ : ∃ m, n = m + 1 := ⟨n - 1, by omega⟩
    have hkd := m_kindOf h hP (p := p) (i := k) hp (by omega)
    have hkk := m_kept (i := k) h hp (by omega) hK
    have hb := hB.2 (p * 16 + k)
    have hkc : ((k + 1 : Nat) : Int) = (k : Int) + 1 := by omega
    rw [hkc]
    show b_M_leaves_51 _ _ _ _ _ = _
    unfold b_M_leaves_51 trimL
    rw [nv0, if_pos (plt (by omega)), if_pos h.t, nv1, v_sub, show (k : Int) + 1 - 1 = k by omega, hkd, Option.bind_some]
    have h83 : b_M_leaves_83 m (v p) (v ((k : Int) + 1)) s = some (setI s (m + 2) (5 + 102 * p).toNat (v ((k : Int) + 1))) := by
      unfold b_M_leaves_83
      rw [nv0, if_pos h.t, m_pageAt, Option.bind_some, h.r3, h.t3, h.n3, v_add, Int.add_zero, if_pos ⟨rfl, v_inA (by omega) (by omega)⟩, v_ix (by omega)]
    by_cases e1 : P 0 (p * 16 + k) = 0
    · by_cases e2 : p * 16 + (k : Int) = kept
      · rw [if_pos (peq e1), hkk, Option.bind_some, bi_t e2, if_neg (show ¬ v 1 = v 0 by decide), if_neg (fun c => c.2 e2)]
        exact h83
      · rw [if_pos (peq e1), hkk, Option.bind_some, bi_f e2, if_pos rfl, if_pos ⟨e1, e2⟩, v_neg, v_add, show (k : Int) + 1 + -1 = k by omega]
        exact ih n s A P h hP hK hB (by omega) (by omega)
    · rw [if_neg (pne (by omega)), if_neg (fun c => e1 c.1)]
      exact h83
/-- the same pages but for where empty slots' cells would lie -/
theorem PgM.eq {R : Int → Int} {P Q : PG} (h : PgM R P) (he : ∀ j z, j ≠ 1 → Q j z = P j z) (h1 : ∀ z, P 0 z ≠ 0 → Q 1 z = P 1 z) : PgM R Q := by
  obtain ⟨a1, a2, a3, a4, a5, a6, a7⟩ := h
  refine ⟨fun q hq => by rw [he 3 _ (by decide)]; exact a1 q hq, fun q hq => by rw [he 4 _ (by decide)]; exact a2 q hq, fun q j hq => by rw [he 0 _ (by decide)]; exact a3 q j hq, fun q j hq => ?_, fun q j hq => by rw [he 2 _ (by decide)]; exact a5 q j hq, fun q j hq => by rw [he 5 _ (by decide)]; exact a6 q j hq, a7⟩
  rw [he 0 _ (by decide)] at hq
  rw [h1 _ hq.2]
  exact a4 q j hq
theorem m_leaves {s : AS} {A : MA} {a kept : Int} (h : MR s m A) (hP : PgM (A 2) P) (hK : KptM A kept) (hB : PgB P) (ha : 0 ≤ a ∧ a < 128) (hs : a % 16 < 12) :
    ∃ s' A', f_M_leaves s m (v (a / 16)) (v (a % 16)) = some s' ∧ MR s' m A' ∧ PgM (A' 2) (clearP P a kept) ∧ AF scrP A A' ∧ Fr (inM m) s s' := by
  have ea : a / 16 * 16 + a % 16 = a := by omega
  have hp : 0 ≤ a / 16 ∧ a / 16 < 8 := by omega
  obtain ⟨s1, A1, q1, q2, q3, q4, q5⟩ := m_slotw (kd := 0) (pl := 0) (ln := 0) h hP hp (i := a % 16) (by omega) (by omega)
  rw [ea] at q3
  -- the place of an empty slot aside
  have q3' : PgM (A1 2) (pu (pu P 0 a 0) 2 a 0) := q3.eq (fun j z hj => by
    show (if j = 2 ∧ z = a then 0 else pu P 0 a 0 j z) = (if j = 2 ∧ z = a then 0 else pu (pu P 0 a 0) 1 a 0 j z)
    rw [pu_row (pu P 0 a 0) 1 a 0 hj z]) (fun z hz => by
    rw [pu_row _ _ _ _ (by decide), pu_row _ _ _ _ (by decide), pu_v] at hz
    have ez : z ≠ a := fun e => hz (by rw [if_pos e])
    rw [pu_row _ _ _ _ (by decide), pu_row _ _ _ _ (by decide), pu_row _ _ _ _ (by decide), pu_ne _ _ _ _ (by omega), pu_row _ _ _ _ (by decide)])
  have hB1 := clear_B hB a
  have hKA : KptM A1 kept := by
    unfold KptM
    rw [q4 0 41 (by omega), q4 0 42 (by omega)]
    exact hK
  have hl := (hB.2 (a / 16)).2.2.2.1
  have hlen := q2.a3 (5 + 102 * (a / 16)) (by omega)
  rw [q3'.1 _ hp, pu_row _ _ _ _ (by decide), pu_row _ _ _ _ (by decide)] at hlen
  have hlv := m_leaveL hp (P 3 (a / 16)).toNat fuel s1 A1 _ q2 q3' hKA hB1 (by omega) (by unfold fuel; omega)
  rw [show (((P 3 (a / 16)).toNat : Nat) : Int) = P 3 (a / 16) by omega] at hlv
  have hw := q2.si 2 (by decide) (by decide) (z := 5 + 102 * (a / 16)) (x := trimL (pu (pu P 0 a 0) 2 a 0) (a / 16) kept (P 3 (a / 16)).toNat) ⟨by omega, by show 5 + 102 * (a / 16) < 6221; omega⟩
  refine ⟨_, _, ?_, hw, ?_, (q4.mo (fun j z hj => Or.inr (Or.inr hj))).tr (AF.pu (Or.inr (Or.inr ⟨rfl, by omega, by omega⟩))), q5.tr (inM_s (by decide))⟩
  · unfold f_M_leaves
    rw [if_pos h.t, m_slotAt, Option.bind_some, h.r3, h.t3, h.n3, nv0, nv1, nv2, v_add, Int.add_zero, if_pos ⟨rfl, v_inA (by omega) (by omega)⟩, m_slotAt, Option.bind_some, v_add, if_pos ⟨rfl, v_inA (by omega) (by omega)⟩, m_slotAt, Option.bind_some, v_add, if_pos ⟨rfl, v_inA (by omega) (by omega)⟩, m_pageAt, Option.bind_some, v_add, Int.add_zero, if_pos ⟨rfl, v_inA (by omega) (by omega)⟩, v_ix (a := 5 + 102 * (a / 16)) (by omega), v_ix (a := 5 + 102 * (a / 16) + 2 + 3 * (a % 16)) (by omega), v_ix (a := 5 + 102 * (a / 16) + 2 + 3 * (a % 16) + 1) (by omega), v_ix (a := 5 + 102 * (a / 16) + 2 + 3 * (a % 16) + 2) (by omega), q1, hlen]
    exact hlv
  · rw [pu_b]
    exact q3'.s3 hp
theorem m_pointed {s : AS} {A : MA} {rk : Int → Int} {a : Int} (h : MR s m A) (hP : PgM (A 2) P) (hI : PgI P) (hL : PgLk P rk) (ha : 0 ≤ a ∧ a < 128) (hk : linkP P a ≠ 0) : f_M_pointed s m (v a) = some (v (nextP P a)) ∧ a % 16 < 12 ∧ P 0 a ≠ 0 := by
  have ea : a / 16 * 16 + a % 16 = a := by omega
  have h0 : P 0 a ≠ 0 := by
    intro e
    unfold linkP at hk
    rw [e, if_neg (by decide)] at hk
    exact hk rfl
  have hl3 := (hI.1.1.2 (a / 16)).2.2.2.1
  have hs : a % 16 < 12 := by
    by_cases c : a % 16 < P 3 (a / 16)
    · omega
    · have := hI.1.2.2 (a / 16) (a % 16) (by omega) ⟨by omega, by omega⟩
      rw [ea] at this
      exact absurd this h0
  have hin := hI.2.1 (a / 16) (a % 16) (by omega) (by omega) (by rw [ea]; exact h0)
  rw [ea] at hin
  obtain ⟨⟨s1, s2, s3⟩, b1, -⟩ := hL a ha
  have hsz : 2 ≤ P 2 a := by
    unfold linkP at hk
    by_cases c : P 0 a = 2 ∨ P 0 a = 4 ∨ P 0 a = 5
    · rcases c with c | c | c
      · have := s1 c; omega
      · have := s2 c; omega
      · have := s3 c; omega
    · rw [if_neg c] at hk; exact absurd rfl hk
  have bc : ∀ k : Int, 0 ≤ k → k < 2 → byteC P a k = P 5 (a / 16 * 64 + P 1 a + k) := fun k k0 k1 => by unfold byteC; rw [if_neg (by omega)]
  have e0 := m_byteAt (k := 0) h hP ha hs h0
  have e1 := m_byteAt (k := 1) h hP ha hs h0
  have r0 := h.a3 (5 + 102 * (a / 16) + 38 + P 1 a + 0) (by omega)
  rw [m_rowByte h hP ha (by omega), ← bc 0 (by omega) (by omega)] at r0
  have r1 := h.a3 (5 + 102 * (a / 16) + 38 + P 1 a + 1) (by omega)
  rw [m_rowByte h hP ha (by omega), ← bc 1 (by omega) (by omega)] at r1
  refine ⟨?_, hs, h0⟩
  unfold f_M_pointed
  rw [if_pos h.t, nv0, nv1, e0, Option.bind_some, h.r3, h.t3, h.n3, if_pos ⟨rfl, v_inA (by omega) (by omega)⟩, v_ix (by omega), r0, nv255]
  unfold nextP
  rw [if_neg hk]
  rcases b1 hk with ⟨c1, c2⟩ | ⟨c1, c2, c3⟩
  · rw [c1, if_pos rfl, c2, if_neg (by omega), v_neg]
  · rw [c1, if_neg (show ¬ v 0 = v 255 by decide), e1, Option.bind_some, if_pos ⟨rfl, v_inA (by omega) (by omega)⟩, v_ix (by omega), r1, if_pos ⟨c2, c3⟩]
theorem m_pointedBy {s : AS} {A : MA} {rk : Int → Int} {a : Int} (h : MR s m A) (hP : PgM (A 2) P) (hI : PgI P) (hL : PgLk P rk) (ha : 0 ≤ a ∧ a < 128) : f_M_pointedBy s m (v a) = some (v (nextP P a)) := by
  have hkd := m_kindAt h hP hI.1 ha
  have hb := hI.1.1.2 a
  unfold f_M_pointedBy b_M_pointedBy_21
  rw [if_pos h.t, hkd, Option.bind_some, nv2, nv4, nv5, nv1, v_neg]
  by_cases c : P 0 a = 2 ∨ P 0 a = 4 ∨ P 0 a = 5
  · have hk : linkP P a ≠ 0 := by unfold linkP; rw [if_pos c]; decide
    obtain ⟨hpt, -⟩ := m_pointed h hP hI hL ha hk
    rw [if_pos h.t, hpt, Option.bind_some]
    by_cases c2 : P 0 a = 2
    · rw [if_pos (peq c2)]
    · rw [if_neg (pne (by omega))]
      by_cases c4 : P 0 a = 4
      · rw [if_pos (peq c4)]
      · rw [if_neg (pne (by omega)), if_pos (peq (by omega))]
  · rw [if_neg (pne (by omega)), if_neg (pne (by omega)), if_neg (pne (by omega))]
    unfold nextP linkP
    rw [if_neg c, if_pos rfl]
theorem m_allL {kept : Int} : ∀ (k n : Nat) (a : Int) (P : PG) (rk : Int → Int) (s : AS) (A : MA), MR s m A → PgM (A 2) P → KptM A kept → PgI P → PgLk P rk → -1 ≤ a ∧ a < 128 → (a ≠ -1 → NoPt P a ∧ a % 16 < 12 ∧ rk a < k) → k < n →
    ∃ s' A', l_M_allLeave_2 n m (v a) s = some s' ∧ MR s' m A' ∧ PgM (A' 2) (takeL kept k a P) ∧ AF scrP A A' ∧ Fr (inM m) s s' := by
  intro k
  induction k with
  | zero =>
    intro n a P rk s A h hP hK hI hL ha hno hn
    obtain ⟨n, rfl⟩ : ∃ m, n = m + 1 := ⟨n - 1, by omega⟩
    have e : a = -1 := by
      by_cases c : a = -1
      · exact c
      · have := (hno c).2.2
        have := (hL a (by omega)).2.2.2.2
        omega
    refine ⟨s, A, ?_, h, hP, AF.rf _ _, Fr.rf _ _⟩
    show b_M_allLeave_2 _ _ _ _ = _
    unfold b_M_allLeave_2
    rw [nv1, v_neg, if_pos (peq e)]
  | succ k ih =>
    intro n a P rk s A h hP hK hI hL ha hno hn
    obtain ⟨n, rfl⟩ : ∃ m, n = m + 1 := ⟨n - 1, by omega⟩
    show ∃ s' A', b_M_allLeave_2 _ _ _ _ = _ ∧ _
    unfold b_M_allLeave_2 takeL
    rw [nv1, v_neg]
    by_cases e : a = -1
    · rw [if_pos (peq e), if_pos e]
      exact ⟨s, A, rfl, h, hP, AF.rf _ _, Fr.rf _ _⟩
    · have ha' : 0 ≤ a ∧ a < 128 := by omega
      obtain ⟨n1, n2, n3⟩ := hno e
      have hpb := m_pointedBy h hP hI hL ha'
      obtain ⟨s1, A1, q1, q2, q3, q4, q5⟩ := m_leaves (kept := kept) h hP hK hI.1.1 ha' n2
      obtain ⟨c1, c2, c3⟩ := clearP_Lk (kept := kept) hL ha' n1
      have hKA : KptM A1 kept := by
        unfold KptM
        rw [q4 0 41 (by omega), q4 0 42 (by omega)]
        exact hK
      have hnx : nextP P a ≠ -1 → NoPt (clearP P a kept) (nextP P a) ∧ nextP P a % 16 < 12 ∧ rk (nextP P a) < k := fun hx => by
        obtain ⟨t1, t2, t3⟩ := (hL a ha').2.2.1 hx
        have hnr := nextP_r (P := P) a
        refine ⟨fun b hb => ?_, ?_, by omega⟩
        · by_cases eb : b = a
          · rw [eb, c3]; exact fun c => hx c.symm
          · rw [c2 b hb eb]; exact fun c => eb (t3 b hb c)
        · have h0 : P 0 (nextP P a) ≠ 0 := by unfold tgtP at t1; omega
          have hl3 := (hI.1.1.2 (nextP P a / 16)).2.2.2.1
          by_cases c : nextP P a % 16 < P 3 (nextP P a / 16)
          · omega
          · have := hI.1.2.2 (nextP P a / 16) (nextP P a % 16) (by omega) ⟨by omega, by omega⟩
            rw [show nextP P a / 16 * 16 + nextP P a % 16 = nextP P a by omega] at this
            exact absurd this h0
      obtain ⟨s', A', u1, u2, u3, u4, u5⟩ := ih n (nextP P a) _ rk s1 A1 q2 q3 hKA (clearP_I hI ha').1 c1 (nextP_r a) hnx (by omega)
      rw [if_neg (pne (by omega)), if_neg e]
      refine ⟨s', A', ?_, u2, u3, q4.tr u4, q5.tr u5⟩
      rw [if_pos h.t, hpb, Option.bind_some, if_pos (show ¬ nI 16 = nI 0 by decide), nv16, v_div (by omega) (by omega), v_mul, v_sub, show a - a / 16 * 16 = a % 16 by omega, q1, Option.bind_some]
      exact u1
theorem m_allLeave {s : AS} {A : MA} {kept a : Int} (h : MR s m A) (hP : PgM (A 2) P) (hK : KptM A kept) (hG : PgG P) (hr : recP P a) : ∃ s' A', f_M_allLeave s m (v a) = some s' ∧ MR s' m A' ∧ PgM (A' 2) (takeP P a kept) ∧ AF scrP A A' ∧ Fr (inM m) s s' := by
  obtain ⟨hI, rk, hL⟩ := hG
  exact m_allL 128 fuel a P rk s A h hP hK hI hL (by have := hr.1; omega) (fun _ => ⟨rec_no hL hr, (rec_dir hI hr).2, by have := (hL a hr.1).2.2.2.2; omega⟩) (by unfold fuel; omega)
end ML
