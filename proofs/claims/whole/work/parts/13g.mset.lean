/-! THE REFERENCE: where SEARCH tells; its pages written -/
theorem left_tellO {R : Int → Int} {o : LWS} {V : Int → Int} {P : PG} {p sz : Int} (h : LawM R o) : leftP o V P p sz = if tellO o V P p sz 1 = 0 then bnd (tellO o V P p sz 0) else 65 := by
  rcases h with ⟨-, l2⟩ | ⟨-, T, cl, l2, l3, l4⟩
  · subst l2; rfl
  · subst l2
    exact left_tell l4 cl.toNat 0 0 (by have := l3.2.1; omega) (by omega)
theorem m_bounded {s : AS} {x : Int} (hx : stB x) : f_M_bounded s (w x) (nI 0) (nI 64) = some (v (bnd x)) := by
  unfold f_M_bounded
  simp (disch := omega) only [nv0, nv64, v_w, wc_lt, wc_gt, w_v, vif]
  congr 2
  unfold bnd
  split
  · omega
  · split <;> omega
theorem m_searchL {m : Nat} {A0 : MA} {o : LWS} {V : Int → Int} {kept : Int} {P : PG} {sz : Int} (hE : MkE A0 o V kept P) (hK : PgK P) (hs : 0 ≤ sz ∧ sz ≤ 100) : ∀ (k n : Nat) (p : Int) (s : AS) (A : MA), p + k = 8 → 0 ≤ p → k < n → MR s m A → AF scrH A0 A →
    ∃ s' A', l_M_searchFor_2 n m (v sz) (v p) s = some (v (searchL P kept (fun p => leftP o V P p sz) sz k p), s') ∧ MR s' m A' ∧ AF scrH A0 A' ∧ Fr (inM m) s s' := by
  intro k
  induction k with
  | zero =>
    intro n p s A hp h0 hn h ha
    obtain ⟨n, rfl⟩ : ∃ m, n = m + 1 := ⟨n - 1, by omega⟩
    refine ⟨s, A, ?_, h, ha, Fr.rf _ _⟩
    show b_M_searchFor_2 _ _ _ _ _ = _
    unfold b_M_searchFor_2
    rw [nv8, if_neg (nlt (by omega)), nv1, v_neg]
    rfl
  | succ k ih =>
    intro n p s A hp h0 hn h ha
    obtain ⟨n, rfl⟩ : ∃ m, n = m + 1 := ⟨n - 1, by omega⟩
    have hEA := hE.fr ha
    have hb := hK.1.2 p
    have hfr := freeP_r hK.1 p
    have hop := openP_r hK.1 p kept
    have hslot := m_slotFor h hEA.1 hK (p := p) (by omega) hEA.2.2.1
    have rp := h.a3 (5 + 102 * p + 1) (by omega)
    rw [hEA.1.2.1 p (by omega)] at rp
    have hl := left_tellO (V := V) (P := P) (p := p) (sz := sz) hE.2.2.2.1
    obtain ⟨s1, A1, q1, q2, q3, q4, q5⟩ := m_tells (p := p) (sz := sz) (head := 1) h hEA hK (by omega) (by omega) (Or.inr rfl)
    have hE1 := hEA.fr q3
    have hfree := m_freeOf q2 hE1.1 hK (p := p) (by omega)
    obtain ⟨s2, A2, r1, r2, r3, r4, r5⟩ := m_tells (p := p) (sz := sz) (head := 0) q2 hE1 hK (by omega) (by omega) (Or.inl rfl)
    have hbd := m_bounded (s := s2) r5
    have hbr : 0 ≤ bnd (tellO o V P p sz 0) ∧ bnd (tellO o V P p sz 0) ≤ 64 := by unfold bnd; omega
    have cont : ∀ (s3 : AS) (A3 : MA), MR s3 m A3 → AF scrH A0 A3 → Fr (inM m) s s3 → ¬ ((sz + 9) / 8 ≤ P 4 p ∧ openP P p kept ≠ -1 ∧ leftP o V P p sz ≤ freeP P p - sz - 2) → ∃ s' A', l_M_searchFor_2 n m (v sz) (v (p + 1)) s3 = some (v (searchL P kept (fun p => leftP o V P p sz) sz (k + 1) p), s') ∧ MR s' m A' ∧ AF scrH A0 A' ∧ Fr (inM m) s s' := by
      intro s3 A3 k1 k2 k3 k4
      obtain ⟨s', A', u1, u2, u3, u4⟩ := ih n (p + 1) s3 A3 (by omega) (by omega) (by omega) k1 k2
      have hx : searchL P kept (fun p => leftP o V P p sz) sz (k + 1) p = searchL P kept (fun p => leftP o V P p sz) sz k (p + 1) := if_neg k4
      rw [hx]
      exact ⟨s', A', u1, u2, u3, k3.tr u4⟩
    show ∃ s' A', b_M_searchFor_2 _ _ _ _ _ = _ ∧ _
    unfold b_M_searchFor_2
    rw [nv8, if_pos (plt (by omega)), if_pos h.t, m_pageAt, Option.bind_some, h.r3, h.t3, h.n3, nv1, v_add, if_pos ⟨rfl, v_inA (by omega) (by omega)⟩, if_pos (show ¬ v 8 = nI 0 by decide), v_ix (by omega), rp, nv9, v_add, v_div (by omega) (by omega)]
    by_cases c1 : (sz + 9) / 8 ≤ P 4 p
    · rw [if_neg (nlt (by omega)), hslot, Option.bind_some, v_neg]
      by_cases c2 : openP P p kept = -1
      · rw [if_pos (peq c2), v_add]
        exact cont s A h ha (Fr.rf _ _) (fun e => e.2.1 c2)
      · rw [if_neg (pne (by omega)), lw0, q1, Option.bind_some]
        by_cases c3 : tellO o V P p sz 1 = 0
        · rw [if_pos (by rw [nv0, wc_eq (by omega) (by omega)]; exact c3), if_pos q2.t, hfree, Option.bind_some, nv0]
          rw [nv0] at hbd
          rw [r1, Option.bind_some, hbd, Option.bind_some, nv2, v_sub, v_sub]
          rw [if_pos c3] at hl
          by_cases c4 : leftP o V P p sz ≤ freeP P p - sz - 2
          · rw [if_neg (nlt (by omega))]
            refine ⟨s2, A2, ?_, r2, (ha.tr q3).tr r3, q4.tr r4⟩
            have hx : searchL P kept (fun p => leftP o V P p sz) sz (k + 1) p = p := if_pos ⟨c1, c2, c4⟩
            rw [hx]
          · rw [if_pos (plt (by omega)), v_add]
            exact cont s2 A2 r2 ((ha.tr q3).tr r3) (q4.tr r4) (fun e => c4 e.2.2)
        · rw [if_neg (by rw [nv0, wc_eq (by omega) (by omega)]; exact c3), v_add]
          rw [if_neg c3] at hl
          exact cont s1 A1 q2 (ha.tr q3) q4 (fun e => by have := e.2.2; omega)
    · rw [if_pos (plt (by omega)), v_add]
      exact cont s A h ha (Fr.rf _ _) (fun e => c1 e.1)
theorem m_searchFor {s : AS} {m : Nat} {A : MA} {o : LWS} {V : Int → Int} {kept : Int} {P : PG} {sz : Int} (h : MR s m A) (hE : MkE A o V kept P) (hK : PgK P) (hs : 0 ≤ sz ∧ sz ≤ 100) :
    ∃ s' A', f_M_searchFor s m (v sz) = some (v (searchP o V P kept sz), s') ∧ MR s' m A' ∧ AF scrH A A' ∧ Fr (inM m) s s' :=
  m_searchL hE hK hs 8 fuel 0 s A (by omega) (by omega) (by unfold fuel; omega) h (AF.rf _ _)
/-! one number of a page changed -/
theorem pu_b (A : MA) (j : Nat) (z x : Int) : pu A j z x j = bu (A j) z x := by
  funext y
  rw [pu_v]
  rfl
section PS
variable {R : Int → Int} {P : PG} {p i k x : Int}
theorem bu_ne {B : Int → Int} {z x y : Int} (h : y ≠ z) : bu B z x y = B y := if_neg h
theorem bu_eq {B : Int → Int} {z x : Int} : bu B z x z = x := if_pos rfl
theorem PgM.s5 (h : PgM R P) (hp : 0 ≤ p ∧ p < 8) (hk : 0 ≤ k ∧ k < 64) : PgM (bu R (5 + 102 * p + 38 + k) x) (pu P 5 (p * 64 + k) x) := by
  obtain ⟨h1, h2, h3, h4, h5, h6, h7⟩ := h
  refine ⟨fun q hq => ?_, fun q hq => ?_, fun q j hq => ?_, fun q j hq => ?_, fun q j hq => ?_, fun q j hq => ?_, fun q j hq => ?_⟩
  · rw [bu_ne (by omega), pu_row _ _ _ _ (by decide)]; exact h1 q hq
  · rw [bu_ne (by omega), pu_row _ _ _ _ (by decide)]; exact h2 q hq
  · rw [bu_ne (by omega), pu_row _ _ _ _ (by decide)]; exact h3 q j hq
  · rw [pu_row _ _ _ _ (by decide)] at hq; rw [bu_ne (by omega), pu_row _ _ _ _ (by decide)]; exact h4 q j hq
  · rw [bu_ne (by omega), pu_row _ _ _ _ (by decide)]; exact h5 q j hq
  · rw [pu_v]
    by_cases e : q * 64 + j = p * 64 + k
    · rw [if_pos e, show 5 + 102 * q + 38 + j = 5 + 102 * p + 38 + k by omega, bu_eq]
    · rw [if_neg e, bu_ne (by omega)]; exact h6 q j hq
  · rw [bu_ne (by omega)]; exact h7 q j hq
theorem PgM.s1 (h : PgM R P) (hp : 0 ≤ p ∧ p < 8) (hi : 0 ≤ i ∧ i < 12) (hx : -1000 ≤ x ∧ x ≤ 1000) : PgM (bu R (5 + 102 * p + 2 + 3 * i + 1) x) (pu P 1 (p * 16 + i) x) := by
  obtain ⟨h1, h2, h3, h4, h5, h6, h7⟩ := h
  refine ⟨fun q hq => ?_, fun q hq => ?_, fun q j hq => ?_, fun q j hq => ?_, fun q j hq => ?_, fun q j hq => ?_, fun q j hq => ?_⟩
  · rw [bu_ne (by omega), pu_row _ _ _ _ (by decide)]; exact h1 q hq
  · rw [bu_ne (by omega), pu_row _ _ _ _ (by decide)]; exact h2 q hq
  · rw [bu_ne (by omega), pu_row _ _ _ _ (by decide)]; exact h3 q j hq
  · rw [pu_row _ _ _ _ (by decide)] at hq
    rw [pu_v]
    by_cases e : q * 16 + j = p * 16 + i
    · rw [if_pos e, show 5 + 102 * q + 2 + 3 * j + 1 = 5 + 102 * p + 2 + 3 * i + 1 by omega, bu_eq]
    · rw [if_neg e, bu_ne (by omega)]; exact h4 q j hq
  · rw [bu_ne (by omega), pu_row _ _ _ _ (by decide)]; exact h5 q j hq
  · rw [bu_ne (by omega), pu_row _ _ _ _ (by decide)]; exact h6 q j hq
  · by_cases e : q * 16 + j = p * 16 + i
    · rw [show 5 + 102 * q + 2 + 3 * j + 1 = 5 + 102 * p + 2 + 3 * i + 1 by omega, bu_eq]; exact hx
    · rw [bu_ne (by omega)]; exact h7 q j hq
theorem PgM.s3 (h : PgM R P) (hp : 0 ≤ p ∧ p < 8) : PgM (bu R (5 + 102 * p) x) (pu P 3 p x) := by
  obtain ⟨h1, h2, h3, h4, h5, h6, h7⟩ := h
  refine ⟨fun q hq => ?_, fun q hq => ?_, fun q j hq => ?_, fun q j hq => ?_, fun q j hq => ?_, fun q j hq => ?_, fun q j hq => ?_⟩
  · rw [pu_v]
    by_cases e : q = p
    · rw [if_pos e, e, bu_eq]
    · rw [if_neg e, bu_ne (by omega)]; exact h1 q hq
  · rw [bu_ne (by omega), pu_row _ _ _ _ (by decide)]; exact h2 q hq
  · rw [bu_ne (by omega), pu_row _ _ _ _ (by decide)]; exact h3 q j hq
  · rw [pu_row _ _ _ _ (by decide)] at hq; rw [bu_ne (by omega), pu_row _ _ _ _ (by decide)]; exact h4 q j hq
  · rw [bu_ne (by omega), pu_row _ _ _ _ (by decide)]; exact h5 q j hq
  · rw [bu_ne (by omega), pu_row _ _ _ _ (by decide)]; exact h6 q j hq
  · rw [bu_ne (by omega)]; exact h7 q j hq
theorem PgM.s4 (h : PgM R P) (hp : 0 ≤ p ∧ p < 8) : PgM (bu R (5 + 102 * p + 1) x) (pu P 4 p x) := by
  obtain ⟨h1, h2, h3, h4, h5, h6, h7⟩ := h
  refine ⟨fun q hq => ?_, fun q hq => ?_, fun q j hq => ?_, fun q j hq => ?_, fun q j hq => ?_, fun q j hq => ?_, fun q j hq => ?_⟩
  · rw [bu_ne (by omega), pu_row _ _ _ _ (by decide)]; exact h1 q hq
  · rw [pu_v]
    by_cases e : q = p
    · rw [if_pos e, e, bu_eq]
    · rw [if_neg e, bu_ne (by omega)]; exact h2 q hq
  · rw [bu_ne (by omega), pu_row _ _ _ _ (by decide)]; exact h3 q j hq
  · rw [pu_row _ _ _ _ (by decide)] at hq; rw [bu_ne (by omega), pu_row _ _ _ _ (by decide)]; exact h4 q j hq
  · rw [bu_ne (by omega), pu_row _ _ _ _ (by decide)]; exact h5 q j hq
  · rw [bu_ne (by omega), pu_row _ _ _ _ (by decide)]; exact h6 q j hq
  · rw [bu_ne (by omega)]; exact h7 q j hq
/-- a slot written: kind, place, length -/
theorem PgM.s012 {kd pl ln : Int} (h : PgM R P) (hp : 0 ≤ p ∧ p < 8) (hi : 0 ≤ i ∧ i < 12) (hx : -1000 ≤ pl ∧ pl ≤ 1000) : PgM (bu (bu (bu R (5 + 102 * p + 2 + 3 * i) kd) (5 + 102 * p + 2 + 3 * i + 1) pl) (5 + 102 * p + 2 + 3 * i + 2) ln) (pu (pu (pu P 0 (p * 16 + i) kd) 1 (p * 16 + i) pl) 2 (p * 16 + i) ln) := by
  obtain ⟨h1, h2, h3, h4, h5, h6, h7⟩ := h
  refine ⟨fun q hq => ?_, fun q hq => ?_, fun q j hq => ?_, fun q j hq => ?_, fun q j hq => ?_, fun q j hq => ?_, fun q j hq => ?_⟩
  · rw [bu_ne (by omega), bu_ne (by omega), bu_ne (by omega), pu_row _ _ _ _ (by decide), pu_row _ _ _ _ (by decide), pu_row _ _ _ _ (by decide)]; exact h1 q hq
  · rw [bu_ne (by omega), bu_ne (by omega), bu_ne (by omega), pu_row _ _ _ _ (by decide), pu_row _ _ _ _ (by decide), pu_row _ _ _ _ (by decide)]; exact h2 q hq
  · rw [bu_ne (by omega), bu_ne (by omega), pu_row _ _ _ _ (by decide), pu_row _ _ _ _ (by decide), pu_v]
    by_cases e : q * 16 + j = p * 16 + i
    · rw [if_pos e, show 5 + 102 * q + 2 + 3 * j = 5 + 102 * p + 2 + 3 * i by omega, bu_eq]
    · rw [if_neg e, bu_ne (by omega)]; exact h3 q j hq
  · rw [pu_row _ _ _ _ (by decide), pu_row _ _ _ _ (by decide), pu_v] at hq
    rw [bu_ne (by omega), pu_row _ _ _ _ (by decide), pu_v]
    by_cases e : q * 16 + j = p * 16 + i
    · rw [if_pos e, show 5 + 102 * q + 2 + 3 * j + 1 = 5 + 102 * p + 2 + 3 * i + 1 by omega, bu_eq]
    · rw [if_neg e] at hq
      rw [if_neg e, bu_ne (by omega), bu_ne (by omega), pu_row _ _ _ _ (by decide)]; exact h4 q j hq
  · rw [pu_v]
    by_cases e : q * 16 + j = p * 16 + i
    · rw [if_pos e, show 5 + 102 * q + 2 + 3 * j + 2 = 5 + 102 * p + 2 + 3 * i + 2 by omega, bu_eq]
    · rw [if_neg e, bu_ne (by omega), bu_ne (by omega), bu_ne (by omega), pu_row _ _ _ _ (by decide), pu_row _ _ _ _ (by decide)]; exact h5 q j hq
  · rw [bu_ne (by omega), bu_ne (by omega), bu_ne (by omega), pu_row _ _ _ _ (by decide), pu_row _ _ _ _ (by decide), pu_row _ _ _ _ (by decide)]; exact h6 q j hq
  · rw [bu_ne (by omega)]
    by_cases e : q * 16 + j = p * 16 + i
    · rw [show 5 + 102 * q + 2 + 3 * j + 1 = 5 + 102 * p + 2 + 3 * i + 1 by omega, bu_eq]; exact hx
    · rw [bu_ne (by omega), bu_ne (by omega)]; exact h7 q j hq
end PS
