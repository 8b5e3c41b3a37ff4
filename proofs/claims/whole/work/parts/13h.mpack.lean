/-! THE REFERENCE: packing, leaving -/
abbrev scrP : Nat → Int → Prop := fun j z => scrH j z ∨ j = 21 ∨ (j = 2 ∧ 5 ≤ z ∧ z < 821)
theorem TxM.cong {R S : Int → Int} {at_ : Int} {T : TXS} {cl : Int} (h : TxM R at_ T cl) (he : ∀ z, at_ ≤ z → S z = R z) : TxM S at_ T cl := by
  obtain ⟨g0, g00, g⟩ := h
  refine ⟨by rw [he _ (by omega)]; exact g0, g00, fun c c0 c1 => ?_⟩
  obtain ⟨g1, g2, g3, g4, g5⟩ := g c c0 c1
  rw [he (at_ + 2 + 8 * c) (by omega), he (at_ + 2 + 8 * c + 3) (by omega), he (at_ + 2 + 8 * c + 4) (by omega), he (at_ + 2 + 8 * c + 5) (by omega), he (at_ + 2 + 8 * c + 6) (by omega)]
  have hi : ∀ a b, 0 ≤ a → Agr (insL R at_) (insL S at_) a b := fun a b ha x hx _ => by
    unfold insL
    rw [he _ (by omega), he _ (by omega)]
  refine ⟨g1, g2, fun hz => (g3 hz).agr (hi _ _ g2.1.1), ?_, fun z z0 z1 => ?_⟩
  · rcases g4 with g4 | g4
    · exact Or.inl g4
    · exact Or.inr (g4.agr (hi _ _ g2.2.1))
  · rw [he (at_ + 98 + 2 * z) (by omega), he (at_ + 98 + 2 * z + 1) (by omega)]
    exact g5 z z0 z1
theorem LawM.cong {R S : Int → Int} {o : LWS} (h : LawM R o) (he : ∀ z, (0 ≤ z ∧ z < 5) ∨ 821 ≤ z → S z = R z) : LawM S o := by
  rcases h with ⟨h1, h2⟩ | ⟨h1, T, cl, h2, h3, h4⟩
  · exact Or.inl ⟨by rw [he 1 (by omega)]; exact h1, h2⟩
  · refine Or.inr ⟨by rw [he 1 (by omega)]; exact h1, T, cl, h2, ?_, h4⟩
    rw [he 1 (by omega)]
    exact h3.cong (fun z hz => he z (by omega))
theorem MkE.pg {A A' : MA} {o : LWS} {V : Int → Int} {kept : Int} {P P' : PG} (h : MkE A o V kept P) (ha : AF scrP A A') (hP : PgM (A' 2) P') : MkE A' o V kept P' := by
  obtain ⟨h1, h2, h3, h4, h5, h6⟩ := h
  have e0 : ∀ z, z ≠ 37 ∧ z ≠ 33 → A' 0 z = A 0 z := fun z hz => ha 0 z (by omega)
  have e2 : ∀ z, (0 ≤ z ∧ z < 5) ∨ 821 ≤ z → A' 2 z = A 2 z := fun z hz => ha 2 z (by omega)
  refine ⟨hP, by rw [e0 19 (by omega)]; exact h2, ?_, h4.cong e2, by rw [e2 2 (by omega), e2 4 (by omega)]; exact h5, h6⟩
  unfold KptM
  rw [e0 41 (by omega), e0 42 (by omega)]
  exact h3
theorem wrB_s {P : PG} {base : Int} {B : Int → Int} {i : Int} (h : 0 ≤ i) : pu (wrB P base B i) 5 (base + i) (B i) = wrB P base B (i + 1) := by
  funext j y
  unfold pu wrB
  by_cases e5 : j = 5
  · by_cases ey : y = base + i
    · rw [if_pos ⟨e5, ey⟩, if_pos ⟨e5, by omega, by omega⟩, show y - base = i by omega]
    · rw [if_neg (fun c => ey c.2)]
      by_cases er : base ≤ y ∧ y < base + i
      · rw [if_pos ⟨e5, er⟩, if_pos ⟨e5, by omega, by omega⟩]
      · rw [if_neg (fun c => er c.2), if_neg (fun c => er ⟨c.2.1, by omega⟩)]
  · rw [if_neg (fun c => e5 c.1), if_neg (fun c => e5 c.1), if_neg (fun c => e5 c.1)]
section MK
variable {m : Nat} {P : PG} {p : Int}
theorem m_promise {s : AS} {A : MA} (h : MR s m A) (hP : PgM (A 2) P) (hK : PgK P) (hp : 0 ≤ p ∧ p < 8) (hf : 0 ≤ freeP P p) : ∃ s' A', f_M_promise s m (v p) = some s' ∧ MR s' m A' ∧ PgM (A' 2) (promP P p) ∧ AF (fun j z => j = 2 ∧ z = 5 + 102 * p + 1) A A' ∧ Fr (inM m) s s' := by
  have h1 := m_freeOf h hP hK hp
  have hr := freeP_r hK.1 p
  refine ⟨_, _, ?_, h.si 2 (by decide) (by decide) (z := 5 + 102 * p + 1) (x := freeP P p / 8) ⟨by omega, by show 5 + 102 * p + 1 < 6221; omega⟩, ?_, AF.pu ⟨rfl, rfl⟩, inM_s (by decide)⟩
  · unfold f_M_promise
    rw [if_pos h.t, m_pageAt, Option.bind_some, h1, Option.bind_some, if_pos (show ¬ nI 8 = nI 0 by decide), h.r3, h.t3, h.n3, nv1, v_add, if_pos ⟨rfl, v_inA (by omega) (by omega)⟩, nv8, v_div (by omega) (by omega), v_ix (by omega)]
  · rw [pu_b]
    exact hP.s4 hp
theorem m_pk10 (hp : 0 ≤ p ∧ p < 8) : ∀ (k n : Nat) (i : Int) (s : AS) (A A0 : MA), i + k = 64 → 0 ≤ i → k < n → MR s m A → AF (fun j _ => j = 21) A0 A → (∀ y, 0 ≤ y → y < i → A 21 y = A0 2 (5 + 102 * p + 38 + y)) →
    ∃ s' A', l_M_packIt_10 n m (v p) (v (5 + 102 * p + 38)) (v i) s = l_M_packIt_42 fuel m (v p) (v (5 + 102 * p + 38)) (v 64) (v 0) s' ∧ MR s' m A' ∧ AF (fun j _ => j = 21) A0 A' ∧ (∀ y, 0 ≤ y → y < 64 → A' 21 y = A0 2 (5 + 102 * p + 38 + y)) ∧ Fr (inM m) s s' := by
  intro k
  induction k with
  | zero =>
    intro n i s A A0 hi h0 hn h ha hy
    obtain ⟨n, rfl⟩ : ∃ m, n = m + 1 := ⟨n - 1, by omega⟩
    refine ⟨s, A, ?_, h, ha, fun y y0 y1 => hy y y0 (by omega), Fr.rf _ _⟩
    show b_M_packIt_10 _ _ _ _ _ _ = _
    unfold b_M_packIt_10
    rw [nv64, if_neg (nlt (by omega)), nv0]
  | succ k ih =>
    intro n i s A A0 hi h0 hn h ha hy
    obtain ⟨n, rfl⟩ : ∃ m, n = m + 1 := ⟨n - 1, by omega⟩
    have r := h.a3 (5 + 102 * p + 38 + i) (by omega)
    rw [ha 2 _ (show ¬ (2 : Nat) = 21 by decide)] at r
    have hw := h.si 21 (by decide) (by decide) (z := i) (x := A0 2 (5 + 102 * p + 38 + i)) ⟨h0, by show i < 64; omega⟩
    obtain ⟨s', A', q1, q2, q3, q4, q5⟩ := ih n (i + 1) _ _ A0 (by omega) (by omega) (by omega) hw (ha.tr (AF.pu rfl)) (fun y y0 y1 => by
      rw [pu_v]
      by_cases e : y = i
      · rw [if_pos e, e]
      · rw [if_neg e]; exact hy y y0 (by omega))
    refine ⟨s', A', ?_, q2, q3, q4, (inM_s (by decide)).tr q5⟩
    show b_M_packIt_10 _ _ _ _ _ _ = _
    unfold b_M_packIt_10
    rw [nv64, if_pos (plt (by omega)), if_pos h.t, h.r3, h.t3, h.n3, v_add, if_pos ⟨rfl, v_inA (by omega) (by omega)⟩, h.r40, h.t40, h.n40, if_pos ⟨rfl, v_inA (by omega) (by omega)⟩, v_ix (by omega), v_ix (by omega), r, nv1, v_add]
    exact q1
theorem m_pk106 {K : Nat → Int32 → Int32 → Int32 → Int32 → AS → Option AS} {sp : Int → Int} {top i from_ size : Int} (hp : 0 ≤ p ∧ p < 8) (hi : 0 ≤ i ∧ i < 12) (hs : (0 ≤ from_ ∧ 0 ≤ size ∧ from_ + size ≤ 64) ∧ 0 ≤ top ∧ top + size ≤ 64) : ∀ (k n : Nat) (y : Int) (s : AS) (A A0 : MA), y + k = size → 0 ≤ y → k < n → MR s m A → AF (fun j z => j = 2 ∧ 5 ≤ z ∧ z < 821) A0 A → (∀ z, 0 ≤ z → z < 64 → A0 21 z = sp z) → PgM (A 2) (wrB P (p * 64 + top) (fun z => sp (from_ + z)) y) →
    ∃ s' A', l_M_packIt_106 K n m (v p) (v (5 + 102 * p + 38)) (v top) (v i) (v from_) (v size) (v y) s = K m (v p) (v (5 + 102 * p + 38)) (v top) (v (i + 1)) s' ∧ MR s' m A' ∧ AF (fun j z => j = 2 ∧ 5 ≤ z ∧ z < 821) A0 A' ∧ PgM (A' 2) (pu (wrB P (p * 64 + top) (fun z => sp (from_ + z)) size) 1 (p * 16 + i) top) ∧ Fr (inM m) s s' := by
  intro k
  induction k with
  | zero =>
    intro n y s A A0 hy h0 hn h ha h21 hP
    obtain ⟨n, rfl⟩ : ∃ m, n = m + 1 := ⟨n - 1, by omega⟩
    have ey : y = size := by omega
    subst ey
    refine ⟨_, _, ?_, h.si 2 (by decide) (by decide) (z := 5 + 102 * p + 2 + 3 * i + 1) (x := top) ⟨by omega, by show 5 + 102 * p + 2 + 3 * i + 1 < 6221; omega⟩, ha.tr (AF.pu ⟨rfl, by omega, by omega⟩), ?_, inM_s (by decide)⟩
    · show b_M_packIt_106 _ _ _ _ _ _ _ _ _ _ _ = _
      unfold b_M_packIt_106
      rw [if_neg (nlt (by omega)), if_pos h.t, m_slotAt, Option.bind_some, h.r3, h.t3, h.n3, nv1, v_add, v_add, if_pos ⟨rfl, v_inA (by omega) (by omega)⟩, v_ix (by omega)]
    · rw [pu_b]
      exact hP.s1 hp hi (by omega)
  | succ k ih =>
    intro n y s A A0 hy h0 hn h ha h21 hP
    obtain ⟨n, rfl⟩ : ∃ m, n = m + 1 := ⟨n - 1, by omega⟩
    have r := h.a40 (from_ + y) (by omega)
    rw [ha 21 _ (by omega), h21 _ (by omega) (by omega)] at r
    have hw := h.si 2 (by decide) (by decide) (z := 5 + 102 * p + 38 + top + y) (x := sp (from_ + y)) ⟨by omega, by show 5 + 102 * p + 38 + top + y < 6221; omega⟩
    have hP' := hP.s5 (p := p) (k := top + y) (x := sp (from_ + y)) hp (by omega)
    rw [← Int.add_assoc, ← Int.add_assoc, wrB_s h0] at hP'
    obtain ⟨s', A', q1, q2, q3, q4, q5⟩ := ih n (y + 1) _ _ A0 (by omega) (by omega) (by omega) hw (ha.tr (AF.pu ⟨rfl, by omega, by omega⟩)) h21 (by rw [pu_b]; exact hP')
    refine ⟨s', A', ?_, q2, q3, q4, (inM_s (by decide)).tr q5⟩
    show b_M_packIt_106 _ _ _ _ _ _ _ _ _ _ _ = _
    unfold b_M_packIt_106
    rw [if_pos (plt (by omega)), if_pos h.t, h.r40, h.t40, h.n40, v_add, if_pos ⟨rfl, v_inA (by omega) (by omega)⟩, h.r3, h.t3, h.n3, v_add, v_add, if_pos ⟨rfl, v_inA (by omega) (by omega)⟩, v_ix (by omega), v_ix (by omega), r, nv1, v_add]
    exact q1
theorem m_pk42 {sp : Int → Int} (hp : 0 ≤ p ∧ p < 8) : ∀ (k n : Nat) (i e : Int) (P : PG) (s : AS) (A A0 : MA), i + k = P 3 p → 0 ≤ i → P 3 p ≤ 12 → k < n → MR s m A → AF (fun j z => j = 2 ∧ 5 ≤ z ∧ z < 821) A0 A → (∀ z, 0 ≤ z → z < 64 → A0 21 z = sp z) → PgM (A 2) P → (∀ z, (0 ≤ P 0 z ∧ P 0 z ≤ 5) ∧ (0 ≤ P 2 z ∧ P 2 z ≤ 40)) → (∀ j : Int, i ≤ j → j < P 3 p → P 0 (p * 16 + j) ≠ 0 → 0 ≤ P 1 (p * 16 + j) ∧ P 1 (p * 16 + j) + P 2 (p * 16 + j) ≤ 64) → tailZ P p k i ≤ e ∧ e ≤ 64 →
    ∃ s' A', l_M_packIt_42 n m (v p) (v (5 + 102 * p + 38)) (v e) (v i) s = f_M_promise s' m (v p) ∧ MR s' m A' ∧ AF (fun j z => j = 2 ∧ 5 ≤ z ∧ z < 821) A0 A' ∧ PgM (A' 2) (sqz sp p k i e P) ∧ Fr (inM m) s s' := by
  intro k
  induction k with
  | zero =>
    intro n i e P s A A0 hi h0 h12 hn h ha h21 hP hb hin ht
    obtain ⟨n, rfl⟩ : ∃ m, n = m + 1 := ⟨n - 1, by omega⟩
    have r := h.a3 (5 + 102 * p) (by omega)
    rw [hP.1 p hp] at r
    refine ⟨s, A, ?_, h, ha, hP, Fr.rf _ _⟩
    show b_M_packIt_42 _ _ _ _ _ _ _ = _
    unfold b_M_packIt_42
    rw [if_pos h.t, m_pageAt, Option.bind_some, h.r3, h.t3, h.n3, nv0, v_add, Int.add_zero, if_pos ⟨rfl, v_inA (by omega) (by omega)⟩, v_ix (by omega), r, if_neg (nlt (by omega))]
    cases f_M_promise s m (v p) <;> rfl
  | succ k ih =>
    intro n i e P s A A0 hi h0 h12 hn h ha h21 hP hb hin ht
    obtain ⟨n, rfl⟩ : ∃ m, n = m + 1 := ⟨n - 1, by omega⟩
    have r := h.a3 (5 + 102 * p) (by omega)
    rw [hP.1 p hp] at r
    have hk := m_kindOf h hP (p := p) (i := i) hp (by omega)
    have hb1 := hb (p * 16 + i)
    have hkk := tailZ_le (fun z => (hb z).2.1) p k (i + 1)
    unfold tailZ at ht
    unfold sqz
    show ∃ s' A', b_M_packIt_42 _ _ _ _ _ _ _ = _ ∧ _
    unfold b_M_packIt_42
    rw [if_pos h.t, m_pageAt, Option.bind_some, h.r3, h.t3, h.n3, nv0, v_add, Int.add_zero, if_pos ⟨rfl, v_inA (by omega) (by omega)⟩, v_ix (by omega), r, if_pos (plt (by omega)), hk, Option.bind_some]
    by_cases e0 : P 0 (p * 16 + i) = 0
    · rw [if_pos e0] at ht
      rw [if_pos e0, if_pos (peq e0), nv1, v_add]
      exact ih n (i + 1) e P s A A0 (by omega) (by omega) h12 (by omega) h ha h21 hP hb (fun j h1 h2 h3 => hin j (by omega) h2 h3) (by omega)
    · rw [if_neg e0] at ht
      rw [if_neg e0, if_neg (pne (by omega))]
      have hi1 := hin i (by omega) (by omega) e0
      have r1 := h.a3 (5 + 102 * p + 2 + 3 * i + 1) (by omega)
      rw [hP.2.2.2.1 p i ⟨⟨hp, by omega⟩, e0⟩] at r1
      have r2 := h.a3 (5 + 102 * p + 2 + 3 * i + 2) (by omega)
      rw [hP.2.2.2.2.1 p i ⟨hp, by omega⟩] at r2
      obtain ⟨s1, A1, q1, q2, q3, q4, q5⟩ := m_pk106 (K := l_M_packIt_42 n) (sp := sp) (P := P) (top := e - P 2 (p * 16 + i)) (i := i) (from_ := P 1 (p * 16 + i)) (size := P 2 (p * 16 + i)) hp (by omega) (by omega) (P 2 (p * 16 + i)).toNat fuel 0 s A A0 (by omega) (by omega) (by unfold fuel; omega) h ha h21 (by rw [wrB_0]; exact hP)
      have z0 : ∀ z, pu (wrB P (p * 64 + (e - P 2 (p * 16 + i))) (fun z => sp (P 1 (p * 16 + i) + z)) (P 2 (p * 16 + i))) 1 (p * 16 + i) (e - P 2 (p * 16 + i)) 0 z = P 0 z := fun z => by rw [pu_row _ _ _ _ (by decide), wrB_row (by decide)]
      have z2 : ∀ z, pu (wrB P (p * 64 + (e - P 2 (p * 16 + i))) (fun z => sp (P 1 (p * 16 + i) + z)) (P 2 (p * 16 + i))) 1 (p * 16 + i) (e - P 2 (p * 16 + i)) 2 z = P 2 z := fun z => by rw [pu_row _ _ _ _ (by decide), wrB_row (by decide)]
      have z3 : ∀ z, pu (wrB P (p * 64 + (e - P 2 (p * 16 + i))) (fun z => sp (P 1 (p * 16 + i) + z)) (P 2 (p * 16 + i))) 1 (p * 16 + i) (e - P 2 (p * 16 + i)) 3 z = P 3 z := fun z => by rw [pu_row _ _ _ _ (by decide), wrB_row (by decide)]
      obtain ⟨s', A', u1, u2, u3, u4, u5⟩ := ih n (i + 1) (e - P 2 (p * 16 + i)) _ s1 A1 A0 (by rw [z3]; omega) (by omega) (by rw [z3]; exact h12) (by omega) q2 q3 h21 q4 (fun z => by rw [z0, z2]; exact hb z)
        (fun j h1 h2 h3 => by
          rw [z3] at h2
          rw [z0] at h3
          rw [z2, pu_ne _ _ _ _ (by omega), wrB_row (by decide)]
          exact hin j (by omega) h2 h3)
        (by rw [tailZ_eq z0 z2]; omega)
      refine ⟨s', A', ?_, u2, u3, u4, q5.tr u5⟩
      rw [m_slotAt, Option.bind_some, nv1, nv2, v_add, if_pos ⟨rfl, v_inA (by omega) (by omega)⟩, Option.bind_some, v_add, if_pos ⟨rfl, v_inA (by omega) (by omega)⟩, v_ix (by omega), v_ix (by omega), r1, r2, v_sub]
      exact q1.trans u1
theorem m_packIt {s : AS} {A : MA} (h : MR s m A) (hP : PgM (A 2) P) (hI : PgI P) (hp : 0 ≤ p ∧ p < 8) : ∃ s' A', f_M_packIt s m (v p) = some s' ∧ MR s' m A' ∧ PgM (A' 2) (packP P p) ∧ AF scrP A A' ∧ Fr (inM m) s s' := by
  have hl := (hI.1.1.2 p).2.2.2.1
  have ht : tailZ P p (P 3 p).toNat 0 ≤ 64 := by
    have := freeP_tail hI.1.2.1 p
    have := hI.2.2.1 p hp
    omega
  obtain ⟨s1, A1, q1, q2, q3, q4, q5⟩ := m_pk10 hp 64 fuel 0 s A A (by omega) (by omega) (by unfold fuel; omega) h (AF.rf _ _) (fun y y0 y1 => by omega)
  have e2 : A1 2 = A 2 := funext (fun y => q3 2 y (show ¬ (2 : Nat) = 21 by decide))
  have hbt : ∀ y, 0 ≤ y → y < 64 → A1 21 y = P 5 (p * 64 + y) := fun y y0 y1 => by rw [q4 y y0 y1]; exact hP.2.2.2.2.2.1 p y ⟨hp, by omega⟩
  obtain ⟨s2, A2, r1, r2, r3, r4, r5⟩ := m_pk42 (sp := fun z => P 5 (p * 64 + z)) hp (P 3 p).toNat fuel 0 64 P s1 A1 A1 (by omega) (by omega) hl.2 (by unfold fuel; omega) q2 (AF.rf _ _) hbt (by rw [e2]; exact hP) (fun z => ⟨(hI.1.1.2 z).1, (hI.1.1.2 z).2.2.1⟩) (fun j j0 j1 hn => by
    have := hI.2.1 p j hp (by omega) hn
    omega) ⟨ht, by omega⟩
  have hS := sq_I hI hp
  obtain ⟨s3, A3, u1, u2, u3, u4, u5⟩ := m_promise (P := squeezeP P p) r2 r4 hS.1 hp (hS.2.2.1 p hp)
  refine ⟨s3, A3, ?_, u2, u3, ((q3.mo (fun j z hj => Or.inr (Or.inl hj))).tr (r3.mo (fun j z hj => Or.inr (Or.inr hj)))).tr (u4.mo (fun j z hj => Or.inr (Or.inr (by omega)))), (q5.tr r5).tr u5⟩
  unfold f_M_packIt
  rw [m_pageAt, Option.bind_some, nv38, nv0, v_add, q1, r1, u1]
end MK
