/-! A DESK: squeezing, walked -/
theorem tailZ_le {P : PG} (hS : ∀ z, 0 ≤ P 2 z) (p : Int) : ∀ (k : Nat) (i : Int), 0 ≤ tailZ P p k i := by
  intro k
  induction k with
  | zero => intro i; unfold tailZ; omega
  | succ k ih =>
    intro i
    have := ih (i + 1)
    have := hS (p * 16 + i)
    unfold tailZ
    split <;> omega
theorem tailZ_eq {P Q : PG} (h0 : ∀ z, P 0 z = Q 0 z) (h2 : ∀ z, P 2 z = Q 2 z) (p : Int) : ∀ (k : Nat) (i : Int), tailZ P p k i = tailZ Q p k i := by
  intro k
  induction k with
  | zero => intro i; rfl
  | succ k ih => intro i; unfold tailZ; rw [h0, h2, ih]
theorem IsD.st {s s' : AS} {d st mc : Nat} (h : IsD s d st mc) (k : St s s') : IsD s' d st mc := by
  unfold IsD IsP IsRow
  rw [k.1, k.2.1, k.2.2.1]
  exact h
theorem s_sqzL {d st mc : Nat} {p : Int} {sp : Int → Int} (hp : 0 ≤ p ∧ p < 8) : ∀ (k n : Nat) (i e : Int) (s : AS) (P : PG), i + k = P 3 p → 0 ≤ i → P 3 p ≤ 12 → k < n → IsD s d st mc → PgR s (d + 1) P →
    (∀ z, (0 ≤ P 0 z ∧ P 0 z ≤ 5) ∧ (0 ≤ P 2 z ∧ P 2 z ≤ 40)) → (∀ j : Int, i ≤ j → j < P 3 p → P 0 (p * 16 + j) ≠ 0 → 0 ≤ P 1 (p * 16 + j) ∧ P 1 (p * 16 + j) + P 2 (p * 16 + j) ≤ 64) → tailZ P p k i ≤ e ∧ e ≤ 64 → (∀ z : Int, 0 ≤ z ∧ z < 64 → sI s (d + 17) z.toNat = v (sp z)) →
    ∃ s', l_Desk_squeeze_29 n d (v p) (v (p * 64)) (v e) (v i) s = some s' ∧ PgR s' (d + 1) (sqz sp p k i e P) ∧ Fr (inP (d + 1)) s s' := by
  intro k
  induction k with
  | zero =>
    intro n i e s P hi h0 h12 hn hD h hb hin ht hsp
    obtain ⟨n, rfl⟩ : ∃ m, n = m + 1 := ⟨n - 1, by omega⟩
    refine ⟨s, ?_, h, Fr.rf _ _⟩
    obtain ⟨t1, ⟨-, -, t2, -⟩, -⟩ := hD
    obtain ⟨⟨h7, -, -, -, ⟨a4, b4, c4⟩, -⟩, -, -, -, d4, -⟩ := h
    have hx : v i < sI s (d + 1 + 4) (v p).toNatClampNeg ↔ False := by
      rw [v_ix (by omega), d4 p hp, v_lt (by omega) (by omega)]
      exact ⟨fun h => by omega, fun h => h.elim⟩
    have hy : inA (v p) 8 := v_inA (by omega) (by omega)
    show b_Desk_squeeze_29 _ _ _ _ _ _ s = _
    unfold b_Desk_squeeze_29
    rw [if_pos t1, t2, if_pos h7, a4, b4, c4, if_pos ⟨rfl, hy⟩, if_neg (fun h => hx.mp h)]
  | succ k ih =>
    intro n i e s P hi h0 h12 hn hD h hb hin ht hsp
    obtain ⟨n, rfl⟩ : ∃ m, n = m + 1 := ⟨n - 1, by omega⟩
    have hD' := hD
    have h' := h
    have hb1 := hb (p * 16 + i)
    obtain ⟨t1, ⟨-, -, t2, -, -, t5⟩, -, -, -, t6, t7⟩ := hD
    obtain ⟨⟨h7, ⟨a1, b1, c1⟩, ⟨a2, b2, c2⟩, ⟨a3, b3, c3⟩, ⟨a4, b4, c4⟩, -, ⟨a6, b6, c6⟩⟩, d1, d2, d3, d4, -, d6⟩ := h
    have hkk := tailZ_le (fun z => (hb z).2.1) p k (i + 1)
    unfold tailZ at ht
    unfold sqz
    by_cases e0 : P 0 (p * 16 + i) = 0
    · rw [if_pos e0] at ht
      rw [if_pos e0]
      obtain ⟨s', q1, q2, q3⟩ := ih n (i + 1) e s P (by omega) (by omega) h12 (by omega) hD' h' hb (fun j h1 h2 h3 => hin j (by omega) h2 h3) (by omega) hsp
      refine ⟨s', ?_, q2, q3⟩
      simp (disch := omega) only [l_Desk_squeeze_29, b_Desk_squeeze_29, t1, t2, h7, a1, b1, c1, a4, b4, c4, v_inT, v_ix, d4, d1, v_lt, v_inj, and_self, if_true, nv16, nv1, nv0, v_mul, v_add]
      rw [if_pos (by omega), if_pos e0]
      exact q1
    · rw [if_neg e0] at ht
      rw [if_neg e0]
      have hi1 := hin i (by omega) (by omega) e0
      have w1 := pg_wr (x := d + 17) (sp := P 1 (p * 16 + i)) (dp := p * 64 + (e - P 2 (p * 16 + i))) (k := P 2 (p * 16 + i)) (A := sp) (m := 64) h' hsp (by omega)
      have w2 := pg_set1 (z := p * 16 + i) (x := e - P 2 (p * 16 + i)) w1 (by omega)
      have hc := cp_gen (s := s) (x := d + 17) (y := d + 1 + 6) (m := 64) (n := 512) (sp := P 1 (p * 16 + i)) (dp := p * 64 + (e - P 2 (p * 16 + i))) (k := P 2 (p * 16 + i)) t6 b6 t7 c6 (by omega)
      have hf : Fr (inP (d + 1)) s (setI (rowI s (d + 1 + 6) (va_cpy (sI s (d + 17)) (sI s (d + 1 + 6)) (P 1 (p * 16 + i)).toNat (p * 64 + (e - P 2 (p * 16 + i))).toNat (P 2 (p * 16 + i)).toNat)) (d + 1 + 2) (p * 16 + i).toNat (v (e - P 2 (p * 16 + i)))) := (Fr.ri (by omega)).tr (Fr.si (by omega))
      have z0 : ∀ z, pu (wrB P (p * 64 + (e - P 2 (p * 16 + i))) (fun z => sp (P 1 (p * 16 + i) + z)) (P 2 (p * 16 + i))) 1 (p * 16 + i) (e - P 2 (p * 16 + i)) 0 z = P 0 z := fun z => by rw [pu_row _ _ _ _ (by decide), wrB_row (by decide)]
      have z2 : ∀ z, pu (wrB P (p * 64 + (e - P 2 (p * 16 + i))) (fun z => sp (P 1 (p * 16 + i) + z)) (P 2 (p * 16 + i))) 1 (p * 16 + i) (e - P 2 (p * 16 + i)) 2 z = P 2 z := fun z => by rw [pu_row _ _ _ _ (by decide), wrB_row (by decide)]
      have z3 : ∀ z, pu (wrB P (p * 64 + (e - P 2 (p * 16 + i))) (fun z => sp (P 1 (p * 16 + i) + z)) (P 2 (p * 16 + i))) 1 (p * 16 + i) (e - P 2 (p * 16 + i)) 3 z = P 3 z := fun z => by rw [pu_row _ _ _ _ (by decide), wrB_row (by decide)]
      obtain ⟨s', q1, q2, q3⟩ := ih n (i + 1) (e - P 2 (p * 16 + i)) _ _ (by rw [z3]; omega) (by omega) (by rw [z3]; exact h12) (by omega) (hD'.st hf.1) w2 (fun z => by rw [z0, z2]; exact hb z)
        (fun j h1 h2 h3 => by
          rw [z3] at h2
          rw [z0] at h3
          rw [z2, pu_ne _ _ _ _ (by omega), wrB_row (by decide)]
          exact hin j (by omega) h2 h3)
        (by rw [tailZ_eq z0 z2]; omega) (fun z hz => by rw [(hf.2 (d + 17) (by omega)).1]; exact hsp z hz)
      refine ⟨s', ?_, q2, hf.tr q3⟩
      simp (disch := omega) only [l_Desk_squeeze_29, b_Desk_squeeze_29, t1, t2, t5, h7, a1, b1, c1, a2, b2, c2, a3, b3, c3, a4, b4, c4, a6, v_inT, v_ix, d4, d1, d2, d3, v_lt, v_inj, and_self, if_true, nv16, nv1, nv0, v_mul, v_add, v_sub, hc, Option.bind_some, rowI_T, rowI_R, rowI_N]
      rw [if_pos (by omega), if_neg e0]
      exact q1
