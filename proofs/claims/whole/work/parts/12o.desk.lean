/-! A DESK: squeezing, whole -/
theorem s_squeeze {s : AS} {d st mc : Nat} {P : PG} {p : Int} (hp : 0 ≤ p ∧ p < 8) (hD : IsD s d st mc) (h : PgR s (d + 1) P) (hl : 0 ≤ P 3 p ∧ P 3 p ≤ 12) (hb : ∀ z, (0 ≤ P 0 z ∧ P 0 z ≤ 5) ∧ (0 ≤ P 2 z ∧ P 2 z ≤ 40)) (hin : InPg P p) (ht : tailZ P p (P 3 p).toNat 0 ≤ 64) :
    ∃ s', f_Desk_squeeze s d (v p) = some s' ∧ PgR s' (d + 1) (squeezeP P p) ∧ Fr (fun q => inP (d + 1) q ∨ q = d + 17) s s' := by
  have hD' := hD
  have h' := h
  obtain ⟨t1, ⟨-, -, t2, -, -, t5⟩, -, -, -, t6, t7⟩ := hD
  obtain ⟨⟨h7, -, -, -, -, -, ⟨a6, b6, c6⟩⟩, -, -, -, -, -, d6⟩ := h
  have hc := cp_gen (s := s) (x := d + 1 + 6) (y := d + 17) (m := 512) (n := 64) (sp := p * 64) (dp := 0) (k := 64) b6 t6 c6 t7 (by omega)
  have hf : Fr (fun q => q = d + 17) s (rowI s (d + 17) (va_cpy (sI s (d + 1 + 6)) (sI s (d + 17)) (p * 64).toNat (0 : Int).toNat (64 : Int).toNat)) := Fr.ri rfl
  have hsp : ∀ z : Int, 0 ≤ z ∧ z < 64 → sI (rowI s (d + 17) (va_cpy (sI s (d + 1 + 6)) (sI s (d + 17)) (p * 64).toNat (0 : Int).toNat (64 : Int).toNat)) (d + 17) z.toNat = v (P 5 (p * 64 + z)) := by
    intro z hz
    rw [sI_rowI, if_pos rfl]
    unfold va_cpy
    rw [if_pos (by omega), show (p * 64).toNat + (z.toNat - (0 : Int).toNat) = (p * 64 + z).toNat by omega]
    exact d6 _ (by omega)
  obtain ⟨s', q1, q2, q3⟩ := s_sqzL (sp := fun z => P 5 (p * 64 + z)) hp (P 3 p).toNat fuel 0 64 _ P (by omega) (by omega) hl.2 (by unfold fuel; omega) (hD'.st hf.1) (h'.fr hf (fun i h1 h2 => by omega)) hb (fun j h1 h2 h3 => hin j h1 h2 h3) ⟨ht, by omega⟩ hsp
  refine ⟨s', ?_, q2, (hf.mo (fun q hq => Or.inr hq)).tr (q3.mo (fun q hq => Or.inl hq))⟩
  unfold f_Desk_squeeze
  rw [if_pos t1, t2, if_pos h7, a6, t5, nv64, nv0, v_mul, hc, Option.bind_some]
  exact q1
