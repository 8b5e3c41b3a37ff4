/-! THE REFERENCE: a cell is placed -/
theorem layQ_j {Q : PG} {a kind len : Int} {B : Int → Int} {j : Nat} (h : 6 ≤ j) (z : Int) : layQ Q a kind B len j z = Q j z := by
  unfold layQ promP writeP
  rw [pu_row _ _ _ _ (by omega), wrB_row (by omega), pu_row _ _ _ _ (by omega), pu_row _ _ _ _ (by omega), pu_row _ _ _ _ (by omega), pu_row _ _ _ _ (by omega)]
theorem pg_ext {P Q : PG} (h0 : ∀ z, P 0 z = Q 0 z) (h1 : ∀ z, P 1 z = Q 1 z) (h2 : ∀ z, P 2 z = Q 2 z) (h3 : ∀ z, P 3 z = Q 3 z) (h4 : ∀ z, P 4 z = Q 4 z) (h5 : ∀ z, P 5 z = Q 5 z) (h6 : ∀ j z, 6 ≤ j → P j z = Q j z) : P = Q := by
  funext j z
  rcases (by omega : j = 0 ∨ j = 1 ∨ j = 2 ∨ j = 3 ∨ j = 4 ∨ j = 5 ∨ 6 ≤ j) with e | e | e | e | e | e | e
  · subst e; exact h0 z
  · subst e; exact h1 z
  · subst e; exact h2 z
  · subst e; exact h3 z
  · subst e; exact h4 z
  · subst e; exact h5 z
  · exact h6 j z e
theorem low_eq {P Q : PG} {p : Int} (h3 : Q 3 p = P 3 p) (h0 : ∀ z, Q 0 z = P 0 z) (h1 : ∀ z, Q 1 z = P 1 z) : lowP Q p = lowP P p := by
  have : ∀ n, minL Q p n = minL P p n := by
    intro n
    induction n with
    | zero => rfl
    | succ n ih => unfold minL; rw [ih, h0, h1]
  unfold lowP
  rw [h3, this]
/-- the promise of its page doesn't matter to a cell that comes -/
theorem layQ_p4 {Q : PG} {a kind len x : Int} {B : Int → Int} : layQ (pu Q 4 (a / 16) x) a kind B len = layQ Q a kind B len := by
  have hl : lowP (pu Q 4 (a / 16) x) (a / 16) = lowP Q (a / 16) := low_eq (pu_row _ _ _ _ (by decide) _) (fun z => pu_row _ _ _ _ (by decide) _) (fun z => pu_row _ _ _ _ (by decide) _)
  have h2 : ∀ z, layQ (pu Q 4 (a / 16) x) a kind B len 2 z = layQ Q a kind B len 2 z := fun z => by rw [layQ_2, layQ_2, pu_row _ _ _ _ (by decide)]
  have h3 : ∀ z, layQ (pu Q 4 (a / 16) x) a kind B len 3 z = layQ Q a kind B len 3 z := fun z => by rw [layQ_3, layQ_3, pu_row _ _ _ _ (by decide), pu_row _ _ _ _ (by decide)]
  refine pg_ext (fun z => by rw [layQ_0, layQ_0, pu_row _ _ _ _ (by decide)]) (fun z => by rw [layQ_1, layQ_1, hl, pu_row _ _ _ _ (by decide)]) h2 h3 (fun z => ?_) (fun z => by rw [layQ_5, layQ_5, hl, pu_row _ _ _ _ (by decide)]) (fun j z hj => by rw [layQ_j hj, layQ_j hj, pu_row _ _ _ _ (by omega)])
  rw [layQ_4, layQ_4, free_rows (P := layQ Q a kind B len) (h3 _) (fun k _ _ => h2 _)]
  split
  · rfl
  · rename_i e; rw [pu_ne _ _ _ _ (fun c => e c.2)]
/-- a directory that is longer by the slot already -/
theorem layQ_p3 {Q : PG} {a kind len : Int} {B : Int → Int} (hl : 0 ≤ Q 3 (a / 16)) (h0 : Q 0 a = 0) (hs : a % 16 = Q 3 (a / 16)) : layQ (pu Q 3 (a / 16) (Q 3 (a / 16) + 1)) a kind B len = layQ Q a kind B len ∧ lowP (pu Q 3 (a / 16) (Q 3 (a / 16) + 1)) (a / 16) = lowP Q (a / 16) := by
  have hlow : lowP (pu Q 3 (a / 16) (Q 3 (a / 16) + 1)) (a / 16) = lowP Q (a / 16) := by
    have : ∀ n, minL (pu Q 3 (a / 16) (Q 3 (a / 16) + 1)) (a / 16) n = minL Q (a / 16) n := by
      intro n
      induction n with
      | zero => rfl
      | succ n ih => unfold minL; rw [ih, pu_row _ _ _ _ (by decide), pu_row _ _ _ _ (by decide)]
    unfold lowP
    rw [pu_eq, this, show (Q 3 (a / 16) + 1).toNat = (Q 3 (a / 16)).toNat + 1 by omega]
    show (if Q 0 (a / 16 * 16 + ((Q 3 (a / 16)).toNat : Nat)) = 0 then _ else _) = _
    rw [if_pos (by rw [show a / 16 * 16 + (((Q 3 (a / 16)).toNat : Nat) : Int) = a by omega]; exact h0)]
  have hmx : max (Q 3 (a / 16) + 1) (a % 16 + 1) = max (Q 3 (a / 16)) (a % 16 + 1) := by omega
  have h2 : ∀ z, layQ (pu Q 3 (a / 16) (Q 3 (a / 16) + 1)) a kind B len 2 z = layQ Q a kind B len 2 z := fun z => by rw [layQ_2, layQ_2, pu_row _ _ _ _ (by decide)]
  have h3 : ∀ z, layQ (pu Q 3 (a / 16) (Q 3 (a / 16) + 1)) a kind B len 3 z = layQ Q a kind B len 3 z := fun z => by
    rw [layQ_3, layQ_3, pu_eq, hmx]
    split
    · rfl
    · rename_i e; rw [pu_ne _ _ _ _ (fun c => e c.2)]
  refine ⟨pg_ext (fun z => by rw [layQ_0, layQ_0, pu_row _ _ _ _ (by decide)]) (fun z => by rw [layQ_1, layQ_1, hlow, pu_row _ _ _ _ (by decide)]) h2 h3 (fun z => ?_) (fun z => by rw [layQ_5, layQ_5, hlow, pu_row _ _ _ _ (by decide)]) (fun j z hj => by rw [layQ_j hj, layQ_j hj, pu_row _ _ _ _ (by omega)]), hlow⟩
  rw [layQ_4, layQ_4, free_rows (P := layQ Q a kind B len) (h3 _) (fun k _ _ => h2 _)]
  split
  · rfl
  · rw [pu_row _ _ _ _ (by decide)]
/-- bytes written over others -/
theorem layQ_wr {Q : PG} {a kind len : Int} {B C : Int → Int} : wrB (layQ Q a kind C len) (a / 16 * 64 + (lowP Q (a / 16) - len)) B len = layQ Q a kind B len := by
  have h2 : ∀ z, wrB (layQ Q a kind C len) (a / 16 * 64 + (lowP Q (a / 16) - len)) B len 2 z = layQ Q a kind B len 2 z := fun z => by rw [wrB_row (by decide), layQ_2, layQ_2]
  have h3 : ∀ z, wrB (layQ Q a kind C len) (a / 16 * 64 + (lowP Q (a / 16) - len)) B len 3 z = layQ Q a kind B len 3 z := fun z => by rw [wrB_row (by decide), layQ_3, layQ_3]
  refine pg_ext (fun z => by rw [wrB_row (by decide), layQ_0, layQ_0]) (fun z => by rw [wrB_row (by decide), layQ_1, layQ_1]) h2 h3 (fun z => ?_) (fun z => ?_) (fun j z hj => by rw [wrB_row (by omega), layQ_j hj, layQ_j hj])
  · rw [wrB_row (by decide), layQ_4, layQ_4]
    have : freeP (layQ Q a kind C len) (a / 16) = freeP (layQ Q a kind B len) (a / 16) := free_rows (by rw [layQ_3, layQ_3]) (fun k _ _ => by rw [layQ_2, layQ_2])
    rw [this]
  · rw [layQ_5]
    unfold wrB
    by_cases e : a / 16 * 64 + (lowP Q (a / 16) - len) ≤ z ∧ z < a / 16 * 64 + (lowP Q (a / 16) - len) + len
    · rw [if_pos ⟨rfl, e⟩, if_pos e]
    · rw [if_neg (fun c => e c.2), if_neg e, layQ_5, if_neg e]
theorem layP_wr {P : PG} {a kind len : Int} {B C : Int → Int} : wrB (layP P a kind C len) (a / 16 * 64 + layP P a kind C len 1 a) B len = layP P a kind B len := by
  unfold layP
  rw [layQ_1, if_pos rfl]
  exact layQ_wr
/-- slot and promise alone -/
def lay1 (P : PG) (a kind len : Int) : PG := promP (pu (pu (pu P 0 a kind) 1 a (lowP P (a / 16) - len)) 2 a len) (a / 16)
theorem lay1_eq {P : PG} {a kind len : Int} (hs : a % 16 < P 3 (a / 16)) : lay1 P a kind len = layQ P a kind (fun z => P 5 (a / 16 * 64 + (lowP P (a / 16) - len) + z)) len := by
  have hw : ∀ (R : PG), (∀ z, R 5 z = P 5 z) → ∀ base n, wrB R base (fun z => P 5 (base + z)) n = R := by
    intro R hR base n
    funext j z
    unfold wrB
    split
    · rename_i e
      rw [e.1, hR]
      show P 5 (base + (z - base)) = _
      rw [show base + (z - base) = z by omega]
    · rfl
  unfold lay1 layQ writeP
  rw [show max (P 3 (a / 16)) (a % 16 + 1) = P 3 (a / 16) by omega, pu_same, hw _ (fun z => by rw [pu_row _ _ _ _ (by decide), pu_row _ _ _ _ (by decide), pu_row _ _ _ _ (by decide)])]
section MLY
variable {m : Nat} {P : PG}
theorem m_place15 {s : AS} {A : MA} {a kind len : Int} (h : MR s m A) (hP : PgM (A 2) P) (hK : PgK P) (ha : 0 ≤ a ∧ a < 128) (hs : a % 16 < P 3 (a / 16)) (hl : 0 ≤ len ∧ len ≤ 40) (hI : PgI (lay1 P a kind len)) :
    ∃ s' A', b_M_placeIn_15 m (v (a / 16)) (v (a % 16)) (v kind) (v len) s = some s' ∧ MR s' m A' ∧ PgM (A' 2) (lay1 P a kind len) ∧ AF scrP A A' ∧ Fr (inM m) s s' := by
  have ea : a / 16 * 16 + a % 16 = a := by omega
  have hp : 0 ≤ a / 16 ∧ a / 16 < 8 := by omega
  have hl3 := (hK.1.2 (a / 16)).2.2.2.1
  have hmn := minL_r hK.1 (a / 16) (P 3 (a / 16)).toNat
  have hlow := m_lowestOf h hP hK hp
  obtain ⟨s1, A1, q1, q2, q3, q4, q5⟩ := m_slotw (kd := kind) (pl := lowP P (a / 16) - len) (ln := len) h hP hp (i := a % 16) (by omega) (by
    have hr := hI.1.1.2 a
    unfold lay1 promP at hr
    rw [pu_row (j := 1) _ _ _ _ (by decide), pu_row (j := 1) _ _ _ _ (by decide), pu_eq] at hr
    exact hr.2.1)
  rw [ea] at q3
  have row : ∀ (j : Nat) (z : Int), j ≠ 4 → lay1 P a kind len j z = pu (pu (pu P 0 a kind) 1 a (lowP P (a / 16) - len)) 2 a len j z := fun j z hj => pu_row _ _ _ _ hj _
  have hK1 : PgK (pu (pu (pu P 0 a kind) 1 a (lowP P (a / 16) - len)) 2 a len) := by
    refine ⟨⟨fun z hz h0 => ?_, fun z => ?_⟩, fun z h0 => ?_, fun p i hp hi => ?_⟩
    · have := hI.1.1.1 z hz
      rw [row 1 _ (by decide), row 2 _ (by decide)] at this
      exact this h0
    · have := hI.1.1.2 z
      have h4 := (hK.1.2 z).2.2.2.2.1
      rw [row 0 _ (by decide), row 1 _ (by decide), row 2 _ (by decide), row 3 _ (by decide), row 5 _ (by decide)] at this
      refine ⟨this.1, this.2.1, this.2.2.1, this.2.2.2.1, ?_, this.2.2.2.2.2⟩
      rw [pu_row _ _ _ _ (by decide), pu_row _ _ _ _ (by decide), pu_row _ _ _ _ (by decide)]
      exact h4
    · have := hI.1.2.1 z
      rw [row 0 _ (by decide), row 2 _ (by decide)] at this
      exact this h0
    · have := hI.1.2.2 p i hp
      rw [row 0 _ (by decide), row 3 _ (by decide)] at this
      exact this hi
  have hf1 : 0 ≤ freeP (pu (pu (pu P 0 a kind) 1 a (lowP P (a / 16) - len)) 2 a len) (a / 16) := by
    have := hI.2.2.1 (a / 16) hp
    rw [free_rows (P := pu (pu (pu P 0 a kind) 1 a (lowP P (a / 16) - len)) 2 a len) (row 3 _ (by decide)) (fun k _ _ => row 2 _ (by decide))] at this
    exact this
  obtain ⟨s2, A2, r1, r2, r3, r4, r5⟩ := m_promise q2 q3 hK1 hp hf1
  refine ⟨s2, A2, ?_, r2, r3, (q4.mo (fun j z hj => Or.inr (Or.inr hj))).tr (r4.mo (fun j z hj => Or.inr (Or.inr (by omega)))), q5.tr r5⟩
  unfold b_M_placeIn_15
  rw [if_pos h.t, hlow, Option.bind_some, m_slotAt, Option.bind_some, h.r3, h.t3, h.n3, nv0, nv1, nv2, v_add, Int.add_zero, if_pos ⟨rfl, v_inA (by omega) (by omega)⟩, m_slotAt, Option.bind_some, v_add, if_pos ⟨rfl, v_inA (by omega) (by omega)⟩, m_slotAt, Option.bind_some, v_add, if_pos ⟨rfl, v_inA (by omega) (by omega)⟩, v_ix (a := 5 + 102 * (a / 16) + 2 + 3 * (a % 16)) (by omega), v_ix (a := 5 + 102 * (a / 16) + 2 + 3 * (a % 16) + 1) (by omega), v_ix (a := 5 + 102 * (a / 16) + 2 + 3 * (a % 16) + 2) (by omega), v_sub, q1, r1]
  rfl
/-- a cell comes into a slot of the directory -/
theorem m_placeIn {s : AS} {A : MA} {a kind len : Int} {B : Int → Int} (h : MR s m A) (hP : PgM (A 2) P) (hI : PgI P) (hc : canL P a kind B len) (hs : a % 16 < P 3 (a / 16)) (hf : needL P a len ≤ freeP P (a / 16)) :
    ∃ s' A' C, f_M_placeIn s m (v (a / 16)) (v (a % 16)) (v kind) (v len) = some s' ∧ MR s' m A' ∧ PgM (A' 2) (layP P a kind C len) ∧ AF scrP A A' ∧ Fr (inM m) s s' := by
  have hp : 0 ≤ a / 16 ∧ a / 16 < 8 := by have := hc.1; omega
  have hl := hc.2.2.2.2.1
  have hgap := m_gapOf h hP hI.1 hp
  have hgr : -2000 ≤ gapP P (a / 16) ∧ gapP P (a / 16) ≤ 64 := by
    have := minL_r hI.1.1 (a / 16) (P 3 (a / 16)).toNat
    have := (hI.1.1.2 (a / 16)).2.2.2.1
    unfold gapP lowP; omega
  have hnd := own_need (len := len) hs
  have anyI : ∀ C, PgI (layP P a kind C len) → True := fun _ _ => trivial
  -- bytes as they lie there are bytes
  have bytes : ∀ (Q : PG), PgI Q → canL Q a kind B len → needL Q a len ≤ gapP Q (a / 16) → needL Q a len ≤ freeP Q (a / 16) → ∀ base, PgI (layQ Q a kind (fun z => Q 5 (base + z)) len) := by
    intro Q qI qc q1 q2 base
    exact layQ_I qI ⟨qc.1, qc.2.1, qc.2.2.1, qc.2.2.2.1, qc.2.2.2.2.1, fun z _ _ => qI.2.2.2.2.1 _⟩ q1 q2
  unfold f_M_placeIn
  rw [if_pos h.t, hgap, Option.bind_some]
  by_cases c : gapP P (a / 16) < len
  · obtain ⟨s1, A1, q1, q2, q3, q4, q5⟩ := m_packIt h hP hI hp
    rw [if_pos (plt (by omega)), q1, Option.bind_some]
    have hS := sq_I hI hp
    have h3 : ∀ z, squeezeP P (a / 16) 3 z = P 3 z := fun z => sq_row (by decide) (by decide) z
    have h0 : ∀ z, squeezeP P (a / 16) 0 z = P 0 z := fun z => sq_row (by decide) (by decide) z
    have hcS : canL (squeezeP P (a / 16)) a kind B len := by
      unfold canL
      rw [h3, h0]
      exact hc
    have hnS : needL (squeezeP P (a / 16)) a len = needL P a len := by unfold needL; rw [h3]
    have hg := sq_gap (P := P) (p := a / 16) hI.1.2.1 (fun a => (hI.1.1.2 a).2.2.1.1) (hI.1.1.2 (a / 16)).2.2.2.1.1
    have hpk : packP P (a / 16) = pu (squeezeP P (a / 16)) 4 (a / 16) (freeP (squeezeP P (a / 16)) (a / 16) / 8) := rfl
    have hG : PgK (packP P (a / 16)) := by
      have := hS.1
      have hf0 := hS.2.2.1 (a / 16) hp
      have hfr := freeP_r hS.1.1 (a / 16)
      rw [hpk]
      refine ⟨⟨fun z hz h0 => ?_, fun z => ?_⟩, fun z h0 => ?_, fun p i hp hi => ?_⟩
      · rw [pu_row _ _ _ _ (by decide)] at h0 ⊢; rw [pu_row _ _ _ _ (by decide)]; exact this.1.1 z hz h0
      · have hb := this.1.2 z
        rw [pu_row (j := 0) _ _ _ _ (by decide), pu_row (j := 1) _ _ _ _ (by decide), pu_row (j := 2) _ _ _ _ (by decide), pu_row (j := 3) _ _ _ _ (by decide), pu_row (j := 5) _ _ _ _ (by decide), pu_v]
        refine ⟨hb.1, hb.2.1, hb.2.2.1, hb.2.2.2.1, ?_, hb.2.2.2.2.2⟩
        split <;> omega
      · rw [pu_row _ _ _ _ (by decide)] at h0 ⊢; exact this.2.1 z h0
      · rw [pu_row _ _ _ _ (by decide)] at hi ⊢; exact this.2.2 p i hp hi
    have hl1 : lay1 (packP P (a / 16)) a kind len = layP P a kind (fun z => squeezeP P (a / 16) 5 (a / 16 * 64 + (lowP (packP P (a / 16)) (a / 16) - len) + z)) len := by
      have hs3 : a % 16 < packP P (a / 16) 3 (a / 16) := by rw [hpk, pu_row _ _ _ _ (by decide), h3]; exact hs
      rw [lay1_eq hs3]
      unfold layP
      rw [if_pos (by rw [hnd]; exact c)]
      have h5 : ∀ z, packP P (a / 16) 5 z = squeezeP P (a / 16) 5 z := fun z => by rw [hpk, pu_row _ _ _ _ (by decide)]
      simp only [h5]
      generalize (fun z => squeezeP P (a / 16) 5 (a / 16 * 64 + (lowP (packP P (a / 16)) (a / 16) - len) + z)) = C
      rw [hpk]
      exact layQ_p4
    have hIl : PgI (lay1 (packP P (a / 16)) a kind len) := by
      rw [hl1]
      unfold layP
      rw [if_pos (by rw [hnd]; exact c)]
      exact bytes _ hS hcS (by rw [hnS, hg]; exact hf) (by rw [hnS, sq_free]; exact hf) _
    obtain ⟨s2, A2, r1, r2, r3, r4, r5⟩ := m_place15 (kind := kind) q2 q3 hG hc.1 (by rw [hpk, pu_row _ _ _ _ (by decide), h3]; exact hs) hl hIl
    exact ⟨s2, A2, _, r1, r2, by rw [← hl1]; exact r3, q4.tr r4, q5.tr r5⟩
  · rw [if_neg (nlt (by omega))]
    have hl1 : lay1 P a kind len = layP P a kind (fun z => P 5 (a / 16 * 64 + (lowP P (a / 16) - len) + z)) len := by
      rw [lay1_eq hs]
      unfold layP
      rw [if_neg (by rw [hnd]; exact c)]
    have hIl : PgI (lay1 P a kind len) := by
      rw [hl1]
      unfold layP
      rw [if_neg (by rw [hnd]; exact c)]
      exact bytes _ hI hc (by rw [hnd]; omega) hf _
    obtain ⟨s2, A2, r1, r2, r3, r4, r5⟩ := m_place15 (kind := kind) h hP hI.1 hc.1 hs hl hIl
    exact ⟨s2, A2, _, r1, r2, by rw [← hl1]; exact r3, r4, r5⟩
end MLY
