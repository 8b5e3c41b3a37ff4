/-! THE REFERENCE: pieces; a record is put, written anew -/
def resM (r : Int) : Int := if r = -1 then -2 else if r = 255 then -1 else r
section MW
variable {m : Nat} {o : LWS} {V : Int → Int} {kept n : Int} {R : Int → Int}
theorem m_pieL (h2 : n ≤ 200) (hRb : RecB R n) : ∀ (k nn : Nat) (next : Int) (P : PG) (s : AS) (A : MA), MR s m A → MkE A o V kept P → BrM A R n → PieI P next kept k → next ≠ -1 → (k : Int) ≤ (n - 1) / 38 → (next ≠ 255 → (k + 1 : Int) ≤ (n - 1) / 38) → k < nn →
    ∃ s' A', l_M_putPieces_16 nn m (v (if next = 255 then -1 else next)) (v ((k : Int) - 1)) s = some (v (resM (pieL o V kept R n k next P).1), s') ∧ MR s' m A' ∧ PgM (A' 2) (pieL o V kept R n k next P).2 ∧ AF scrP A A' ∧ Fr (inM m) s s' := by
  intro k
  induction k with
  | zero =>
    intro nn next P s A h hE hb hJ hn hk hl hnn
    obtain ⟨nn, rfl⟩ : ∃ m, nn = m + 1 := ⟨nn - 1, by omega⟩
    refine ⟨s, A, ?_, h, hE.1, AF.rf _ _, Fr.rf _ _⟩
    show b_M_putPieces_16 _ _ _ _ _ = _
    unfold b_M_putPieces_16 pieL resM
    rw [nv0, if_pos (plt (by omega)), if_neg hn]
  | succ k ih =>
    intro nn next P s A h hE hb hJ hn hk hl hnn
    obtain ⟨nn, rfl⟩ : ∃ m, nn = m + 1 := ⟨nn - 1, by omega⟩
    have hkc : ((k + 1 : Nat) : Int) = (k : Int) + 1 := by omega
    rw [hkc] at hk hl ⊢
    have hnr : 0 ≤ next ∧ next ≤ 255 := by
      obtain ⟨-, -, rk, -, hx⟩ := hJ
      omega
    have h44 := h.i44
    rw [hb.1] at h44
    have hcan := fun ha => pie_can (o := o) (V := V) hJ hRb (by omega) h2 hn hl ha
    unfold pieL
    rw [if_neg hn]
    have hL : 3 ≤ 2 + (min ((k + 1 + 1 : Int) * 38) n - (k + 1 : Int) * 38) ∧ 2 + (min ((k + 1 + 1 : Int) * 38) n - (k + 1 : Int) * 38) ≤ 40 := by omega
    obtain ⟨s1, A1, q1, q2, q3, q4, q5, q6⟩ := m_placed (kind := 5) (len := 2 + (min ((k + 1 + 1 : Int) * 38) n - (k + 1 : Int) * 38)) h hE hJ.1 hJ.2.1 (by omega) (fun ha => (hcan ha).1)
    have h52 : ∃ s' A', b_M_putPieces_52 (l_M_putPieces_16 nn) m (v (if next = 255 then -1 else next)) (v k) (v ((k + 1 : Int) * 38)) (v (min ((k + 1 + 1 : Int) * 38) n - (k + 1 : Int) * 38)) s = some (v (resM (if placeA o V P kept (2 + (min ((k + 1 + 1 : Int) * 38) n - (k + 1 : Int) * 38)) = -1 then (-1, P) else pieL o V kept R n k (placeA o V P kept (2 + (min ((k + 1 + 1 : Int) * 38) n - (k + 1 : Int) * 38))) (layP P (placeA o V P kept (2 + (min ((k + 1 + 1 : Int) * 38) n - (k + 1 : Int) * 38))) 5 (celB next R ((k + 1 : Int) * 38)) (2 + (min ((k + 1 + 1 : Int) * 38) n - (k + 1 : Int) * 38)))).1), s') ∧ MR s' m A' ∧ PgM (A' 2) (if placeA o V P kept (2 + (min ((k + 1 + 1 : Int) * 38) n - (k + 1 : Int) * 38)) = -1 then (-1, P) else pieL o V kept R n k (placeA o V P kept (2 + (min ((k + 1 + 1 : Int) * 38) n - (k + 1 : Int) * 38))) (layP P (placeA o V P kept (2 + (min ((k + 1 + 1 : Int) * 38) n - (k + 1 : Int) * 38))) 5 (celB next R ((k + 1 : Int) * 38)) (2 + (min ((k + 1 + 1 : Int) * 38) n - (k + 1 : Int) * 38)))).2 ∧ AF scrP A A' ∧ Fr (inM m) s s' := by
      unfold b_M_putPieces_52
      rw [if_pos h.t, nv2, nv5, v_add, show min ((k + 1 + 1 : Int) * 38) n - (k + 1 : Int) * 38 + 2 = 2 + (min ((k + 1 + 1 : Int) * 38) n - (k + 1 : Int) * 38) by omega, q1, Option.bind_some, nv1, v_neg]
      by_cases e : placeA o V P kept (2 + (min ((k + 1 + 1 : Int) * 38) n - (k + 1 : Int) * 38)) = -1
      · rw [if_pos (peq e), if_pos e]
        exact ⟨s1, A1, rfl, q2, q5 e, q3, q4⟩
      · obtain ⟨C, hC⟩ := q6 e
        obtain ⟨c1, c2, c3⟩ := hcan e
        have hpr := c1.1
        rw [if_neg (pne (by omega)), if_neg e, if_pos q2.t]
        obtain ⟨s2, A2, s3, A3, r1, r2, r3, r4, r5, r6, r7⟩ := m_by2 (next := next) (from_ := (k + 1 : Int) * 38) q2 hC hJ.1 c1 c2 (hb.fr q3) ⟨by omega, h2⟩ (by omega) hnr
        rw [show (2 + (min ((k + 1 + 1 : Int) * 38) n - (k + 1 : Int) * 38)) - 2 = min ((k + 1 + 1 : Int) * 38) n - (k + 1 : Int) * 38 by omega] at r3
        rw [r1, Option.bind_some, if_pos r2.t, r3, Option.bind_some, v_add]
        have h13 : AF scrP A A3 := q3.tr (scrQ_P r6)
        obtain ⟨s', A', u1, u2, u3, u4, u5⟩ := ih nn (placeA o V P kept (2 + (min ((k + 1 + 1 : Int) * 38) n - (k + 1 : Int) * 38))) _ s3 A3 r4 (hE.pg h13 r5) (hb.fr h13) c3 e (by omega) (fun _ => by omega) (by omega)
        rw [if_neg (show ¬ placeA o V P kept (2 + (min ((k + 1 + 1 : Int) * 38) n - (k + 1 : Int) * 38)) = 255 by omega)] at u1
        exact ⟨s', A', u1, u2, u3, h13.tr u4, (q4.tr r7).tr u5⟩
    show ∃ s' A', b_M_putPieces_16 _ _ _ _ _ = _ ∧ _
    unfold b_M_putPieces_16
    rw [nv0, if_neg (nlt (by omega)), if_pos h.t, h44, nv38, nv1, v_add, v_mul, v_sub, show (k : Int) + 1 - 1 + 1 = k + 1 by omega, show (k : Int) + 1 - 1 = k by omega, show 38 * ((k : Int) + 1) = (k + 1) * 38 by omega]
    by_cases c : n - ((k : Int) + 1) * 38 < 38
    · rw [if_pos (plt (by omega)), show n - ((k : Int) + 1) * 38 = min ((k + 1 + 1 : Int) * 38) n - (k + 1 : Int) * 38 by omega]
      exact h52
    · rw [if_neg (nlt (by omega))]
      have e38 : v 38 = v (min ((k + 1 + 1 : Int) * 38) n - (k + 1 : Int) * 38) := by rw [show min ((k + 1 + 1 : Int) * 38) n - (k + 1 : Int) * 38 = 38 by omega]
      rw [e38]
      exact h52
theorem m_putPieces {s : AS} {A : MA} {P : PG} (h : MR s m A) (hE : MkE A o V kept P) (hb : BrM A R n) (h2 : 40 < n ∧ n ≤ 200) (hRb : RecB R n) (hI : PgI P) (hK : KpI P kept) (hL : ∃ rk, PgLk P rk) :
    ∃ s' A', f_M_putPieces s m = some (v (resM (piecesP o V kept R n P).1), s') ∧ MR s' m A' ∧ PgM (A' 2) (piecesP o V kept R n P).2 ∧ AF scrP A A' ∧ Fr (inM m) s s' ∧ PieI (piecesP o V kept R n P).2 (piecesP o V kept R n P).1 kept 0 := by
  obtain ⟨rk, hL⟩ := hL
  have hJ : PieI P 255 kept ((n - 1) / 38).toNat := ⟨hI, hK, rk, hL, Or.inr (Or.inl rfl)⟩
  obtain ⟨s', A', q1, q2, q3, q4, q5⟩ := m_pieL (m := m) h2.2 hRb ((n - 1) / 38).toNat fuel 255 P s A h hE hb hJ (by decide) (by omega) (fun c => absurd rfl c) (by unfold fuel; omega)
  refine ⟨s', A', ?_, q2, q3, q4, q5, pie_I h2.2 hRb _ _ _ hJ (by omega) (fun c => absurd rfl c)⟩
  have h44 := h.i44
  rw [hb.1] at h44
  unfold f_M_putPieces
  rw [if_pos h.t, if_pos (show ¬ nI 38 = nI 0 by decide), h44, nv1, nv38, v_sub, v_div (by omega) (by omega), v_sub, v_neg]
  rw [if_pos rfl, show (((n - 1) / 38).toNat : Int) = (n - 1) / 38 by omega] at q1
  exact q1
theorem m_putIt {s : AS} {A : MA} {P : PG} (h : MR s m A) (hE : MkE A o V (-1) P) (hb : BrM A R n) (hn : 0 ≤ n ∧ n ≤ 200) (hRb : RecB R n) (hG : PgG P) :
    ∃ s' A' P', f_M_putIt s m = some (v (bringP o V R n P).1, s') ∧ MR s' m A' ∧ PgM (A' 2) P' ∧ ((bringP o V R n P).1 ≠ -1 → P' = (bringP o V R n P).2) ∧ AF scrP A A' ∧ Fr (inM m) s s' ∧ r32 (bringP o V R n P).1 := by
  obtain ⟨hI, rk, hL⟩ := hG
  have h44 := h.i44
  rw [hb.1] at h44
  unfold f_M_putIt bringP
  rw [if_pos h.t, h44, show nI 40 = v 40 from rfl]
  by_cases c40 : n ≤ 40
  · rw [if_neg (nlt (by omega)), if_pos c40]
    have hcan := fun ha => one_can (o := o) (V := V) (kept := -1) (kind := 1) hI (Or.inl rfl) hL hRb ⟨hn.1, c40⟩ (Or.inl rfl) ha
    obtain ⟨s1, A1, q1, q2, q3, q4, q5, q6⟩ := m_placed (kind := 1) (len := n) h hE hI (Or.inl rfl) ⟨hn.1, c40⟩ (fun ha => (hcan ha).1)
    rw [nv1, q1, Option.bind_some, v_neg]
    by_cases e : placeA o V P (-1) n = -1
    · rw [if_pos (peq e), if_pos e]
      exact ⟨s1, A1, P, by rw [e], q2, q5 e, fun c => absurd rfl c, q3, q4, by show r32 (-1); omega⟩
    · obtain ⟨C, hC⟩ := q6 e
      obtain ⟨c1, c2, -⟩ := hcan e
      have hpr := c1.1
      have h44' := q2.i44
      rw [(hb.fr q3).1] at h44'
      obtain ⟨s2, A2, r1, r2, r3, r4, r5⟩ := m_by1 q2 hC hI c1 c2 (hb.fr q3) (Int.le_refl _)
      rw [if_neg (pne (by omega)), if_neg e, if_pos q2.t, h44', nv0, r1, Option.bind_some]
      exact ⟨s2, A2, _, rfl, r2, r3, fun _ => rfl, q3.tr (scrQ_P r4), q4.tr r5, by show r32 (placeA o V P (-1) n); omega⟩
  · rw [if_pos (plt (by omega)), if_neg c40]
    obtain ⟨s1, A1, q1, q2, q3, q4, q5, hJ⟩ := m_putPieces h hE hb ⟨by omega, hn.2⟩ hRb hI (Or.inl rfl) ⟨rk, hL⟩
    generalize hpc : piecesP o V (-1) R n P = pc at *
    obtain ⟨next, P2⟩ := pc
    simp only [] at q1 q3 hJ ⊢
    have hnr : -1 ≤ next ∧ next ≤ 255 := by
      obtain ⟨-, -, rk, -, hx⟩ := hJ
      omega
    have hrm : r32 (resM next) := by unfold resM; split <;> (try split) <;> omega
    rw [q1, Option.bind_some, nv2, v_neg]
    by_cases e : next = -1
    · rw [if_pos (peq (by unfold resM; rw [if_pos e])), if_pos e, nv1, v_neg]
      exact ⟨s1, A1, P2, rfl, q2, q3, fun c => absurd rfl c, q4, q5, by show r32 (-1); omega⟩
    · have hrn : resM next = if next = 255 then -1 else next := by unfold resM; rw [if_neg e]
      have hE1 := hE.pg q4 q3
      rw [if_neg (pne ⟨⟨hrm, by omega⟩, by rw [hrn]; split <;> omega⟩), if_neg e, if_pos q2.t, nv4]
      have hcan : placeA o V P2 (-1) 40 ≠ -1 → canL P2 (placeA o V P2 (-1) 40) 4 (celB next R 0) 40 ∧ needL P2 (placeA o V P2 (-1) 40) 40 ≤ freeP P2 (placeA o V P2 (-1) 40 / 16) := fun ha => by
        obtain ⟨p1, p2, p3, p4, p5, -⟩ := placeA_r hJ.1 (Or.inl rfl) (by decide) ha
        exact ⟨(head_can hJ hRb (by omega) e ⟨p1, p2, p3⟩ p4).1, p4⟩
      obtain ⟨s2, A2, r1, r2, r3, r4, r5, r6⟩ := m_placed (kind := 4) (len := 40) q2 hE1 hJ.1 (Or.inl rfl) (by decide) (fun ha => (hcan ha).1)
      rw [r1, Option.bind_some, nv1, v_neg]
      by_cases e2 : placeA o V P2 (-1) 40 = -1
      · rw [if_pos (peq e2), if_pos e2]
        exact ⟨s2, A2, P2, by rw [e2], r2, r5 e2, fun c => absurd rfl c, q4.tr r3, q5.tr r4, by show r32 (-1); omega⟩
      · obtain ⟨C, hC⟩ := r6 e2
        obtain ⟨c1, c2⟩ := hcan e2
        have hpr := c1.1
        obtain ⟨s3, A3, s4, A4, u1, u2, u3, u4, u5, u6, u7⟩ := m_by2 (next := next) (from_ := 0) r2 hC hJ.1 c1 c2 ((hb.fr q4).fr r3) ⟨by omega, hn.2⟩ (by decide) (by omega)
        have u3' : f_M_copyTo s3 m (v (placeA o V P2 (-1) 40)) (v 2) (v 0) (v 38) = some s4 := u3
        rw [if_neg (pne (by omega)), if_neg e2, if_pos r2.t, hrn, u1, Option.bind_some, if_pos u2.t, nv0, nv38, u3', Option.bind_some]
        exact ⟨s4, A4, _, rfl, u4, u5, fun _ => rfl, (q4.tr r3).tr (scrQ_P u6), (q5.tr r4).tr u7, by show r32 (placeA o V P2 (-1) 40); omega⟩
end MW
