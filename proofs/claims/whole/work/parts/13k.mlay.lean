/-! THE REFERENCE: a cell is placed where SEARCH tells; its bytes -/
section MPL
variable {m : Nat} {P : PG}
theorem m_placed {s : AS} {A : MA} {o : LWS} {V : Int → Int} {kept kind len : Int} {B : Int → Int} (h : MR s m A) (hE : MkE A o V kept P) (hI : PgI P) (hKp : KpI P kept) (hl : 0 ≤ len ∧ len ≤ 40) (hc : placeA o V P kept len ≠ -1 → canL P (placeA o V P kept len) kind B len) :
    ∃ s' A', f_M_placed s m (v kind) (v len) = some (v (placeA o V P kept len), s') ∧ MR s' m A' ∧ AF scrP A A' ∧ Fr (inM m) s s' ∧ (placeA o V P kept len = -1 → PgM (A' 2) P) ∧ (placeA o V P kept len ≠ -1 → ∃ C, PgM (A' 2) (layP P (placeA o V P kept len) kind C len)) := by
  obtain ⟨s1, A1, q1, q2, q3, q4⟩ := m_searchFor (sz := len) h hE hI.1 (by omega)
  have hE1 := hE.fr q3
  have q3' : AF scrP A A1 := q3.mo (fun j z hj => Or.inl hj)
  unfold f_M_placed
  rw [if_pos h.t, q1, Option.bind_some, nv1, v_neg]
  by_cases e : placeA o V P kept len = -1
  · have es : searchP o V P kept len = -1 := by
      unfold placeA at e
      by_cases c : searchP o V P kept len = -1
      · exact c
      · rw [if_neg c] at e
        rcases searchP_r (o := o) (V := V) (P := P) (kept := kept) (m := len) with g | ⟨g1, g2, g3⟩
        · exact g
        · rcases openP_r hI.1.1 (searchP o V P kept len) kept with g | ⟨g4, -⟩
          · exact absurd g g2
          · omega
    rw [if_pos (peq es), e]
    exact ⟨s1, A1, rfl, q2, q3', q4, fun _ => hE1.1, fun c => absurd rfl c⟩
  · obtain ⟨p1, p2, p3, p4, p5, p6, p7⟩ := placeA_r hI hKp hl.1 e
    have hca := hc e
    rcases searchP_r (o := o) (V := V) (P := P) (kept := kept) (m := len) with g | ⟨g1, g2, g3⟩
    · exact absurd g p7
    have hpl : placeA o V P kept len = searchP o V P kept len * 16 + openP P (searchP o V P kept len) kept := if_neg p7
    have hslot := m_slotFor q2 hE1.1 hI.1 (p := searchP o V P kept len) g1 hE1.2.2.1
    have hlen := q2.a3 (5 + 102 * searchP o V P kept len) (by omega)
    rw [hE1.1.1 _ g1] at hlen
    have hl3 := (hI.1.1.2 (searchP o V P kept len)).2.2.2.1
    have hop := openP_r hI.1.1 (searchP o V P kept len) kept
    generalize ha : placeA o V P kept len = a at *
    rw [p6] at hpl hslot hlen hl3 g1 ⊢
    have ei : openP P (a / 16) kept = a % 16 := by omega
    rw [ei] at hslot
    rw [if_neg (pne (by omega)), if_pos q2.t, hslot, Option.bind_some, m_pageAt, Option.bind_some, q2.r3, q2.t3, q2.n3, nv0, v_add, Int.add_zero, if_pos ⟨rfl, v_inA (by omega) (by omega)⟩, v_ix (by omega), hlen]
    have h95 : ∀ (s2 : AS) (A2 : MA) (C : Int → Int), MR s2 m A2 → AF scrP A A2 → Fr (inM m) s s2 → (∃ s3 A3, f_M_placeIn s2 m (v (a / 16)) (v (a % 16)) (v kind) (v len) = some s3 ∧ MR s3 m A3 ∧ PgM (A3 2) (layP P a kind C len) ∧ AF scrP A2 A3 ∧ Fr (inM m) s2 s3) →
        ∃ s' A', b_M_placed_95 m (v kind) (v len) (v (a / 16)) (v (a % 16)) s2 = some (v a, s') ∧ MR s' m A' ∧ AF scrP A A' ∧ Fr (inM m) s s' ∧ (a = -1 → PgM (A' 2) P) ∧ (a ≠ -1 → ∃ C, PgM (A' 2) (layP P a kind C len)) := by
      intro s2 A2 C k1 k2 k3 ⟨s3, A3, u1, u2, u3, u4, u5⟩
      refine ⟨s3, A3, ?_, u2, k2.tr u4, k3.tr u5, fun c => absurd c e, fun _ => ⟨C, u3⟩⟩
      unfold b_M_placed_95
      rw [if_pos k1.t, u1, Option.bind_some, nv16, v_mul, v_add, show 16 * (a / 16) + a % 16 = a by omega]
    by_cases c : a % 16 = P 3 (a / 16)
    · rw [if_pos (peq c)]
      -- the new slot's kind and length
      have w1 := q2.si 2 (by decide) (by decide) (z := 5 + 102 * (a / 16) + 2 + 3 * (a % 16)) (x := 0) ⟨by omega, by show 5 + 102 * (a / 16) + 2 + 3 * (a % 16) < 6221; omega⟩
      have w2 := w1.si 2 (by decide) (by decide) (z := 5 + 102 * (a / 16) + 2 + 3 * (a % 16) + 2) (x := 0) ⟨by omega, by show 5 + 102 * (a / 16) + 2 + 3 * (a % 16) + 2 < 6221; omega⟩
      have ea : a / 16 * 16 + a % 16 = a := by omega
      have hz := hI.1.2.1 a p3
      have b0 := hE1.1.2.2.1 (a / 16) (a % 16) ⟨g1, by omega⟩
      have b2 := hE1.1.2.2.2.2.1 (a / 16) (a % 16) ⟨g1, by omega⟩
      rw [ea] at b0 b2
      have hsame : pu (pu A1 2 (5 + 102 * (a / 16) + 2 + 3 * (a % 16)) 0) 2 (5 + 102 * (a / 16) + 2 + 3 * (a % 16) + 2) 0 = A1 := by
        have e0 := pu_same A1 2 (5 + 102 * (a / 16) + 2 + 3 * (a % 16))
        rw [b0, p3] at e0
        have e2 := pu_same A1 2 (5 + 102 * (a / 16) + 2 + 3 * (a % 16) + 2)
        rw [b2, hz] at e2
        rw [e0, e2]
      rw [hsame] at w2
      have fw : Fr (inM m) s1 (setI (setI s1 (m + 2) (5 + 102 * (a / 16) + 2 + 3 * (a % 16)).toNat (v 0)) (m + 2) (5 + 102 * (a / 16) + 2 + 3 * (a % 16) + 2).toNat (v 0)) := (inM_s (by decide)).tr (inM_s (by decide))
      have hgap := m_gapOf w2 hE1.1 hI.1 g1
      have hgr : -2000 ≤ gapP P (a / 16) ∧ gapP P (a / 16) ≤ 64 := by
        have := minL_r hI.1.1 (a / 16) (P 3 (a / 16)).toNat
        unfold gapP lowP; omega
      have hnd : needL P a len = len + 2 := by unfold needL; omega
      rw [m_slotAt, Option.bind_some, nv2, v_add, Int.add_zero, if_pos ⟨rfl, v_inA (by omega) (by omega)⟩, m_slotAt, Option.bind_some, v_add, if_pos ⟨rfl, v_inA (by omega) (by omega)⟩, v_ix (a := 5 + 102 * (a / 16) + 2 + 3 * (a % 16)) (by omega), v_ix (a := 5 + 102 * (a / 16) + 2 + 3 * (a % 16) + 2) (by omega), hgap, Option.bind_some, v_add]
      -- with the room ahead
      have h80 : ∀ (s2 : AS) (A2 : MA) (Q : PG), MR s2 m A2 → AF scrP A A2 → Fr (inM m) s s2 → PgM (A2 2) Q → PgK Q → (∀ z, Q 0 z = P 0 z) → (∀ z, Q 3 z = P 3 z) → len + 2 ≤ gapP Q (a / 16) → (∀ C, (∀ z, 0 ≤ C z ∧ C z ≤ 255) → PgI (layQ Q a kind C len) ∧ layQ Q a kind C len = layP P a kind C len) → (∀ z, 0 ≤ Q 5 z ∧ Q 5 z ≤ 255) →
          ∃ s' A', b_M_placed_80 m (v kind) (v len) (v (a / 16)) (v (a % 16)) s2 = some (v a, s') ∧ MR s' m A' ∧ AF scrP A A' ∧ Fr (inM m) s s' ∧ (a = -1 → PgM (A' 2) P) ∧ (a ≠ -1 → ∃ C, PgM (A' 2) (layP P a kind C len)) := by
        intro s2 A2 Q k1 k2 k3 k4 k5 k6 k7 k8 k9 k10
        have hl2 := k1.a3 (5 + 102 * (a / 16)) (by omega)
        rw [k4.1 _ g1, k7] at hl2
        have w3 := k1.si 2 (by decide) (by decide) (z := 5 + 102 * (a / 16)) (x := P 3 (a / 16) + 1) ⟨by omega, by show 5 + 102 * (a / 16) < 6221; omega⟩
        have hP3 := k4.s3 (p := a / 16) (x := P 3 (a / 16) + 1) g1
        rw [← pu_b] at hP3
        obtain ⟨l1, l2⟩ := layQ_p3 (Q := Q) (a := a) (kind := kind) (len := len) (B := fun z => Q 5 (a / 16 * 64 + (lowP Q (a / 16) - len) + z)) (by rw [k7]; omega) (by rw [k6]; exact p3) (by rw [k7]; exact c)
        have l2' : lowP (pu Q 3 (a / 16) (P 3 (a / 16) + 1)) (a / 16) = lowP Q (a / 16) := by rw [← k7]; exact l2
        have l1' : layQ (pu Q 3 (a / 16) (P 3 (a / 16) + 1)) a kind (fun z => Q 5 (a / 16 * 64 + (lowP Q (a / 16) - len) + z)) len = layQ Q a kind (fun z => Q 5 (a / 16 * 64 + (lowP Q (a / 16) - len) + z)) len := by rw [← k7]; exact l1
        obtain ⟨k9a, k9b⟩ := k9 (fun z => Q 5 (a / 16 * 64 + (lowP Q (a / 16) - len) + z)) (fun z => k10 _)
        have hK3 : PgK (pu Q 3 (a / 16) (P 3 (a / 16) + 1)) := by
          refine ⟨⟨fun z hz h0 => ?_, fun z => ?_⟩, fun z h0 => ?_, fun p i hp hi => ?_⟩
          · rw [pu_row _ _ _ _ (by decide)] at h0 ⊢; rw [pu_row _ _ _ _ (by decide)]; exact k5.1.1 z hz h0
          · have hb := k5.1.2 z
            rw [pu_row (j := 0) _ _ _ _ (by decide), pu_row (j := 1) _ _ _ _ (by decide), pu_row (j := 2) _ _ _ _ (by decide), pu_row (j := 4) _ _ _ _ (by decide), pu_row (j := 5) _ _ _ _ (by decide), pu_v]
            refine ⟨hb.1, hb.2.1, hb.2.2.1, ?_, hb.2.2.2.2⟩
            split <;> omega
          · rw [pu_row _ _ _ _ (by decide)] at h0 ⊢; exact k5.2.1 z h0
          · rw [pu_v] at hi
            rw [pu_row _ _ _ _ (by decide)]
            refine k5.2.2 p i hp ?_
            by_cases ep : p = a / 16
            · rw [if_pos ep] at hi; rw [ep, k7]; omega
            · rw [if_neg ep] at hi; exact hi
        have hs3 : a % 16 < pu Q 3 (a / 16) (P 3 (a / 16) + 1) 3 (a / 16) := by rw [pu_eq]; omega
        have hl1 : lay1 (pu Q 3 (a / 16) (P 3 (a / 16) + 1)) a kind len = layP P a kind (fun z => Q 5 (a / 16 * 64 + (lowP Q (a / 16) - len) + z)) len := by
          rw [lay1_eq hs3, l2']
          simp only [pu_row Q 3 (a / 16) (P 3 (a / 16) + 1) (by decide : (5 : Nat) ≠ 3)]
          rw [l1', k9b]
        have hgap3 := m_gapOf w3 hP3 hK3 g1
        have hg3 : gapP (pu Q 3 (a / 16) (P 3 (a / 16) + 1)) (a / 16) = gapP Q (a / 16) - 2 := by
          unfold gapP
          rw [l2', pu_eq, k7]
          omega
        have hmr : gapP Q (a / 16) ≤ 64 := by
          have := low_64 Q (a / 16)
          unfold gapP
          have := (k5.1.2 (a / 16)).2.2.2.1
          omega
        obtain ⟨s3, A3, u1, u2, u3, u4, u5⟩ := m_place15 (kind := kind) w3 hP3 hK3 p1 hs3 hl (by rw [hl1, ← k9b]; exact k9a)
        unfold b_M_placed_80
        rw [if_pos k1.t, m_pageAt, Option.bind_some, k1.r3, k1.t3, k1.n3, nv0, v_add, Int.add_zero, if_pos ⟨rfl, v_inA (by omega) (by omega)⟩, v_ix (by omega), hl2, nv1, v_add]
        refine h95 _ _ _ w3 (k2.tr (AF.pu (Or.inr (Or.inr ⟨rfl, by omega, by omega⟩)))) (k3.tr (inM_s (by decide))) ⟨s3, A3, ?_, u2, by rw [← hl1]; exact u3, u4, u5⟩
        unfold f_M_placeIn
        rw [if_pos w3.t, hgap3, Option.bind_some, hg3, if_neg (nlt (by omega))]
        exact u1
      by_cases cg : gapP P (a / 16) < len + 2
      · obtain ⟨s2, A2, r1, r2, r3, r4, r5⟩ := m_packIt w2 hE1.1 hI g1
        rw [if_pos (plt (by omega)), r1, Option.bind_some]
        have hS := sq_I hI g1
        have h3 : ∀ z, squeezeP P (a / 16) 3 z = P 3 z := fun z => sq_row (by decide) (by decide) z
        have h0 : ∀ z, squeezeP P (a / 16) 0 z = P 0 z := fun z => sq_row (by decide) (by decide) z
        have hpk : packP P (a / 16) = pu (squeezeP P (a / 16)) 4 (a / 16) (freeP (squeezeP P (a / 16)) (a / 16) / 8) := rfl
        have hg := sq_gap (P := P) (p := a / 16) hI.1.2.1 (fun a => (hI.1.1.2 a).2.2.1.1) hl3.1
        have hgpk : gapP (packP P (a / 16)) (a / 16) = gapP (squeezeP P (a / 16)) (a / 16) := by
          unfold gapP
          rw [hpk, low_eq (P := squeezeP P (a / 16)) (pu_row _ _ _ _ (by decide) _) (fun z => pu_row _ _ _ _ (by decide) _) (fun z => pu_row _ _ _ _ (by decide) _), pu_row _ _ _ _ (by decide)]
        have hKp : PgK (packP P (a / 16)) := by
          have hb0 := hS.1
          have hf0 := hS.2.2.1 (a / 16) g1
          have hfr := freeP_r hS.1.1 (a / 16)
          rw [hpk]
          refine ⟨⟨fun z hz h0 => ?_, fun z => ?_⟩, fun z h0 => ?_, fun p i hp hi => ?_⟩
          · rw [pu_row _ _ _ _ (by decide)] at h0 ⊢; rw [pu_row _ _ _ _ (by decide)]; exact hb0.1.1 z hz h0
          · have hb := hb0.1.2 z
            rw [pu_row (j := 0) _ _ _ _ (by decide), pu_row (j := 1) _ _ _ _ (by decide), pu_row (j := 2) _ _ _ _ (by decide), pu_row (j := 3) _ _ _ _ (by decide), pu_row (j := 5) _ _ _ _ (by decide), pu_v]
            refine ⟨hb.1, hb.2.1, hb.2.2.1, hb.2.2.2.1, ?_, hb.2.2.2.2.2⟩
            split <;> omega
          · rw [pu_row _ _ _ _ (by decide)] at h0 ⊢; exact hb0.2.1 z h0
          · rw [pu_row _ _ _ _ (by decide)] at hi ⊢; exact hb0.2.2 p i hp hi
        refine h80 s2 A2 (packP P (a / 16)) r2 (q3'.tr r4) ((q4.tr fw).tr r5) r3 hKp (fun z => by rw [hpk, pu_row _ _ _ _ (by decide), h0]) (fun z => by rw [hpk, pu_row _ _ _ _ (by decide), h3]) (by rw [hgpk, hg, ← hnd]; exact p4) (fun C hC => ?_) (fun z => by rw [hpk, pu_row _ _ _ _ (by decide)]; exact hS.2.2.2.2.1 z)
        have hq : layQ (packP P (a / 16)) a kind C len = layQ (squeezeP P (a / 16)) a kind C len := layQ_p4
        have hcS : canL (squeezeP P (a / 16)) a kind C len := by
          unfold canL
          rw [h3, h0]
          exact ⟨hca.1, hca.2.1, hca.2.2.1, hca.2.2.2.1, hca.2.2.2.2.1, fun z _ _ => hC z⟩
        have hnS : needL (squeezeP P (a / 16)) a len = needL P a len := by unfold needL; rw [h3]
        refine ⟨?_, ?_⟩
        · rw [hq]; exact layQ_I hS hcS (by rw [hnS, hg]; exact p4) (by rw [hnS, sq_free]; exact p4)
        · rw [hq]; unfold layP; rw [if_pos (by rw [hnd]; exact cg)]
      · rw [if_neg (nlt (by omega))]
        refine h80 _ A1 P w2 q3' (q4.tr fw) hE1.1 hI.1 (fun _ => rfl) (fun _ => rfl) (by omega) (fun C hC => ?_) hI.2.2.2.2.1
        refine ⟨layQ_I hI ⟨hca.1, hca.2.1, hca.2.2.1, hca.2.2.2.1, hca.2.2.2.2.1, fun z _ _ => hC z⟩ (by rw [hnd]; omega) p4, ?_⟩
        unfold layP
        rw [if_neg (by rw [hnd]; exact cg)]
    · rw [if_neg (pne (by omega))]
      obtain ⟨s2, A2, C, r1, r2, r3, r4, r5⟩ := m_placeIn q2 hE1.1 hI hca (by omega) p4
      exact h95 s1 A1 C q2 q3' q4 ⟨s2, A2, r1, r2, r3, r4, r5⟩
end MPL
