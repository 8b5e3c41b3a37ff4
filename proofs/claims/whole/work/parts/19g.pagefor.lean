/-! a page for a cell by any law -/
theorem s_pageL2 {d st mc t : Nat} {o o0 : LWS} {V : Int → Int} {P : PG} {kept m : Int} (hB : PgB P) (hm : 0 ≤ m ∧ m ≤ 100) (hk : -1 ≤ kept ∧ kept < 128) : ∀ (k n : Nat) (p : Int) (s : AS), p + k = 8 → 0 ≤ p → k < n → DkE s d st mc o0 V → LwR s t (inD d mc) o → PgR s (d + 1) P → sI s d 6 = v kept →
    ∃ s', l_Desk_pageFor_2 n d (v m) t (v p) s = some (v (searchL P kept (fun p => leftP o V P p m) m k p), s') ∧ DkE s' d st mc o0 V ∧ Fr (fun q => q = mc + 1 ∨ q = mc + 2) s s' := by
  intro k
  induction k with
  | zero =>
    intro n p s hp h0 hn hE hL hP hK
    obtain ⟨n, rfl⟩ : ∃ m, n = m + 1 := ⟨n - 1, by omega⟩
    refine ⟨s, ?_, hE, Fr.rf _ _⟩
    show b_Desk_pageFor_2 _ _ _ _ _ _ = _
    unfold b_Desk_pageFor_2
    rw [nv8, if_neg (nlt (by omega)), nv1, v_neg]
    rfl
  | succ k ih =>
    intro n p s hp h0 hn hE hL hP hK
    obtain ⟨n, rfl⟩ : ∃ m, n = m + 1 := ⟨n - 1, by omega⟩
    have hE' := hE
    have hP' := hP
    have hb := hB.2 p
    have hfr := freeP_r hB p
    have hop := openP_r hB p kept
    have hlf := leftP_r o V P p m
    obtain ⟨hD, hM, ⟨W, hW1, hW2⟩, hV, hst, hmc, L, nn, fo, hS, hnf, hLw⟩ := hE
    have hopen := s_openSlot (p := p) (kept := kept) hP hB (by omega) hk
    have hfree := s_freeOf (p := p) hP hB (by omega)
    have tag1 : ∀ i, i ≤ 6 → d + 1 + i ≠ mc + 1 := fun i hi => by omega
    have tag2 : ∀ i, i ≤ 6 → d + 1 + i ≠ mc + 2 := fun i hi => by omega
    -- what a law leaves
    have hleft : ∃ s1, f_Desk_leftOn s d (v p) (v m) t = some (v (leftP o V P p m), s1) ∧ DkE s1 d st mc o0 V ∧ Fr (fun q => q = mc + 1 ∨ q = mc + 2) s s1 := by
      cases o with
      | none =>
        have ht : t = 0 := hL
        refine ⟨s, ?_, hE', Fr.rf _ _⟩
        unfold f_Desk_leftOn
        rw [if_pos ht]
        rfl
      | some x =>
        obtain ⟨T, cl⟩ := x
        obtain ⟨g1, g2, nc, nm, cd, mk, len, g3, g4, g5, g6, g7⟩ := hL
        obtain ⟨s1, W1, r1, r2, r3, r4⟩ := s_leftOn (p := p) (m := m) g6 g4 g5 g7 hW2 hD hM hW1 g3 g1 hP hB hS hV (by omega) (by omega)
        refine ⟨s1, r1, ⟨hD.st r4.1, hM.st r4.1, ⟨W1, r2, r3⟩, hV, hst, hmc, L, nn, fo, hS.fr r4 (fun c => hst.1 (Or.inr c)) (fun c => hst.2 (Or.inr c)), hnf, hLw.fr r4 (fun q hq => Or.inr hq)⟩, r4⟩
    obtain ⟨s1, u1, u2, u3⟩ := hleft
    have hL1 := hL.fr u3 (fun q hq => Or.inr hq)
    have hP1 := hP'.fr u3 (fun i h1 h2 c => c.elim (tag1 i h2) (tag2 i h2))
    have hK1 : sI s1 d 6 = v kept := by rw [(u3.2 d (by omega)).1]; exact hK
    obtain ⟨⟨h7, -, -, -, -, ⟨a5, b5, c5⟩, -⟩, -, -, -, -, d5, -⟩ := hP
    show ∃ s', b_Desk_pageFor_2 _ _ _ _ _ _ = _ ∧ _
    unfold b_Desk_pageFor_2 b_Desk_pageFor_49 b_Desk_pageFor_50 searchL
    rw [nv8, if_pos (plt (by omega)), if_pos hD.1, hD.2.1.2.2.1, if_pos h7, a5, b5, c5, if_pos ⟨rfl, v_inA (by omega) (by omega)⟩, if_pos (show ¬ v 8 = nI 0 by decide), v_ix (by omega), d5 p (by omega), nv1, v_add, v_add, v_div (by omega) (by omega), hK, hopen, Option.bind_some, show m + 8 + 1 = m + 9 by omega]
    by_cases c1 : (m + 9) / 8 ≤ P 4 p
    · rw [if_neg (nlt (by omega)), v_neg]
      by_cases c2 : openP P p kept = -1
      · rw [if_pos (peq c2), if_pos rfl, if_neg (fun c => c.2.1 c2), v_add]
        exact ih n (p + 1) s (by omega) (by omega) (by omega) hE' hL hP' hK
      · rw [if_neg (pne (by omega)), if_neg (show ¬ v 1 = nI 0 by decide), if_pos hD.1, if_pos h7, hfree, Option.bind_some, u1, Option.bind_some, nv2, v_sub, v_sub]
        by_cases c3 : leftP o V P p m ≤ freeP P p - m - 2
        · rw [if_neg (nlt (by omega)), if_pos ⟨c1, c2, c3⟩]
          exact ⟨s1, rfl, u2, u3⟩
        · rw [if_pos (plt (by omega)), if_neg (fun c => c3 c.2.2), v_add]
          obtain ⟨s', r1, r2, r3⟩ := ih n (p + 1) s1 (by omega) (by omega) (by omega) u2 hL1 hP1 hK1
          exact ⟨s', r1, r2, u3.tr r3⟩
    · rw [if_pos (plt (by omega)), if_pos rfl, if_neg (fun c => c1 c.1), v_add]
      exact ih n (p + 1) s (by omega) (by omega) (by omega) hE' hL hP' hK
theorem s_pageFor2 {s : AS} {d st mc t : Nat} {o o0 : LWS} {V : Int → Int} {P : PG} {kept m : Int} (hE : DkE s d st mc o0 V) (hL : LwR s t (inD d mc) o) (hP : PgR s (d + 1) P) (hB : PgB P) (hK : sI s d 6 = v kept) (hm : 0 ≤ m ∧ m ≤ 100) (hk : -1 ≤ kept ∧ kept < 128) :
    ∃ s', f_Desk_pageFor s d (v m) t = some (v (searchP o V P kept m), s') ∧ DkE s' d st mc o0 V ∧ Fr (fun q => q = mc + 1 ∨ q = mc + 2) s s' :=
  s_pageL2 hB hm hk 8 fuel 0 s (by omega) (by omega) (by unfold fuel; omega) hE hL hP hK
