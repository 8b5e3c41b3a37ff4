/-! A DESK: where SEARCH tells -/
abbrev inD (d mc : Nat) : Nat → Prop := fun q => (d ≤ q ∧ q ≤ d + 17) ∨ q = mc + 1 ∨ q = mc + 2
def LwR (s : AS) (t : Nat) (F : Nat → Prop) (o : LWS) : Prop := match o with
  | none => t = 0
  | some (T, cl) => t ≠ 0 ∧ (¬ F t ∧ ¬ F (t + 1) ∧ ¬ F (t + 2)) ∧ ∃ nc nm cd mk len, TxR s t nc nm cd mk len cl ∧ (6 * cl ≤ nm ∧ nm ≤ 100) ∧ (len ≤ nc ∧ nc ≤ 400) ∧ TxS cd mk len cl T ∧ LawS T cl
theorem LwR.fr {F G : Nat → Prop} {s s' : AS} {t : Nat} {o : LWS} (h : LwR s t F o) (hf : Fr G s s') (hg : ∀ q, G q → F q) : LwR s' t F o := by
  cases o with
  | none => exact h
  | some x =>
    obtain ⟨h1, h2, nc, nm, cd, mk, len, h3, h4⟩ := h
    exact ⟨h1, h2, nc, nm, cd, mk, len, h3.fr hf (fun c => h2.1 (hg _ c)) (fun c => h2.2.1 (hg _ c)) (fun c => h2.2.2 (hg _ c)), h4⟩
def lawAt (n fo : Int) (L : Int → Nat) : Nat := if 0 ≤ fo ∧ fo < n then L fo else 0
/-- what a desk works with -/
def DkE (s : AS) (d st mc : Nat) (o : LWS) (V : Int → Int) : Prop := IsD s d st mc ∧ IsMc s mc ∧ (∃ W, WdR s mc W ∧ ∀ z, 0 ≤ z → z < 20 → stB (W z)) ∧ (∀ z, 0 ≤ V z ∧ V z ≤ 1000) ∧ (¬ inD d mc st ∧ ¬ inD d mc (st + 1)) ∧ ((mc + 1 < d ∨ d + 17 < mc + 1) ∧ (mc + 2 < d ∨ d + 17 < mc + 2)) ∧
  ∃ L n fo, SetR s st V L n fo ∧ ((0 ≤ n ∧ n ≤ 6) ∧ -1 ≤ fo ∧ fo ≤ 6) ∧ LwR s (lawAt n fo L) (inD d mc) o
theorem s_hasLaw {s : AS} {st : Nat} {V : Int → Int} {L : Int → Nat} {n fo l : Int} (h : SetR s st V L n fo) (hn : (0 ≤ n ∧ n ≤ 6) ∧ r32 l) : f_Setting_hasLaw s st (v l) = some (v (bi (0 ≤ l ∧ l < n))) := by
  obtain ⟨a1, -, -, -, -, a6, -⟩ := h
  unfold f_Setting_hasLaw
  simp (disch := omega) only [a1, a6, if_true, nv0, nv1, v_lt, vif]
  unfold bi
  by_cases e1 : l < 0
  · rw [if_pos e1, if_neg (by omega)]
  · rw [if_neg e1]
    congr 2
    by_cases e2 : l < n
    · rw [if_pos e2, if_pos (by omega)]
    · rw [if_neg e2, if_neg (by omega)]
theorem s_lawOf {s : AS} {st : Nat} {V : Int → Int} {L : Int → Nat} {n fo l : Int} (h : SetR s st V L n fo) (hn : (0 ≤ n ∧ n ≤ 6) ∧ r32 l) : f_Setting_lawOf s st (v l) = some (lawAt n l L) := by
  have hh := s_hasLaw h hn
  obtain ⟨a1, -, ⟨b1, b2, b3⟩, -, a5, a6, -⟩ := h
  unfold f_Setting_lawOf lawAt
  rw [if_pos a1, hh, Option.bind_some]
  by_cases e : 0 ≤ l ∧ l < n
  · rw [bi_t e, if_neg (show ¬ v 1 = nI 0 by decide), if_pos e, b1, b2, b3, if_pos ⟨by decide, v_inA (by omega) (by omega)⟩, v_ix (by omega), a5 l e]
  · rw [bi_f e, if_pos (show v 0 = nI 0 by rfl), if_neg e]
theorem s_lawInForce {s : AS} {st : Nat} {V : Int → Int} {L : Int → Nat} {n fo : Int} (h : SetR s st V L n fo) (hn : (0 ≤ n ∧ n ≤ 6) ∧ r32 fo) : f_Setting_lawInForce s st = some (lawAt n fo L) := by
  have hh := s_lawOf (l := fo) h hn
  unfold f_Setting_lawInForce
  simp only [h.1, if_true, h.2.2.2.2.2.2, hh, Option.bind_some]
theorem DkE.fr {G : Nat → Prop} {s s' : AS} {d st mc : Nat} {o : LWS} {V : Int → Int} (h : DkE s d st mc o V) (hf : Fr G s s') (hg : ∀ q, G q → d ≤ q ∧ q ≤ d + 17) : DkE s' d st mc o V := by
  obtain ⟨h1, h2, ⟨W, h3, h4⟩, h5, h6, h7, L, n, fo, h8, h9, h10⟩ := h
  exact ⟨h1.st hf.1, h2.st hf.1, ⟨W, h3.fr hf (fun c => by have := hg _ c; omega), h4⟩, h5, h6, h7, L, n, fo, h8.fr hf (fun c => h6.1 (Or.inl (hg _ c))) (fun c => h6.2 (Or.inl (hg _ c))), h9, h10.fr hf (fun q hq => Or.inl (hg _ hq))⟩
def searchL (P : PG) (kept : Int) (lf : Int → Int) (m : Int) : Nat → Int → Int
  | 0, _ => -1
  | k + 1, p => if (m + 9) / 8 ≤ P 4 p ∧ openP P p kept ≠ -1 ∧ lf p ≤ freeP P p - m - 2 then p else searchL P kept lf m k (p + 1)
def searchP (o : LWS) (V : Int → Int) (P : PG) (kept m : Int) : Int := searchL P kept (fun p => leftP o V P p m) m 8 0
theorem searchL_r {P : PG} {kept : Int} {lf : Int → Int} {m : Int} : ∀ (k : Nat) (p : Int), 0 ≤ p → searchL P kept lf m k p = -1 ∨ (p ≤ searchL P kept lf m k p ∧ searchL P kept lf m k p < p + k ∧ (m + 9) / 8 ≤ P 4 (searchL P kept lf m k p) ∧ openP P (searchL P kept lf m k p) kept ≠ -1 ∧ lf (searchL P kept lf m k p) ≤ freeP P (searchL P kept lf m k p) - m - 2) := by
  intro k
  induction k with
  | zero => intro p _; exact Or.inl rfl
  | succ k ih =>
    intro p hp
    unfold searchL
    split
    · rename_i h
      exact Or.inr ⟨by omega, by omega, h⟩
    · rcases ih (p + 1) (by omega) with h | h
      · exact Or.inl h
      · exact Or.inr ⟨by omega, by omega, h.2.2⟩
theorem leftP_r (o : LWS) (V : Int → Int) (P : PG) (p m : Int) : 0 ≤ leftP o V P p m ∧ leftP o V P p m ≤ 65 := by
  unfold leftP
  split
  · omega
  · exact leftL_r _ _ _ (by omega)
theorem searchP_r {o : LWS} {V : Int → Int} {P : PG} {kept m : Int} : searchP o V P kept m = -1 ∨ ((0 ≤ searchP o V P kept m ∧ searchP o V P kept m < 8) ∧ openP P (searchP o V P kept m) kept ≠ -1 ∧ m + 2 ≤ freeP P (searchP o V P kept m)) := by
  rcases searchL_r (P := P) (kept := kept) (lf := fun p => leftP o V P p m) (m := m) 8 0 (by omega) with h | h
  · exact Or.inl h
  · have := leftP_r o V P (searchP o V P kept m) m
    refine Or.inr ⟨⟨h.1, by have := h.2.1; unfold searchP; omega⟩, h.2.2.2.1, ?_⟩
    have h5 : leftP o V P (searchP o V P kept m) m ≤ freeP P (searchP o V P kept m) - m - 2 := h.2.2.2.2
    omega
theorem openL_r {P : PG} (hB : PgB P) (p kept : Int) : ∀ (k : Nat) (i : Int), i + k = P 3 p → 0 ≤ i → openL P p kept k i = -1 ∨ (0 ≤ openL P p kept k i ∧ openL P p kept k i < 12 ∧ (openL P p kept k i < P 3 p → P 0 (p * 16 + openL P p kept k i) = 0 ∧ ¬ p * 16 + openL P p kept k i = kept) ∧ openL P p kept k i ≤ P 3 p) := by
  have hb := hB.2 p
  intro k
  induction k with
  | zero =>
    intro i hi h0
    unfold openL
    split
    · exact Or.inr ⟨by omega, by omega, fun h => by omega, by omega⟩
    · exact Or.inl rfl
  | succ k ih =>
    intro i hi h0
    unfold openL
    split
    · rename_i h
      exact Or.inr ⟨h0, by omega, fun _ => h, by omega⟩
    · exact ih (i + 1) (by omega) (by omega)
theorem openP_r {P : PG} (hB : PgB P) (p kept : Int) : openP P p kept = -1 ∨ (0 ≤ openP P p kept ∧ openP P p kept < 12 ∧ (openP P p kept < P 3 p → P 0 (p * 16 + openP P p kept) = 0 ∧ ¬ p * 16 + openP P p kept = kept) ∧ openP P p kept ≤ P 3 p) := by
  have hb := hB.2 p
  exact openL_r hB p kept _ 0 (by omega) (by omega)
theorem s_pageL {d st mc t : Nat} {o : LWS} {V : Int → Int} {P : PG} {kept m : Int} (hB : PgB P) (hm : 0 ≤ m ∧ m ≤ 100) (hk : -1 ≤ kept ∧ kept < 128) : ∀ (k n : Nat) (p : Int) (s : AS), p + k = 8 → 0 ≤ p → k < n → DkE s d st mc o V → LwR s t (inD d mc) o → PgR s (d + 1) P → sI s d 6 = v kept →
    ∃ s', l_Desk_pageFor_2 n d (v m) t (v p) s = some (v (searchL P kept (fun p => leftP o V P p m) m k p), s') ∧ DkE s' d st mc o V ∧ Fr (fun q => q = mc + 1 ∨ q = mc + 2) s s' := by
  intro k
  induction k with
  | zero =>
    intro n p s hp h0 hn hE hL hP hK
    obtain ⟨n, rfl⟩ : ∃ m, n = m + 1 := ⟨n - 1, by omega⟩
    refine ⟨s, ?_, hE, Fr.rf _ _⟩
    show b_Desk_pageFor_2 _ _ _ _ _ _ = _
    unfold b_Desk_pageFor_2
    rw [nv8, if_neg (nlt (by omega)), nv1, v_neg]
    rfl
  | succ k ih =>
    intro n p s hp h0 hn hE hL hP hK
    obtain ⟨n, rfl⟩ : ∃ m, n = m + 1 := ⟨n - 1, by omega⟩
    have hE' := hE
    have hP' := hP
    have hb := hB.2 p
    have hfr := freeP_r hB p
    have hop := openP_r hB p kept
    have hlf := leftP_r o V P p m
    obtain ⟨hD, hM, ⟨W, hW1, hW2⟩, hV, hst, hmc, L, nn, fo, hS, hnf, hLw⟩ := hE
    have hopen := s_openSlot (p := p) (kept := kept) hP hB (by omega) hk
    have hfree := s_freeOf (p := p) hP hB (by omega)
    have tag1 : ∀ i, i ≤ 6 → d + 1 + i ≠ mc + 1 := fun i hi => by omega
    have tag2 : ∀ i, i ≤ 6 → d + 1 + i ≠ mc + 2 := fun i hi => by omega
    -- what a law leaves
    have hleft : ∃ s1, f_Desk_leftOn s d (v p) (v m) t = some (v (leftP o V P p m), s1) ∧ DkE s1 d st mc o V ∧ Fr (fun q => q = mc + 1 ∨ q = mc + 2) s s1 := by
      cases o with
      | none =>
        have ht : t = 0 := hL
        refine ⟨s, ?_, hE', Fr.rf _ _⟩
        unfold f_Desk_leftOn
        rw [if_pos ht]
        rfl
      | some x =>
        obtain ⟨T, cl⟩ := x
        obtain ⟨g1, g2, nc, nm, cd, mk, len, g3, g4, g5, g6, g7⟩ := hL
        obtain ⟨s1, W1, r1, r2, r3, r4⟩ := s_leftOn (p := p) (m := m) g6 g4 g5 g7 hW2 hD hM hW1 g3 g1 hP hB hS hV (by omega) (by omega)
        refine ⟨s1, r1, ⟨hD.st r4.1, hM.st r4.1, ⟨W1, r2, r3⟩, hV, hst, hmc, L, nn, fo, hS.fr r4 (fun c => hst.1 (Or.inr c)) (fun c => hst.2 (Or.inr c)), hnf, hLw.fr r4 (fun q hq => Or.inr hq)⟩, r4⟩
    obtain ⟨s1, u1, u2, u3⟩ := hleft
    have hL1 := hL.fr u3 (fun q hq => Or.inr hq)
    have hP1 := hP'.fr u3 (fun i h1 h2 c => c.elim (tag1 i h2) (tag2 i h2))
    have hK1 : sI s1 d 6 = v kept := by rw [(u3.2 d (by omega)).1]; exact hK
    obtain ⟨⟨h7, -, -, -, -, ⟨a5, b5, c5⟩, -⟩, -, -, -, -, d5, -⟩ := hP
    show ∃ s', b_Desk_pageFor_2 _ _ _ _ _ _ = _ ∧ _
    unfold b_Desk_pageFor_2 b_Desk_pageFor_49 b_Desk_pageFor_50 searchL
    rw [nv8, if_pos (plt (by omega)), if_pos hD.1, hD.2.1.2.2.1, if_pos h7, a5, b5, c5, if_pos ⟨rfl, v_inA (by omega) (by omega)⟩, if_pos (show ¬ v 8 = nI 0 by decide), v_ix (by omega), d5 p (by omega), nv1, v_add, v_add, v_div (by omega) (by omega), hK, hopen, Option.bind_some, show m + 8 + 1 = m + 9 by omega]
    by_cases c1 : (m + 9) / 8 ≤ P 4 p
    · rw [if_neg (nlt (by omega)), v_neg]
      by_cases c2 : openP P p kept = -1
      · rw [if_pos (peq c2), if_pos rfl, if_neg (fun c => c.2.1 c2), v_add]
        exact ih n (p + 1) s (by omega) (by omega) (by omega) hE' hL hP' hK
      · rw [if_neg (pne (by omega)), if_neg (show ¬ v 1 = nI 0 by decide), if_pos hD.1, if_pos h7, hfree, Option.bind_some, u1, Option.bind_some, nv2, v_sub, v_sub]
        by_cases c3 : leftP o V P p m ≤ freeP P p - m - 2
        · rw [if_neg (nlt (by omega)), if_pos ⟨c1, c2, c3⟩]
          exact ⟨s1, rfl, u2, u3⟩
        · rw [if_pos (plt (by omega)), if_neg (fun c => c3 c.2.2), v_add]
          obtain ⟨s', r1, r2, r3⟩ := ih n (p + 1) s1 (by omega) (by omega) (by omega) u2 hL1 hP1 hK1
          exact ⟨s', r1, r2, u3.tr r3⟩
    · rw [if_pos (plt (by omega)), if_pos rfl, if_neg (fun c => c1 c.1), v_add]
      exact ih n (p + 1) s (by omega) (by omega) (by omega) hE' hL hP' hK
theorem s_pageFor {s : AS} {d st mc t : Nat} {o : LWS} {V : Int → Int} {P : PG} {kept m : Int} (hE : DkE s d st mc o V) (hL : LwR s t (inD d mc) o) (hP : PgR s (d + 1) P) (hB : PgB P) (hK : sI s d 6 = v kept) (hm : 0 ≤ m ∧ m ≤ 100) (hk : -1 ≤ kept ∧ kept < 128) :
    ∃ s', f_Desk_pageFor s d (v m) t = some (v (searchP o V P kept m), s') ∧ DkE s' d st mc o V ∧ Fr (fun q => q = mc + 1 ∨ q = mc + 2) s s' :=
  s_pageL hB hm hk 8 fuel 0 s (by omega) (by omega) (by unfold fuel; omega) hE hL hP hK
