/-! THE REFERENCE: what a law tells; where SEARCH tells -/
def insL (R : Int → Int) (at_ z : Int) : Int × Int := insM false (R (at_ + 98 + 2 * z)) (R (at_ + 98 + 2 * z + 1))
def TxM (R : Int → Int) (at_ : Int) (T : TXS) (cl : Int) : Prop := R (at_ + 1) = cl ∧ (0 ≤ cl ∧ cl ≤ 12) ∧ ∀ c, 0 ≤ c → c < cl → R (at_ + 2 + 8 * c) = T.1 c ∧ ((0 ≤ R (at_ + 2 + 8 * c + 3) ∧ R (at_ + 2 + 8 * c + 4) ≤ 400) ∧ (0 ≤ R (at_ + 2 + 8 * c + 5) ∧ R (at_ + 2 + 8 * c + 6) ≤ 400)) ∧ (T.1 c = 0 → Seg (insL R at_) (R (at_ + 2 + 8 * c + 3)) (R (at_ + 2 + 8 * c + 4)) (T.2.2.1 c)) ∧ SegE (insL R at_) (R (at_ + 2 + 8 * c + 5)) (R (at_ + 2 + 8 * c + 6)) (T.2.2.2.2 c) ∧
  ∀ z, 0 ≤ z → (z < R (at_ + 2 + 8 * c + 4) ∨ z < R (at_ + 2 + 8 * c + 6)) → (0 ≤ R (at_ + 98 + 2 * z) ∧ R (at_ + 98 + 2 * z) ≤ 30) ∧ (0 ≤ R (at_ + 98 + 2 * z + 1) ∧ R (at_ + 98 + 2 * z + 1) ≤ 1000) ∧ (R (at_ + 98 + 2 * z) < 20 → R (at_ + 98 + 2 * z) ≤ 7) ∧ (28 < R (at_ + 98 + 2 * z) → z < R (at_ + 98 + 2 * z + 1))
def LawM (R : Int → Int) (o : LWS) : Prop := (R 1 = -1 ∧ o = none) ∨ ((0 ≤ R 1 ∧ R 1 < 6) ∧ ∃ T cl, o = some (T, cl) ∧ TxM R (821 + 900 * R 1) T cl ∧ LawS T cl)
def KptM (A : MA) (kept : Int) : Prop := (kept = -1 ∧ A 0 41 = -1 ∧ A 0 42 = -1) ∨ (0 ≤ kept ∧ kept < 128 ∧ A 0 41 = kept / 16 ∧ A 0 42 = kept % 16)
/-- what the reference works with -/
def MkE (A : MA) (o : LWS) (V : Int → Int) (kept : Int) (P : PG) : Prop := PgM (A 2) P ∧ A 0 19 = 0 ∧ KptM A kept ∧ LawM (A 2) o ∧ (A 2 2 = V 0 ∧ A 2 4 = V 2) ∧ ∀ z, 0 ≤ V z ∧ V z ≤ 1000
abbrev scrH : Nat → Int → Prop := fun j z => j = 20 ∨ j = 18 ∨ (j = 28 ∧ z ≠ 54) ∨ (j = 0 ∧ (z = 37 ∨ z = 33))
theorem MkE.fr {A A' : MA} {o : LWS} {V : Int → Int} {kept : Int} {P : PG} (h : MkE A o V kept P) (ha : AF scrH A A') : MkE A' o V kept P := by
  obtain ⟨h1, h2, h3, h4, h5, h6⟩ := h
  have e2 : A' 2 = A 2 := funext (fun z => ha 2 z (by omega))
  have e0 : ∀ z, z ≠ 37 ∧ z ≠ 33 → A' 0 z = A 0 z := fun z hz => ha 0 z (by omega)
  refine ⟨by rw [e2]; exact h1, by rw [e0 19 (by omega)]; exact h2, ?_, by rw [e2]; exact h4, by rw [e2]; exact h5, h6⟩
  unfold KptM
  rw [e0 41 (by omega), e0 42 (by omega)]
  exact h3
def bnd (t : Int) : Int := max 0 (min 64 t)
def stpT (T : TXS) (W : Int → Int) (head c t : Int) : Int := if T.1 c = head ∧ T.2.2.2.2 c W = some 1 ∧ (head = 0 → T.2.2.1 c W ≠ none) then (if head = 0 then (T.2.2.1 c W).getD 0 else 1) else t
def tellL (T : TXS) (W : Int → Int) (head : Int) : Nat → Int → Int → Int
  | 0, _, t => t
  | k + 1, c, t => tellL T W head k (c + 1) (stpT T W head c t)
theorem tell1_r {T : TXS} {W : Int → Int} : ∀ (k : Nat) (c : Int), tellL T W 1 k c 1 = 1 := by
  intro k
  induction k with
  | zero => intro c; rfl
  | succ k ih =>
    intro c
    have : stpT T W 1 c 1 = 1 := by
      unfold stpT
      rw [if_neg (show ¬ (1 : Int) = 0 by decide)]
      split <;> rfl
    unfold tellL
    rw [this]
    exact ih _
theorem left_tell {T : TXS} {cl : Int} {W : Int → Int} (hL : LawS T cl) : ∀ (k : Nat) (c t : Int), c + k = cl → 0 ≤ c → leftL T W k c (bnd t) = if tellL T W 1 k c 0 = 0 then bnd (tellL T W 0 k c t) else 65 := by
  intro k
  induction k with
  | zero => intro c t _ _; rfl
  | succ k ih =>
    intro c t hc h0
    obtain ⟨⟨-, -, hk⟩, -⟩ := hL c h0 (by omega)
    unfold leftL tellL
    by_cases ht : T.2.2.2.2 c W = some 1
    · rw [if_pos ht]
      by_cases h1 : T.1 c = 1
      · have e1 : stpT T W 1 c 0 = 1 := by
          unfold stpT
          rw [if_pos ⟨h1, ht, fun e => absurd e (by decide)⟩, if_neg (by decide)]
        rw [if_pos h1, e1, tell1_r, if_neg (by decide)]
      · have e1 : stpT T W 1 c 0 = 0 := by
          unfold stpT
          rw [if_neg (fun e => h1 e.1)]
        rw [if_neg h1, e1]
        cases hs : T.2.2.1 c W with
        | none =>
          have e0 : stpT T W 0 c t = t := by
            unfold stpT
            rw [if_neg (fun e => e.2.2 rfl hs)]
          rw [e0]
          exact ih (c + 1) t (by omega) (by omega)
        | some z =>
          have e0 : stpT T W 0 c t = z := by
            unfold stpT
            rw [if_pos ⟨by omega, ht, fun _ => by rw [hs]; simp⟩, if_pos rfl, hs]
            rfl
          rw [e0]
          exact ih (c + 1) z (by omega) (by omega)
    · have e1 : stpT T W 1 c 0 = 0 := by
        unfold stpT
        rw [if_neg (fun e => ht e.2.1)]
      have e0 : stpT T W 0 c t = t := by
        unfold stpT
        rw [if_neg (fun e => ht e.2.1)]
      rw [if_neg ht, e0, e1]
      exact ih (c + 1) t (by omega) (by omega)
theorem insA_L {A : MA} (h : A 0 19 = 0) : insA A = insL (A 2) (A 0 33) := by
  funext z
  unfold insA insL opM agM
  rw [if_pos h, if_pos h, h]
  rfl
/-- what tells and its words -/
def MkW (A : MA) (at_ : Int) (W : Int → Int) : Prop := A 0 33 = at_ ∧ ∀ op : Int, 1 ≤ op ∧ op ≤ 7 → A 18 op = W (op - 1)
abbrev scrT : Nat → Int → Prop := fun j z => j = 20 ∨ (j = 28 ∧ z ≠ 54) ∨ (j = 0 ∧ z = 37)
theorem m_isSo {s : AS} {m : Nat} {A : MA} {o : LWS} {V : Int → Int} {kept : Int} {P : PG} {T : TXS} {cl at_ c : Int} {W : Int → Int} (h : MR s m A) (hE : MkE A o V kept P) (hK : PgK P) (hT : TxM (A 2) at_ T cl) (hL : LawS T cl) (hat : 0 ≤ at_ ∧ at_ ≤ 5321) (hw : MkW A at_ W) (hW : ∀ z, 0 ≤ z → z < 20 → stB (W z)) (hc : 0 ≤ c ∧ c < cl) :
    ∃ s' A', f_M_isSo s m (v (at_ + 2 + 8 * c)) = some (v (bi (T.2.2.2.2 c W = some 1 ∧ (T.1 c = 0 → T.2.2.1 c W ≠ none))), s') ∧ MR s' m A' ∧ AF scrT A A' ∧ Fr (inM m) s s' ∧ (T.1 c = 0 → ∀ z, T.2.2.2.2 c W = some 1 → T.2.2.1 c W = some z → A' 28 39 = z) := by
  obtain ⟨hP, h19, -⟩ := hE
  obtain ⟨g0, g00, hTc⟩ := hT
  obtain ⟨g1, ⟨⟨g2, g3⟩, g4, g5⟩, g6, g7, g8⟩ := hTc c hc.1 hc.2
  obtain ⟨⟨hb1, hb2, hb3⟩, -⟩ := hL c hc.1 hc.2
  have r0 := h.a3 (at_ + 2 + 8 * c) (by omega)
  have r3 := h.a3 (at_ + 2 + 8 * c + 3) (by omega)
  have r4 := h.a3 (at_ + 2 + 8 * c + 4) (by omega)
  have r5 := h.a3 (at_ + 2 + 8 * c + 5) (by omega)
  have r6 := h.a3 (at_ + 2 + 8 * c + 6) (by omega)
  have n98 : ∀ z : Int, at_ + 98 + 2 * z = A 0 33 + 98 + 2 * z := fun z => by rw [hw.1]
  have hop : ∀ (b : Int) (A1 : MA), AF scrT A A1 → (∀ z, 0 ≤ z → z < b → z < A 2 (at_ + 2 + 8 * c + 4) ∨ z < A 2 (at_ + 2 + 8 * c + 6)) → ∀ z, 0 ≤ z → z < b → opOK A1 z := by
    intro b A1 ha hb z z0 z1
    have e19 : A1 0 19 = 0 := by rw [ha 0 19 (by omega)]; exact h19
    have e33 : A1 0 33 = at_ := by rw [ha 0 33 (by omega)]; exact hw.1
    have e2 : ∀ y, A1 2 y = A 2 y := fun y => ha 2 y (by omega)
    have := g8 z z0 (hb z z0 z1)
    unfold opOK opM agM
    rw [if_pos e19, if_pos e19, e33, e2, e2]
    refine ⟨this.1, this.2.1, fun h20 => Or.inr (Or.inl ⟨e19, this.2.2.1 h20⟩), this.2.2.2⟩
  have hwd : ∀ A1 : MA, AF scrT A A1 → wrdM A1 P W := by
    intro A1 ha
    have e19 : A1 0 19 = 0 := by rw [ha 0 19 (by omega)]; exact h19
    exact ⟨fun _ op ho => by rw [ha 18 op (by omega)]; exact hw.2 op ho, fun hx => absurd e19 hx⟩
  have hPA : ∀ A1 : MA, AF scrT A A1 → PgM (A1 2) P := by
    intro A1 ha
    rw [show A1 2 = A 2 from funext (fun y => ha 2 y (by omega))]
    exact hP
  have hse : ∀ (A1 : MA), AF scrT A A1 → insA A1 = insL (A 2) at_ := by
    intro A1 ha
    rw [insA_L (by rw [ha 0 19 (by omega)]; exact h19), ha 0 33 (by omega), hw.1, show A1 2 = A 2 from funext (fun y => ha 2 y (by omega))]
  have toT : ∀ A1 A2 : MA, AF scrM A1 A2 → AF scrT A1 A2 := fun A1 A2 ha => ha.mo (fun j z hj => by omega)
  -- the sum
  have h59 : ∀ (s1 : AS) (A1 : MA), MR s1 m A1 → AF scrT A A1 → Fr (inM m) s s1 → T.2.2.2.2 c W = some 1 → ∃ s' A', b_M_isSo_59 m (v (at_ + 2 + 8 * c)) s1 = some (v (bi (T.2.2.2.2 c W = some 1 ∧ (T.1 c = 0 → T.2.2.1 c W ≠ none))), s') ∧ MR s' m A' ∧ AF scrT A A' ∧ Fr (inM m) s s' ∧ (T.1 c = 0 → ∀ z, T.2.2.2.2 c W = some 1 → T.2.2.1 c W = some z → A' 28 39 = z) := by
    intro s1 A1 k1 k2 k3 kt
    have e2 : ∀ y, A1 2 y = A 2 y := fun y => k2 2 y (by omega)
    have r0' := k1.a3 (at_ + 2 + 8 * c) (by omega)
    have r3' := k1.a3 (at_ + 2 + 8 * c + 3) (by omega)
    have r4' := k1.a3 (at_ + 2 + 8 * c + 4) (by omega)
    rw [e2] at r0' r3' r4'
    unfold b_M_isSo_59
    rw [if_pos k1.t, k1.r3, k1.t3, k1.n3, if_pos ⟨rfl, v_inA (by omega) (by omega)⟩, v_ix (by omega), r0', g1, nv0]
    by_cases hz : T.1 c = 0
    · have hS := g6 hz
      have hS1 := hS.1
      rw [if_pos (peq hz), nv3, nv4, v_add, v_add, if_pos ⟨rfl, v_inA (by omega) (by omega)⟩, if_pos ⟨rfl, v_inA (by omega) (by omega)⟩, v_ix (by omega), v_ix (by omega), r3', r4']
      obtain ⟨s2, A2, q1, q2, q3, q4, q5⟩ := m_reckonAll (W := W) (f := T.2.2.1 c) k1 hK (hPA A1 k2) (hwd A1 k2) ⟨g2, by omega, g3⟩ (hop _ A1 k2 (fun z _ hz => Or.inl hz)) (fun _ => by rw [k2 0 33 (by omega), hw.1]; exact hat) (by rw [k2 0 19 (by omega), h19]; omega) hW (by rw [hse A1 k2]; exact hS)
      rw [q1, Option.bind_some, if_pos q2.t, q2.i37, q2.i38]
      have k4 : AF scrT A A2 := k2.tr (toT _ _ q3)
      have hst : setJ s2 m 39 (w (A2 28 38)) = setJ s2 m 39 (w (A2 28 38)) := rfl
      refine ⟨setJ s2 m 39 (w (A2 28 38)), pu A2 28 39 (A2 28 38), ?_, q2.s28 (k := 39) (z := 39) rfl (by decide), k4.tr (AF.pu (Or.inr (Or.inl ⟨rfl, by decide⟩))), (k3.tr q4).tr (Fr.sj ⟨by omega, by omega⟩), fun _ z _ hs => ?_⟩
      · cases hs : T.2.2.1 c W with
        | none =>
          rw [hs] at q5
          have q5' : A2 0 37 = 1 := q5
          rw [q5', if_neg (show ¬ v 1 = v 0 by decide), bi_f (fun e => e.2 hz rfl)]
        | some z =>
          rw [hs] at q5
          have q5' : A2 0 37 = 0 := q5.1
          rw [q5', if_pos rfl, bi_t ⟨kt, fun _ => by simp⟩, nv1]
      · rw [hs] at q5
        rw [pu_eq]
        exact q5.2
    · rw [if_neg (pne (by omega)), bi_t ⟨kt, fun e => absurd e hz⟩, nv1]
      exact ⟨s1, A1, rfl, k1, k2, k3, fun e => absurd e hz⟩
  unfold f_M_isSo
  rw [if_pos h.t, h.r3, h.t3, h.n3, nv5, nv6, v_add, v_add, if_pos ⟨rfl, v_inA (by omega) (by omega)⟩, if_pos ⟨rfl, v_inA (by omega) (by omega)⟩, v_ix (by omega), v_ix (by omega), r5, r6]
  rcases g7 with ⟨e1, e2⟩ | hS
  · rw [if_neg (by rw [e1]; exact Int32.lt_irrefl)]
    exact h59 s A h (AF.rf _ _) (Fr.rf _ _) (by rw [e2])
  · have hS1 := hS.1
    rw [if_pos (plt (by omega))]
    obtain ⟨s2, A2, q1, q2, q3, q4, q5⟩ := m_reckonAll (W := W) (f := T.2.2.2.2 c) h hK hP (hwd A (AF.rf _ _)) ⟨g4, by omega, g5⟩ (hop _ A (AF.rf _ _) (fun z _ hz => Or.inr hz)) (fun _ => by rw [hw.1]; exact hat) (by rw [h19]; omega) hW (by rw [hse A (AF.rf _ _)]; exact hS)
    rw [q1, Option.bind_some, if_pos q2.t, q2.i37, q2.i38, nv0, lw0]
    cases hf : T.2.2.2.2 c W with
    | none =>
      rw [hf] at q5
      have q5' : A2 0 37 = 1 := q5
      rw [q5', if_neg (show ¬ v 1 = v 0 by decide), bi_f (fun e => by cases e.1)]
      exact ⟨s2, A2, rfl, q2, toT _ _ q3, q4, fun _ z e => by cases e⟩
    | some y =>
      have hy := hb1 W y hf
      rw [hf] at q5
      have q5' : A2 0 37 = 0 ∧ A2 28 38 = y := q5
      rw [q5'.1, q5'.2, if_pos rfl]
      by_cases e : y = 0
      · rw [if_pos (by rw [wc_eq (by omega) (by omega)]; exact e), bi_f (fun c => by have := c.1; simp at this; omega)]
        exact ⟨s2, A2, rfl, q2, toT _ _ q3, q4, fun _ z c => by simp at c; omega⟩
      · rw [if_neg (by rw [wc_eq (by omega) (by omega)]; exact e)]
        have := h59 s2 A2 q2 (toT _ _ q3) q4 (by rw [hf]; congr 1; omega)
        rw [hf] at this
        exact this
