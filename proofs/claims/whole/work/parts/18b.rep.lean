/-! WHAT THE REFERENCE HOLDS; desks out of what the class holds -/
theorem getD_some {α : Type} {L : List α} {i : Nat} {x d : α} (h : L[i]? = some x) : L.getD i d = x := by
  rw [List.getD_eq_getElem?_getD, h]
  rfl
theorem LawS_of {CL : List CLS} (h : ∀ x ∈ CL, QC false x) : LawS (TXof CL) CL.length := by
  intro c c0 c1
  obtain ⟨x, g1, g2, g3⟩ := tx_get ⟨c0, c1⟩
  obtain ⟨⟨q1, q2, q3⟩, q4, -⟩ := h x (List.mem_of_getElem? g1)
  have q4' : 0 ≤ x.1 ∧ x.1 ≤ 1 := q4
  have T1 : (TXof CL).1 c = x.1 := by show (CL.getD c.toNat dCL).1 = _; rw [g2]
  have T3 : (TXof CL).2.2.1 c = x.2.2.1 := by show (CL.getD c.toNat dCL).2.2.1 = _; rw [g2]
  have T5 : (TXof CL).2.2.2.2 c = x.2.2.2.2 := by show (CL.getD c.toNat dCL).2.2.2.2 = _; rw [g2]
  rw [T1, T3, T5]
  exact ⟨⟨q3.1, q1.1, by omega⟩, q3.2, q1.2⟩
theorem TxS_of {cd mk : Int → Int} {len ct : Int} {CL : List CLS} (hC : CdI cd len ct) (h4 : len ≤ 400) (h : TxL cd mk len CL) (h12 : CL.length ≤ 12) : TxS cd mk len CL.length (TXof CL) := by
  obtain ⟨c1, c2, c3, c4⟩ := hC
  refine ⟨⟨c1, ⟨c2, h4⟩, by rw [c3]; exact c4⟩, by omega, fun c d0 d1 => ?_⟩
  obtain ⟨x, g1, g2, g3⟩ := tx_get ⟨d0, d1⟩
  obtain ⟨⟨⟨a1, a2⟩, ⟨a3, a4, a5⟩, a6, a7, a8⟩, a9⟩ := h c.toNat x g1
  rw [g3] at a1 a2 a3 a4 a5 a6 a7 a8 a9
  have T1 : (TXof CL).1 c = x.1 := by show (CL.getD c.toNat dCL).1 = _; rw [g2]
  have T2 : (TXof CL).2.1 c = x.2.1 := by show (CL.getD c.toNat dCL).2.1 = _; rw [g2]
  have T3 : (TXof CL).2.2.1 c = x.2.2.1 := by show (CL.getD c.toNat dCL).2.2.1 = _; rw [g2]
  have T4 : (TXof CL).2.2.2.1 c = x.2.2.2.1 := by show (CL.getD c.toNat dCL).2.2.2.1 = _; rw [g2]
  have T5 : (TXof CL).2.2.2.2 c = x.2.2.2.2 := by show (CL.getD c.toNat dCL).2.2.2.2 = _; rw [g2]
  rw [T1, T2, T3, T4, T5]
  exact ⟨⟨a1, a2⟩, ⟨a3, a4, a5, a9⟩, a6, a7, a8⟩
/-- the law of a number out of what a setting holds -/
theorem SetC.law {s : AS} {st d mc : Nat} {se : ST1} {DL : Nat → Prop} (h : SetC s st se DL) (hw : WfT se) (hD : ∀ q, DL q → ¬ inD d mc q) : ∃ L, SetR s st se.1 L se.2.1.length se.2.2 ∧ ∀ z, LwR s (lawAt se.2.1.length z L) (inD d mc) (lwAt se.2.1 z) := by
  obtain ⟨L, h1, h2, -⟩ := h
  refine ⟨L, h1, fun z => ?_⟩
  unfold lawAt lwAt
  by_cases c : 0 ≤ z ∧ z < se.2.1.length
  · rw [if_pos c, if_pos c]
    have hl : z.toNat < se.2.1.length := by omega
    have hg : se.2.1[z.toNat]? = some se.2.1[z.toNat] := List.getElem?_eq_getElem hl
    obtain ⟨⟨nc, nm, cd, mk, len, a1, a2, a3, a4, a5⟩, a6, a7⟩ := h2 _ _ hg
    rw [show ((z.toNat : Nat) : Int) = z by omega] at a1 a6 a7
    rw [getD_some hg]
    refine ⟨a6, ⟨?_, hD _ (a7 1 (by omega)), hD _ (a7 2 (by omega))⟩, nc, nm, cd, mk, len, a1, a2, a3, a4, a5⟩
    have := hD _ (a7 0 (by omega))
    rw [Nat.add_zero] at this
    exact this
  · rw [if_neg c, if_neg c]
    show 0 = 0
    rfl
theorem DkT_of {s : AS} {d : Nat} {P : PG} {se : ST1} {DL : Nat → Prop} (hd : d = 21 ∨ d = 39) (h : DkO s d P) (hm : IsMc s 15 ∧ ∃ W, WdR s 15 W ∧ ∀ z, 0 ≤ z → z < 20 → stB (W z)) (hs : SetC s 18 se DL) (hw : WfT se) (hD : ∀ q, DL q → 106 ≤ q) : ∃ Bf, DkT s d 18 15 (lwF se) se.1 P Bf := by
  obtain ⟨h1, h2, h3, ⟨Bf, h4⟩, B, len, h5⟩ := h
  obtain ⟨L, k1, k2⟩ := hs.law (d := d) (mc := 15) hw (fun q hq => by
    have := hD q hq
    rcases hd with rfl | rfl
    · show ¬ ((21 ≤ q ∧ q ≤ 21 + 17) ∨ q = 15 + 1 ∨ q = 15 + 2); omega
    · show ¬ ((39 ≤ q ∧ q ≤ 39 + 17) ∨ q = 15 + 1 ∨ q = 15 + 2); omega)
  refine ⟨Bf, B, len, ⟨h1, hm.1, hm.2, hw.1.2.2.2, ?_, ?_, L, _, _, k1, ⟨by have := hw.2.1; omega, hw.2.2.1.1, by have := hw.2.2.1.2; have := hw.2.1; omega⟩, k2 _⟩, h2, h3, h4, h5, by omega⟩
  · rcases hd with rfl | rfl
    · exact ⟨by show ¬ ((21 ≤ 18 ∧ 18 ≤ 21 + 17) ∨ 18 = 15 + 1 ∨ 18 = 15 + 2); omega, by show ¬ ((21 ≤ 18 + 1 ∧ 18 + 1 ≤ 21 + 17) ∨ 18 + 1 = 15 + 1 ∨ 18 + 1 = 15 + 2); omega⟩
    · exact ⟨by show ¬ ((39 ≤ 18 ∧ 18 ≤ 39 + 17) ∨ 18 = 15 + 1 ∨ 18 = 15 + 2); omega, by show ¬ ((39 ≤ 18 + 1 ∧ 18 + 1 ≤ 39 + 17) ∨ 18 + 1 = 15 + 1 ∨ 18 + 1 = 15 + 2); omega⟩
  · rcases hd with rfl | rfl <;> omega
theorem DkT.parts {s : AS} {d : Nat} {P Bf : PG} {o : LWS} {V : Int → Int} (h : DkT s d 18 15 o V P Bf) : DkO s d P ∧ (IsMc s 15 ∧ ∃ W, WdR s 15 W ∧ ∀ z, 0 ≤ z → z < 20 → stB (W z)) := by
  obtain ⟨B, len, ⟨h1, h2, h3, -⟩, h4, h5, h6, h7, -⟩ := h
  exact ⟨⟨h1, h4, h5, ⟨Bf, h6⟩, B, len, h7⟩, h2, h3⟩
theorem DkT.bef {s : AS} {d : Nat} {P Bf : PG} {o : LWS} {V : Int → Int} (h : DkT s d 18 15 o V P Bf) : PgR s (d + 8) Bf := by
  obtain ⟨B, len, -, -, -, h6, -⟩ := h
  exact h6
/-! the reference -/
def SetA (R : Int → Int) (se : ST1) : Prop := R 0 = se.2.1.length ∧ R 1 = se.2.2 ∧ (R 2 = se.1 0 ∧ R 3 = se.1 1 ∧ R 4 = se.1 2) ∧ ∀ (i : Nat) (CL : List CLS), se.2.1[i]? = some CL → TxM R (821 + 900 * i) (TXof CL) CL.length
def ImA (A : MA) (k : Nat) (im : IMG) : Prop := match im with
  | none => A 4 k = 0
  | some (se, P) => A 4 k = 1 ∧ SetA (fun z => A 3 (6221 * k + z)) se ∧ PgM (fun z => A 3 (6221 * k + z)) P
def DrA (A : MA) (dr : DRW) : Prop := match dr with
  | none => A 0 56 = 0
  | some D => A 0 56 = 1 ∧ ∀ z, 0 ≤ z → z < 24 → A 27 z = D z
def RepA (A : MA) (tp : (Int → Int) × Int) (se : ST1) (P : PG) (LG : LGS) (IM : Nat → IMG) (ms : Int → Int) (vw : (Int → Int) × Int) (dr : DRW) : Prop :=
  TpM A tp.1 tp.2 ∧ WrM A ∧ (A 0 19 = 0 ∧ KptM A (-1)) ∧ SetA (A 2) se ∧ PgM (A 2) P ∧ LogM A LG ∧ (∀ k, k < 2 → ImA A k (IM k)) ∧ (A 0 17 = ms 0 ∧ A 0 52 = ms 1 ∧ A 0 1 = ms 2) ∧ (A 1 1 = ms 3 ∧ A 1 2 = ms 4 ∧ A 1 3 = ms 5 ∧ A 1 5 = ms 6 ∧ A 1 6 = ms 7) ∧ (A 0 46 = vw.2 ∧ ∀ z, 0 ≤ z → z < vw.2 → A 23 z = vw.1 z) ∧ DrA A dr
/-- what can be -/
def WfS (tp : (Int → Int) × Int) (se : ST1) (P : PG) (LG : LGS) (IM : Nat → IMG) (ms : Int → Int) (vw : (Int → Int) × Int) : Prop := TpB tp ∧ WfT se ∧ PgH P ∧ (LG.length ≤ 16 ∧ ∀ x ∈ LG, PgH x.2 ∧ 0 ≤ x.1 ∧ x.1 ≤ 4) ∧ (∀ k x, IM k = some x → WfT x.1 ∧ PgH x.2) ∧ (0 ≤ vw.2 ∧ vw.2 ≤ 200) ∧ r32 (ms 0)
theorem SetA.cong {R S : Int → Int} {se : ST1} (h : SetA R se) (he : ∀ z, (0 ≤ z ∧ z < 5) ∨ 821 ≤ z → S z = R z) : SetA S se := by
  obtain ⟨h1, h2, ⟨h3, h4, h5⟩, h6⟩ := h
  exact ⟨by rw [he 0 (by omega)]; exact h1, by rw [he 1 (by omega)]; exact h2, ⟨by rw [he 2 (by omega)]; exact h3, by rw [he 3 (by omega)]; exact h4, by rw [he 4 (by omega)]; exact h5⟩, fun i CL hi => (h6 i CL hi).cong (fun z hz => he z (by omega))⟩
theorem SetA.law {R : Int → Int} {se : ST1} (h : SetA R se) (hw : WfT se) : LawM R (lwF se) := by
  obtain ⟨h1, h2, h3, h6⟩ := h
  obtain ⟨w1, w2, ⟨w3, w3'⟩, w4⟩ := hw
  unfold lwF lwAt
  by_cases c : 0 ≤ se.2.2 ∧ se.2.2 < se.2.1.length
  · rw [if_pos c]
    have hl : se.2.2.toNat < se.2.1.length := by omega
    have hg : se.2.1[se.2.2.toNat]? = some se.2.1[se.2.2.toNat] := List.getElem?_eq_getElem hl
    have hT := h6 _ _ hg
    rw [show ((se.2.2.toNat : Nat) : Int) = se.2.2 by omega] at hT
    rw [getD_some hg]
    refine Or.inr ⟨by rw [h2]; omega, _, _, rfl, by rw [h2]; exact hT, LawS_of (w4 _ (List.mem_of_getElem? hg)).1⟩
  · rw [if_neg c]
    exact Or.inl ⟨by rw [h2]; omega, rfl⟩
theorem RepA.mk' {A : MA} {tp : (Int → Int) × Int} {se : ST1} {P : PG} {LG : LGS} {IM : Nat → IMG} {ms : Int → Int} {vw : (Int → Int) × Int} {dr : DRW} (h : RepA A tp se P LG IM ms vw dr) (hw : WfT se) : MkE A (lwF se) se.1 (-1) P :=
  ⟨h.2.2.2.2.1, h.2.2.1.1, h.2.2.1.2, h.2.2.2.1.law hw, ⟨h.2.2.2.1.2.2.1.1, h.2.2.2.1.2.2.1.2.2⟩, hw.1.2.2.2⟩
