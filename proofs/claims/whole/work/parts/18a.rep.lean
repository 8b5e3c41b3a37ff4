/-! WHAT THE CLASS HOLDS -/
abbrev ST1 : Type := (Int → Int) × List (List CLS) × Int
abbrev IMG : Type := Option (ST1 × PG)
def lwAt (LW : List (List CLS)) (z : Int) : LWS := if 0 ≤ z ∧ z < LW.length then some (TXof (LW.getD z.toNat []), (LW.getD z.toNat []).length) else none
def lwF (se : ST1) : LWS := lwAt se.2.1 se.2.2
/-- a setting that can be -/
def WfT (se : ST1) : Prop := ((0 ≤ se.1 0 ∧ se.1 0 ≤ 999) ∧ (0 ≤ se.1 1 ∧ se.1 1 ≤ 10) ∧ (0 ≤ se.1 2 ∧ se.1 2 ≤ 9) ∧ ∀ z, 0 ≤ se.1 z ∧ se.1 z ≤ 1000) ∧ se.2.1.length ≤ 6 ∧ (-1 ≤ se.2.2 ∧ se.2.2 < se.2.1.length) ∧ ∀ CL ∈ se.2.1, (∀ x ∈ CL, QC false x) ∧ CL.length ≤ 12
def LwP (s : AS) (t : Nat) (CL : List CLS) : Prop := ∃ (nc nm : Nat) (cd mk : Int → Int) (len : Int), TxR s t nc nm cd mk len CL.length ∧ (6 * (CL.length : Int) ≤ nm ∧ nm ≤ 100) ∧ (len ≤ nc ∧ nc ≤ 400) ∧ TxS cd mk len CL.length (TXof CL) ∧ LawS (TXof CL) CL.length
def SetC (s : AS) (st : Nat) (se : ST1) (DL : Nat → Prop) : Prop := ∃ L : Int → Nat, SetR s st se.1 L se.2.1.length se.2.2 ∧ (∀ (i : Nat) (CL : List CLS), se.2.1[i]? = some CL → LwP s (L i) CL ∧ (L i ≠ 0 ∧ ∀ j, j ≤ 2 → DL (L i + j))) ∧ ∀ z, z < 6 → sR s (st + 2) z = 0 ∨ (sT s (sR s (st + 2) z) = 12 ∧ DL (sR s (st + 2) z))
def DkO (s : AS) (d : Nat) (P : PG) : Prop := IsD s d 18 15 ∧ sI s d 6 = v (-1) ∧ PgR s (d + 1) P ∧ (∃ Bf, PgR s (d + 8) Bf) ∧ ∃ B len, RwR s (d + 15) 40 B len
def ObC (s : AS) : Prop := sT s 1 = 1 ∧ (sR s 1 0 = 2 ∧ sR s 1 1 = 4 ∧ sR s 1 2 = 6 ∧ sR s 1 3 = 8 ∧ sR s 1 4 = 15 ∧ sR s 1 5 = 18 ∧ sR s 1 6 = 21 ∧ sR s 1 7 = 39) ∧ (sR s 1 8 = 57 ∧ sR s 1 9 = 60 ∧ sR s 1 10 = 71 ∧ sR s 1 11 = 75 ∧ sR s 1 12 = 76 ∧ sR s 1 13 = 77)
def RnC (s : AS) : Prop := sT s 60 = 10 ∧ (sR s 60 0 = 21 ∧ sR s 60 1 = 15 ∧ sR s 60 2 = 6 ∧ sR s 60 3 = 61 ∧ sR s 60 4 = 64) ∧ IsP s 64
abbrev DRW : Type := Option (Int → Int)
def ClC (s : AS) (dr : DRW) : Prop := sT s 71 = 2 ∧ (sR s 71 0 = 39 ∧ sR s 71 1 = 6 ∧ sR s 71 2 = 72 ∧ sR s 71 3 = 73 ∧ sR s 71 4 = 74) ∧ ((sT s 72 = 20 ∧ sN s 72 = 8) ∧ (sT s 73 = 20 ∧ sN s 73 = 8) ∧ sT s 74 = 20 ∧ sN s 74 = 8) ∧ match dr with
  | none => sI s 71 5 = v 0
  | some D => sI s 71 5 = v 1 ∧ ∀ z : Int, 0 ≤ z ∧ z < 8 → sI s 72 z.toNat = v (D (3 * z)) ∧ sI s 73 z.toNat = v (D (3 * z + 1)) ∧ sI s 74 z.toNat = v (D (3 * z + 2))
def IsIm (s : AS) (q : Nat) : Prop := sT s q = 4 ∧ sR s q 0 = q + 1 ∧ sR s q 1 = q + 8
def ImO (s : AS) (q : Nat) (im : IMG) (DI DL : Nat → Prop) : Prop := match im with
  | none => q = 0
  | some (se, P) => 0 < q ∧ IsIm s q ∧ PgR s (q + 1) P ∧ SetC s (q + 8) se DL ∧ ∀ j, j ≤ 10 → DI (q + j)
def ImC (s : AS) (IM : Nat → IMG) (DI DL : Nat → Prop) : Prop := (sT s 75 = 43 ∧ sN s 75 = 2) ∧ ∃ q : Nat → Nat, (∀ k, k < 2 → sR s 75 k = q k ∧ ImO s (q k) (IM k) DI DL) ∧ (q 0 ≠ 0 → q 1 ≠ 0 → q 0 + 10 < q 1 ∨ q 1 + 10 < q 0)
section CEQ
variable {s s' : AS}
theorem LwP.eq {t : Nat} {CL : List CLS} (h : LwP s t CL) (e : ∀ i, i ≤ 2 → EqA s s' (t + i)) : LwP s' t CL := by
  obtain ⟨nc, nm, cd, mk, len, h1, h2⟩ := h
  exact ⟨nc, nm, cd, mk, len, h1.eq e, h2⟩
theorem SetC.eq {st : Nat} {se : ST1} {DL : Nat → Prop} (h : SetC s st se DL) (e : ∀ i, i ≤ 2 → EqA s s' (st + i)) (eD : ∀ q, DL q → EqA s s' q) : SetC s' st se DL := by
  obtain ⟨L, h1, h2, h3⟩ := h
  refine ⟨L, h1.eq e, fun i CL hi => ⟨(h2 i CL hi).1.eq (fun j hj => eD _ ((h2 i CL hi).2.2 j hj)), (h2 i CL hi).2⟩, fun z hz => ?_⟩
  rw [(e 2 (by omega)).2.2.1]
  rcases h3 z hz with d | d
  · exact Or.inl d
  · exact Or.inr ⟨by rw [(eD _ d.2).1]; exact d.1, d.2⟩
theorem SetC.mo {st : Nat} {se : ST1} {DL DL' : Nat → Prop} (h : SetC s st se DL) (hm : ∀ q, DL q → DL' q) : SetC s st se DL' := by
  obtain ⟨L, h1, h2, h3⟩ := h
  refine ⟨L, h1, fun i CL hi => ⟨(h2 i CL hi).1, (h2 i CL hi).2.1, fun j hj => hm _ ((h2 i CL hi).2.2 j hj)⟩, fun z hz => ?_⟩
  rcases h3 z hz with d | d
  · exact Or.inl d
  · exact Or.inr ⟨d.1, hm _ d.2⟩
theorem DkO.eq {d : Nat} {P : PG} (h : DkO s d P) (e : ∀ i, i ≤ 17 → EqA s s' (d + i)) : DkO s' d P := by
  obtain ⟨h1, h2, h3, ⟨Bf, h4⟩, B, len, h5⟩ := h
  have e0 := e 0 (by omega)
  rw [Nat.add_zero] at e0
  refine ⟨h1.eq e, by rw [e0.2.2.2.1]; exact h2, h3.eq (fun i hi => by have := e (1 + i) (by omega); rw [← Nat.add_assoc] at this; exact this), ⟨Bf, h4.eq (fun i hi => by have := e (8 + i) (by omega); rw [← Nat.add_assoc] at this; exact this)⟩, B, len, h5.eq (e 15 (by omega)) (e 16 (by omega))⟩
theorem ObC.eq (h : ObC s) (e : EqA s s' 1) : ObC s' := by
  unfold ObC
  rw [e.1, e.2.2.1]
  exact h
theorem ObC.st (h : ObC s) (k : St s s') : ObC s' := by
  unfold ObC
  rw [k.1, k.2.1]
  exact h
theorem RnC.eq (h : RnC s) (e : EqA s s' 60) (e2 : ∀ i, i ≤ 6 → EqA s s' (64 + i)) : RnC s' := by
  refine ⟨by rw [e.1]; exact h.1, by rw [e.2.2.1]; exact h.2.1, h.2.2.eq e2⟩
theorem RnC.st (h : RnC s) (k : St s s') : RnC s' := by
  refine ⟨by rw [k.2.1]; exact h.1, by rw [k.1]; exact h.2.1, h.2.2.st k⟩
theorem ClC.eq {dr : DRW} (h : ClC s dr) (e : ∀ i, i ≤ 3 → EqA s s' (71 + i)) : ClC s' dr := by
  obtain ⟨h1, h2, h3, h4⟩ := h
  have e0 : EqA s s' 71 := e 0 (by omega)
  have e1 : EqA s s' 72 := e 1 (by omega)
  have e2 : EqA s s' 73 := e 2 (by omega)
  have e3 : EqA s s' 74 := e 3 (by omega)
  refine ⟨by rw [e0.1]; exact h1, by rw [e0.2.2.1]; exact h2, by rw [e1.1, e1.2.1, e2.1, e2.2.1, e3.1, e3.2.1]; exact h3, ?_⟩
  cases dr with
  | none => show sI s' 71 5 = v 0; rw [e0.2.2.2.1]; exact h4
  | some D =>
    show sI s' 71 5 = v 1 ∧ _
    rw [e0.2.2.2.1, e1.2.2.2.1, e2.2.2.2.1, e3.2.2.2.1]
    exact h4
theorem ImO.eq {q : Nat} {im : IMG} {DI DL : Nat → Prop} (h : ImO s q im DI DL) (eI : ∀ x, DI x → EqA s s' x) (eL : ∀ x, DL x → EqA s s' x) : ImO s' q im DI DL := by
  cases im with
  | none => exact h
  | some x =>
    obtain ⟨se, P⟩ := x
    obtain ⟨h0, h1, h2, h3, h4⟩ := h
    have e0 := eI _ (h4 0 (by omega))
    rw [Nat.add_zero] at e0
    refine ⟨h0, ⟨by rw [e0.1]; exact h1.1, by rw [e0.2.2.1]; exact h1.2.1, by rw [e0.2.2.1]; exact h1.2.2⟩, h2.eq (fun i hi => by have := eI _ (h4 (1 + i) (by omega)); rw [← Nat.add_assoc] at this; exact this), h3.eq (fun i hi => by have := eI _ (h4 (8 + i) (by omega)); rw [← Nat.add_assoc] at this; exact this) eL, h4⟩
theorem ImO.mo {q : Nat} {im : IMG} {DI DL DI' DL' : Nat → Prop} (h : ImO s q im DI DL) (hI : ∀ x, DI x → DI' x) (hL : ∀ x, DL x → DL' x) : ImO s q im DI' DL' := by
  cases im with
  | none => exact h
  | some x =>
    obtain ⟨se, P⟩ := x
    obtain ⟨h0, h1, h2, h3, h4⟩ := h
    exact ⟨h0, h1, h2, h3.mo hL, fun j hj => hI _ (h4 j hj)⟩
theorem ImC.eq {IM : Nat → IMG} {DI DL : Nat → Prop} (h : ImC s IM DI DL) (e : EqA s s' 75) (eI : ∀ x, DI x → EqA s s' x) (eL : ∀ x, DL x → EqA s s' x) : ImC s' IM DI DL := by
  obtain ⟨h1, q, h2, h3⟩ := h
  exact ⟨by rw [e.1, e.2.1]; exact h1, q, fun k hk => ⟨by rw [e.2.2.1]; exact (h2 k hk).1, (h2 k hk).2.eq eI eL⟩, h3⟩
theorem ImC.mo {IM : Nat → IMG} {DI DL DI' DL' : Nat → Prop} (h : ImC s IM DI DL) (hI : ∀ x, DI x → DI' x) (hL : ∀ x, DL x → DL' x) : ImC s IM DI' DL' := by
  obtain ⟨h1, q, h2, h3⟩ := h
  exact ⟨h1, q, fun k hk => ⟨(h2 k hk).1, (h2 k hk).2.mo hI hL⟩, h3⟩
end CEQ
abbrev DYN : Type := ((Nat → Prop) × (Nat → Prop)) × ((Nat → Prop) × (Nat → Prop)) × Nat × Nat
/-- the rows' places (log, fresh), laws, images; how many rows are made -/
def DyO (s : AS) (D : DYN) (IM : Nat → IMG) (cn : Nat) : Prop :=
  (∀ q, D.1.1 q ∨ D.1.2 q ∨ D.2.1.1 q ∨ D.2.1.2 q → 106 ≤ q ∧ q < sX s) ∧ (∀ q, D.1.1 q → ¬ D.1.2 q ∧ ¬ D.2.1.1 q ∧ ¬ D.2.1.2 q) ∧ (∀ q, D.1.2 q → ¬ D.2.1.1 q ∧ ¬ D.2.1.2 q) ∧ (∀ q, D.2.1.1 q → ¬ D.2.1.2 q) ∧ (D.2.2.1 ≤ 16 ∧ D.2.2.2 ≤ 16) ∧ 106 ≤ sX s ∧
  sX s + 7 * (32 - D.2.2.1 - D.2.2.2) + (if IM 0 = none then 11 else 0) + (if IM 1 = none then 11 else 0) ≤ 500 + 3 * cn ∧ sZ s + 918 * (32 - D.2.2.1 - D.2.2.2) + (if IM 0 = none then 1000 else 0) + (if IM 1 = none then 1000 else 0) ≤ 200000 + 480 * cn ∧ cn ≤ 600
def TpB (tp : (Int → Int) × Int) : Prop := (0 ≤ tp.2 ∧ tp.2 ≤ 400) ∧ ∀ z, 0 ≤ tp.1 z ∧ tp.1 z ≤ 255
/-- the class's object and all that it holds -/
def RepD (s : AS) (D : DYN) (tp : (Int → Int) × Int) (se : ST1) (P : PG) (LG : LGS) (IM : Nat → IMG) (ms : Int → Int) (vw : (Int → Int) × Int) (dr : DRW) (cn : Nat) : Prop :=
  ObC s ∧ (sI s 1 14 = v (ms 1) ∧ sI s 1 15 = v (ms 2)) ∧ RwR s 2 400 tp.1 tp.2 ∧ RwR s 4 200 vw.1 vw.2 ∧ (∃ B n, RwR s 6 200 B n) ∧ (IsRd s 8 ∧ sI s 8 7 = v (ms 0)) ∧ (IsMc s 15 ∧ ∃ W, WdR s 15 W ∧ ∀ z, 0 ≤ z → z < 20 → stB (W z)) ∧ SetC s 18 se D.2.1.1 ∧ DkO s 21 P ∧ (∃ Q, DkO s 39 Q) ∧ LogC s 57 D.1.1 D.2.2.1 LG ∧ (∃ LG2, LogC s 61 D.1.2 D.2.2.2 LG2 ∧ LG2.length ≤ 16) ∧ RnC s ∧ ClC s dr ∧ ImC s IM D.2.1.2 D.2.1.1 ∧ (sT s 76 = 21 ∧ sN s 76 = 20) ∧ (sT s 77 = 20 ∧ sN s 77 = 5 ∧ ∀ z : Int, 0 ≤ z ∧ z < 5 → sI s 77 z.toNat = v (ms (3 + z))) ∧ DyO s D IM cn
