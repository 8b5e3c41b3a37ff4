/-! A DESK: what a law leaves; where SEARCH tells -/
def SetR (s : AS) (st : Nat) (V : Int → Int) (L : Int → Nat) (n fo : Int) : Prop := sT s st = 11 ∧ (sR s st 0 = st + 1 ∧ sT s (st + 1) = 20 ∧ sN s (st + 1) = 3) ∧ (sR s st 1 = st + 2 ∧ sT s (st + 2) = 51 ∧ sN s (st + 2) = 6) ∧ (∀ z : Int, 0 ≤ z ∧ z < 3 → sI s (st + 1) z.toNat = v (V z)) ∧ (∀ z : Int, 0 ≤ z ∧ z < n → sR s (st + 2) z.toNat = L z) ∧ sI s st 2 = v n ∧ sI s st 3 = v fo
theorem SetR.fr {F : Nat → Prop} {s s' : AS} {st : Nat} {V : Int → Int} {L : Int → Nat} {n fo : Int} (h : SetR s st V L n fo) (hf : Fr F s s') (h0 : ¬ F st) (h1 : ¬ F (st + 1)) : SetR s' st V L n fo := by
  obtain ⟨a1, a2, a3, a4, a5, a6, a7⟩ := h
  obtain ⟨⟨t1, t2, t3, -, -⟩, hq⟩ := hf
  refine ⟨by rw [t2]; exact a1, by rw [t1, t2, t3]; exact a2, by rw [t1, t2, t3]; exact a3, ?_, ?_, ?_, ?_⟩
  · rw [(hq _ h1).1]; exact a4
  · rw [t1]; exact a5
  · rw [(hq _ h0).1]; exact a6
  · rw [(hq _ h0).1]; exact a7
def DepS (n : Int) (f : SEM) : Prop := ∀ W W' : Int → Int, (∀ z, 0 ≤ z → z < n → W z = W' z) → f W = f W'
/-- what a law's text is -/
def LawS (T : TXS) (cl : Int) : Prop := ∀ c, 0 ≤ c → c < cl → (BolS (T.2.2.2.2 c) ∧ SumS (T.2.2.1 c) ∧ (T.1 c = 0 ∨ T.1 c = 1)) ∧ DepS 7 (T.2.2.2.2 c) ∧ DepS 7 (T.2.2.1 c)
def lawW (P : PG) (V : Int → Int) (p m : Int) : Int → Int := fun z => if z = 0 then p else if z = 1 then m else if z = 2 then freeP P p else if z = 3 then P 3 p else if z = 4 then P 4 p else if z = 5 then V 0 else if z = 6 then V 2 else 0
/-- a law in force: its clauses, their number; none -/
abbrev LWS : Type := Option (TXS × Int)
def leftP (o : LWS) (V : Int → Int) (P : PG) (p m : Int) : Int := match o with
  | none => 0
  | some (T, cl) => leftL T (lawW P V p m) cl.toNat 0 0
theorem leftL_dep {T : TXS} {cl : Int} (h : LawS T cl) {W W' : Int → Int} (hw : ∀ z, 0 ≤ z → z < 7 → W z = W' z) : ∀ (k : Nat) (c l : Int), c + k = cl → 0 ≤ c → leftL T W k c l = leftL T W' k c l := by
  intro k
  induction k with
  | zero => intro c l _ _; rfl
  | succ k ih =>
    intro c l hc h0
    obtain ⟨-, h1, h2⟩ := h c h0 (by omega)
    unfold leftL
    rw [h1 W W' hw, h2 W W' hw, ih (c + 1) _ (by omega) (by omega), ih (c + 1) l (by omega) (by omega)]
theorem leftL_r {T : TXS} {W : Int → Int} : ∀ (k : Nat) (c l : Int), 0 ≤ l ∧ l ≤ 64 → 0 ≤ leftL T W k c l ∧ leftL T W k c l ≤ 65 := by
  intro k
  induction k with
  | zero => intro c l h; unfold leftL; omega
  | succ k ih =>
    intro c l h
    unfold leftL
    split
    · split
      · omega
      · split
        · exact ih _ _ h
        · exact ih _ _ (by omega)
    · exact ih _ _ h
theorem WdR.set {s : AS} {mc : Nat} {W : Int → Int} {k x : Int} (h : WdR s mc W) (hk : 0 ≤ k ∧ k < 20) : WdR (setJ s (mc + 1) k.toNat (w x)) mc (bu W k x) := by
  intro z hz
  rw [sL_setJ]
  unfold bu
  by_cases e : z = k
  · rw [if_pos ⟨rfl, by rw [e]⟩, if_pos e]
  · rw [if_neg (fun c => e (by omega)), if_neg e]; exact h z hz
theorem pg_tag {s : AS} {b q : Nat} (h : IsP s b) (hq : sT s q ≠ 7) (hq2 : sT s q ≠ 20) : ∀ i, i ≤ 6 → b + i ≠ q := by
  obtain ⟨h7, ⟨-, b1, -⟩, ⟨-, b2, -⟩, ⟨-, b3, -⟩, ⟨-, b4, -⟩, ⟨-, b5, -⟩, ⟨-, b6, -⟩⟩ := h
  intro i hi e
  subst e
  rcases (by omega : i = 0 ∨ i = 1 ∨ i = 2 ∨ i = 3 ∨ i = 4 ∨ i = 5 ∨ i = 6) with e | e | e | e | e | e | e <;> subst e <;> simp_all
theorem s_leftOn {s : AS} {d st mc t nc nm : Nat} {cd mk : Int → Int} {len cl n fo p m : Int} {T : TXS} {W : Int → Int} {P : PG} {V : Int → Int} {L : Int → Nat} (hT : TxS cd mk len cl T) (hcl : 6 * cl ≤ nm ∧ nm ≤ 100) (hl : len ≤ nc ∧ nc ≤ 400) (hL : LawS T cl) (hW : ∀ z, 0 ≤ z → z < 20 → stB (W z))
    (hD : IsD s d st mc) (hM : IsMc s mc) (hWd : WdR s mc W) (hx : TxR s t nc nm cd mk len cl) (ht : t ≠ 0) (hP : PgR s (d + 1) P) (hB : PgB P) (hS : SetR s st V L n fo) (hV : ∀ z, 0 ≤ V z ∧ V z ≤ 1000) (hp : 0 ≤ p ∧ p < 8) (hm : 0 ≤ m ∧ m ≤ 1000) :
    ∃ s' W', f_Desk_leftOn s d (v p) (v m) t = some (v (leftP (some (T, cl)) V P p m), s') ∧ WdR s' mc W' ∧ (∀ z, 0 ≤ z → z < 20 → stB (W' z)) ∧ Fr (fun q => q = mc + 1 ∨ q = mc + 2) s s' := by
  have hb := hB.2 p
  have hfr := freeP_r hB p
  have tag : ∀ i, i ≤ 6 → d + 1 + i ≠ mc + 1 := pg_tag hP.1 (by rw [hM.2.1.2.1]; decide) (by rw [hM.2.1.2.1]; decide)
  have fw : ∀ (s' : AS) (k : Nat) (x : Int64), Fr (fun q => q = mc + 1) s' (setJ s' (mc + 1) k x) := fun s' k x => Fr.sj rfl
  have w0 := hWd.set (k := 0) (x := p) (by decide)
  have w1 := w0.set (k := 1) (x := m) (by decide)
  have w2 := w1.set (k := 2) (x := freeP P p) (by decide)
  have w3 := w2.set (k := 3) (x := P 3 p) (by decide)
  have w4 := w3.set (k := 4) (x := P 4 p) (by decide)
  have w5 := w4.set (k := 5) (x := V 0) (by decide)
  have w6 := w5.set (k := 6) (x := V 2) (by decide)
  have hf2 := (fw s (0 : Int).toNat (w p)).tr (fw _ (1 : Int).toNat (w m))
  have hf7 := ((((hf2.tr (fw _ (2 : Int).toNat (w (freeP P p)))).tr (fw _ (3 : Int).toNat (w (P 3 p)))).tr (fw _ (4 : Int).toNat (w (P 4 p)))).tr (fw _ (5 : Int).toNat (w (V 0)))).tr (fw _ (6 : Int).toNat (w (V 2)))
  have hfree := s_freeOf (hP.fr hf2 (fun i h1 h2 e => tag i h2 e)) hB hp
  have q0 : ∀ q, q = t ∨ q = t + 1 ∨ q = t + 2 → ¬ q = mc + 1 := by
    intro q hq e
    have h21 : sT s q = 21 := by rw [e]; exact hM.2.1.2.1
    rcases hq with hq | hq | hq
    · rw [hq, hx.1.1] at h21; omega
    · rw [hq, hx.1.2.1.2.1] at h21; omega
    · rw [hq, hx.1.2.2.2.1] at h21; omega
  have hv0 := hV 0
  have hv2 := hV 2
  have hW6 : ∀ z, 0 ≤ z → z < 20 → stB (bu (bu (bu (bu (bu (bu (bu W 0 p) 1 m) 2 (freeP P p)) 3 (P 3 p)) 4 (P 4 p)) 5 (V 0)) 6 (V 2) z) := by
    intro z h1 h2
    have := hW z h1 h2
    unfold bu
    repeat' split
    all_goals constructor <;> omega
  obtain ⟨s', r1, r2⟩ := s_leftL (d := d) (st := st) (t := t) hT hcl hl hW6 (fun c h1 h2 => (hL c h1 h2).1) cl.toNat fuel 0 0 _ (by have := hT.2.1; omega) (by omega) (by have := hT.2.1; unfold fuel; omega) (by omega) (hD.st hf7.1) (hM.st hf7.1) w6 (hx.fr hf7 (q0 _ (Or.inl rfl)) (q0 _ (Or.inr (Or.inl rfl))) (q0 _ (Or.inr (Or.inr rfl))))
  refine ⟨s', _, ?_, w6.fr r2 (by omega), hW6, (hf7.mo (fun q hq => Or.inl hq)).tr (r2.mo (fun q hq => Or.inr hq))⟩
  have hle : leftL T (bu (bu (bu (bu (bu (bu (bu W 0 p) 1 m) 2 (freeP P p)) 3 (P 3 p)) 4 (P 4 p)) 5 (V 0)) 6 (V 2)) cl.toNat 0 0 = leftL T (lawW P V p m) cl.toNat 0 0 := by
    refine leftL_dep hL (fun z h1 h2 => ?_) cl.toNat 0 0 (by have := hT.2.1; omega) (by omega)
    rcases (by omega : z = 0 ∨ z = 1 ∨ z = 2 ∨ z = 3 ∨ z = 4 ∨ z = 5 ∨ z = 6) with e | e | e | e | e | e | e <;> subst e <;> rfl
  rw [hle] at r1
  obtain ⟨⟨h7, -, -, -, ⟨a4, b4, c4⟩, ⟨a5, b5, c5⟩, -⟩, -, -, -, d4, d5, -⟩ := hP
  obtain ⟨m1, ⟨m2, m3, m4⟩, -⟩ := hM
  obtain ⟨e1, ⟨e2, e3, e4⟩, -, e5, -⟩ := hS
  have ev0 := e5 0 (by decide)
  have ev2 := e5 2 (by decide)
  unfold f_Desk_leftOn
  rw [if_neg ht, if_pos hD.1, hD.2.1.2.1, if_pos m1, m2, m3, m4, hD.2.1.2.2.1, hD.2.1.1, h7, a4, b4, c4, a5, b5, c5, e1, e2, e3, e4]
  simp (disch := omega) only [nv0, nv1, nv2, nv3, nv4, nv5, nv6, v_inT, v_ix, v_w, and_self, if_true, hfree, Option.bind_some, d4, d5, lw0, ev0, ev2]
  exact r1
