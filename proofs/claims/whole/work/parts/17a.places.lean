/-! PLACES THAT ARE THE SAME -/
def EqA (s s' : AS) (q : Nat) : Prop := sT s' q = sT s q ∧ sN s' q = sN s q ∧ sR s' q = sR s q ∧ sI s' q = sI s q ∧ sL s' q = sL s q
theorem EqA.rf (s : AS) (q : Nat) : EqA s s q := ⟨rfl, rfl, rfl, rfl, rfl⟩
theorem EqA.tr {a b c : AS} {q : Nat} (h : EqA a b q) (k : EqA b c q) : EqA a c q := ⟨k.1.trans h.1, k.2.1.trans h.2.1, k.2.2.1.trans h.2.2.1, k.2.2.2.1.trans h.2.2.2.1, k.2.2.2.2.trans h.2.2.2.2⟩
theorem Fr.eqA {F : Nat → Prop} {s s' : AS} (h : Fr F s s') {q : Nat} (hq : ¬ F q) : EqA s s' q := ⟨by rw [h.1.2.1], by rw [h.1.2.2.1], by rw [h.1.1], (h.2 q hq).1, (h.2 q hq).2⟩
theorem eqA_setR {s : AS} {p j x q : Nat} (h : q ≠ p) : EqA s (setR s p j x) q := by
  refine ⟨rfl, rfl, ?_, rfl, rfl⟩
  funext k
  rw [sR_setR, if_neg (fun d => h d.1)]
theorem eqA_new {s : AS} {t n q : Nat} (h : q ≠ sX s) : EqA s (newA s t n) q := by
  unfold newA
  refine ⟨if_neg h, if_neg h, if_neg h, if_neg h, if_neg h⟩
/-- the same but at some places; new ones come behind the others -/
def Gr (F : Nat → Prop) (s s' : AS) : Prop := (∀ q, (q < sX s ∨ 900000 ≤ q) → ¬ F q → EqA s s' q) ∧ sX s ≤ sX s'
theorem Gr.rf (F : Nat → Prop) (s : AS) : Gr F s s := ⟨fun q _ _ => EqA.rf s q, Nat.le_refl _⟩
theorem Gr.tr {F : Nat → Prop} {a b c : AS} (h : Gr F a b) (k : Gr F b c) : Gr F a c := ⟨fun q hq hF => (h.1 q hq hF).tr (k.1 q (by have := h.2; omega) hF), Nat.le_trans h.2 k.2⟩
theorem Gr.mo {F G : Nat → Prop} {a b : AS} (h : Gr F a b) (hg : ∀ q, F q → G q) : Gr G a b := ⟨fun q hq hF => h.1 q hq (fun d => hF (hg q d)), h.2⟩
theorem Fr.gr {F : Nat → Prop} {s s' : AS} (h : Fr F s s') : Gr F s s' := ⟨fun _ _ hF => h.eqA hF, by rw [show sX s' = sX s from h.1.2.2.2.1]; exact Nat.le_refl _⟩
theorem gr_setR {F : Nat → Prop} {s : AS} {p j x : Nat} (h : F p) : Gr F s (setR s p j x) := ⟨fun q _ hF => eqA_setR (fun e => hF (e ▸ h)), Nat.le_refl _⟩
theorem grn {F : Nat → Prop} {s : AS} {t n : Nat} (hx : sX s < 900000) : Gr F s (newA s t n) := ⟨fun q hq _ => eqA_new (by omega), by show sX s ≤ sX s + 1; omega⟩
/-! what holds at a place holds where it is the same -/
section EQ
variable {s s' : AS}
theorem IsP.eq {b : Nat} (h : IsP s b) (e : ∀ i, i ≤ 6 → EqA s s' (b + i)) : IsP s' b := by
  obtain ⟨h0, h1, h2, h3, h4, h5, h6⟩ := h
  have e0 := e 0 (by omega)
  have e1 := e 1 (by omega)
  have e2 := e 2 (by omega)
  have e3 := e 3 (by omega)
  have e4 := e 4 (by omega)
  have e5 := e 5 (by omega)
  have e6 := e 6 (by omega)
  rw [Nat.add_zero] at e0
  unfold IsP
  rw [e0.1, e0.2.2.1, e1.1, e1.2.1, e2.1, e2.2.1, e3.1, e3.2.1, e4.1, e4.2.1, e5.1, e5.2.1, e6.1, e6.2.1]
  exact ⟨h0, h1, h2, h3, h4, h5, h6⟩
theorem PgR.eq {b : Nat} {P : PG} (h : PgR s b P) (e : ∀ i, i ≤ 6 → EqA s s' (b + i)) : PgR s' b P := by
  refine ⟨h.1.eq e, ?_⟩
  unfold PgC
  rw [(e 1 (by omega)).2.2.2.1, (e 2 (by omega)).2.2.2.1, (e 3 (by omega)).2.2.2.1, (e 4 (by omega)).2.2.2.1, (e 5 (by omega)).2.2.2.1, (e 6 (by omega)).2.2.2.1]
  exact h.2
theorem IsRow.eq {c n : Nat} (h : IsRow s c n) (e0 : EqA s s' c) (e1 : EqA s s' (c + 1)) : IsRow s' c n := by
  unfold IsRow
  rw [e0.1, e0.2.2.1, e1.1, e1.2.1]
  exact h
theorem RwR.eq {c n : Nat} {B : Int → Int} {len : Int} (h : RwR s c n B len) (e0 : EqA s s' c) (e1 : EqA s s' (c + 1)) : RwR s' c n B len := by
  refine ⟨h.1.eq e0 e1, ?_, ?_⟩
  · rw [e0.2.2.2.1]; exact h.2.1
  · rw [e1.2.2.2.1]; exact h.2.2
theorem IsMc.eq {mc : Nat} (h : IsMc s mc) (e : ∀ i, i ≤ 2 → EqA s s' (mc + i)) : IsMc s' mc := by
  have e0 := e 0 (by omega)
  have e1 := e 1 (by omega)
  have e2 := e 2 (by omega)
  rw [Nat.add_zero] at e0
  unfold IsMc
  rw [e0.1, e0.2.2.1, e1.1, e1.2.1, e2.1, e2.2.1]
  exact h
theorem WdR.eq {mc : Nat} {W : Int → Int} (h : WdR s mc W) (e : EqA s s' (mc + 1)) : WdR s' mc W := by
  unfold WdR
  rw [e.2.2.2.2]
  exact h
theorem IsTx.eq {t nc nm : Nat} (h : IsTx s t nc nm) (e : ∀ i, i ≤ 2 → EqA s s' (t + i)) : IsTx s' t nc nm := by
  have e0 := e 0 (by omega)
  have e1 := e 1 (by omega)
  have e2 := e 2 (by omega)
  rw [Nat.add_zero] at e0
  unfold IsTx
  rw [e0.1, e0.2.2.1, e1.1, e1.2.1, e2.1, e2.2.1]
  exact h
theorem TxR.eq {t nc nm : Nat} {cd mk : Int → Int} {len cl : Int} (h : TxR s t nc nm cd mk len cl) (e : ∀ i, i ≤ 2 → EqA s s' (t + i)) : TxR s' t nc nm cd mk len cl := by
  have e0 := e 0 (by omega)
  rw [Nat.add_zero] at e0
  refine ⟨h.1.eq e, ?_, ?_, ?_⟩
  · rw [e0.2.2.2.1]; exact h.2.1
  · rw [(e 1 (by omega)).2.2.2.1]; exact h.2.2.1
  · rw [(e 2 (by omega)).2.2.2.1]; exact h.2.2.2
theorem SetR.eq {st : Nat} {V : Int → Int} {L : Int → Nat} {n fo : Int} (h : SetR s st V L n fo) (e : ∀ i, i ≤ 2 → EqA s s' (st + i)) : SetR s' st V L n fo := by
  have e0 := e 0 (by omega)
  have e1 := e 1 (by omega)
  have e2 := e 2 (by omega)
  rw [Nat.add_zero] at e0
  unfold SetR
  rw [e0.1, e0.2.2.1, e0.2.2.2.1, e1.1, e1.2.1, e1.2.2.2.1, e2.1, e2.2.1, e2.2.2.1]
  exact h
theorem IsD.eq {d st mc : Nat} (h : IsD s d st mc) (e : ∀ i, i ≤ 17 → EqA s s' (d + i)) : IsD s' d st mc := by
  obtain ⟨h1, h2, h3, h4, h5, h6, h7⟩ := h
  have e0 := e 0 (by omega)
  rw [Nat.add_zero] at e0
  refine ⟨by rw [e0.1]; exact h1, by rw [e0.2.2.1]; exact h2, h3.eq (fun i hi => by have := e (1 + i) (by omega); rw [← Nat.add_assoc] at this; exact this), h4.eq (fun i hi => by have := e (8 + i) (by omega); rw [← Nat.add_assoc] at this; exact this), h5.eq (e 15 (by omega)) (e 16 (by omega)), by rw [(e 17 (by omega)).1]; exact h6, by rw [(e 17 (by omega)).2.1]; exact h7⟩
theorem MR.eq {m : Nat} {A : MA} (h : MR s m A) (e : ∀ i, i < 28 → EqA s s' (m + i)) : MR s' m A := by
  obtain ⟨⟨h0, h0'⟩, h1, h2, h3, h4⟩ := h
  have e0 := e 0 (by omega)
  rw [Nat.add_zero] at e0
  refine ⟨⟨by rw [e0.1]; exact h0, fun j j1 j2 => ?_⟩, ?_, ?_, fun j j1 j2 hj y hy => ?_, fun j j1 j2 hj y hy => ?_⟩
  · rw [e0.2.2.1, (e j j2).1, (e j j2).2.1]; exact h0' j j1 j2
  · rw [e0.2.2.2.1]; exact h1
  · rw [e0.2.2.2.2]; exact h2
  · rw [(e j j2).2.2.2.1]; exact h3 j j1 j2 hj y hy
  · rw [(e j j2).2.2.2.2]; exact h4 j j1 j2 hj y hy
theorem IsRd.eq {rd : Nat} (h : IsRd s rd) (e : ∀ i, i ≤ 4 → EqA s s' (rd + i)) : IsRd s' rd := by
  have e0 := e 0 (by omega)
  rw [Nat.add_zero] at e0
  refine ⟨by rw [e0.1]; exact h.1, by rw [e0.2.2.1]; exact h.2.1, ⟨by rw [(e 4 (by omega)).1]; exact h.2.2.1.1, by rw [(e 4 (by omega)).2.1]; exact h.2.2.1.2⟩, h.2.2.2.eq (fun i hi => by have := e (1 + i) (by omega); rw [← Nat.add_assoc] at this; exact this)⟩
end EQ
/-! NEW PAGES -/
theorem nwO_s {s : AS} {t n : Nat} (h : sX s < 900000) : nwO s t n = some (sX s, newA s t n) := if_pos h
theorem nwA_s {s : AS} {t : Nat} {z : Int} (h : sX s < 900000) (hz : 0 ≤ z ∧ z ≤ 100000) : nwA s t (v z) = some (sX s, newA s t z.toNat) := by
  unfold nwA
  have hz2 : (v z).toNatClampNeg = z.toNat := v_ix (by omega)
  have hn : ¬ v z < 0 := fun d => by
    have := (v_lt (a := z) (b := 0) ⟨by omega, by omega⟩ ⟨by omega, by omega⟩).mp d
    omega
  rw [if_pos ⟨h, hn, by rw [hz2]; omega⟩, hz2]
theorem sT_new (s : AS) (t n q : Nat) : sT (newA s t n) q = if q = sX s then t else sT s q := rfl
theorem sN_new (s : AS) (t n q : Nat) : sN (newA s t n) q = if q = sX s then n else sN s q := rfl
theorem sI_new (s : AS) (t n q : Nat) : sI (newA s t n) q = if q = sX s then (fun _ => nI 0) else sI s q := rfl
theorem sL_new (s : AS) (t n q : Nat) : sL (newA s t n) q = if q = sX s then (fun _ => lN 0) else sL s q := rfl
theorem sR_new (s : AS) (t n q : Nat) : sR (newA s t n) q = if q = sX s then (fun _ => 0) else sR s q := rfl
theorem sX_new (s : AS) (t n : Nat) : sX (newA s t n) = sX s + 1 := rfl
theorem sZ_new (s : AS) (t n : Nat) : sZ (newA s t n) = sZ s + n := rfl
/-- bare pages -/
def bareP : PG := fun j _ => if j = 4 then 8 else 0
theorem setR_T (s : AS) (p j x : Nat) : sT (setR s p j x) = sT s := rfl
theorem setR_N (s : AS) (p j x : Nat) : sN (setR s p j x) = sN s := rfl
theorem setR_I (s : AS) (p j x : Nat) : sI (setR s p j x) = sI s := rfl
theorem setR_L (s : AS) (p j x : Nat) : sL (setR s p j x) = sL s := rfl
theorem setR_X (s : AS) (p j x : Nat) : sX (setR s p j x) = sX s := rfl
theorem setR_Z (s : AS) (p j x : Nat) : sZ (setR s p j x) = sZ s := rfl
theorem s_fillL {p : Nat} {x n : Int} (hn : 0 ≤ n ∧ n ≤ 1000) : ∀ (k N : Nat) (i : Int) (s : AS), i + k = n → 0 ≤ i → k < N → sT s p = 20 → sN s p = n.toNat → (∀ z, 0 ≤ z → z < i → sI s p z.toNat = v x) →
    ∃ s', l_Arrays_fill1_5 N p (v x) (v i) (v n) s = some s' ∧ (∀ z, 0 ≤ z → z < n → sI s' p z.toNat = v x) ∧ Fr (fun q => q = p) s s' := by
  intro k
  induction k with
  | zero =>
    intro N i s hi h0 hN ht hs hz
    obtain ⟨N, rfl⟩ : ∃ x, N = x + 1 := ⟨N - 1, by omega⟩
    refine ⟨s, ?_, fun z z0 z1 => hz z z0 (by omega), Fr.rf _ _⟩
    show b_Arrays_fill1_5 _ _ _ _ _ _ = _
    unfold b_Arrays_fill1_5
    rw [if_neg (nlt (by omega))]
  | succ k ih =>
    intro N i s hi h0 hN ht hs hz
    obtain ⟨N, rfl⟩ : ∃ x, N = x + 1 := ⟨N - 1, by omega⟩
    obtain ⟨s', q1, q2, q3⟩ := ih N (i + 1) (setI s p i.toNat (v x)) (by omega) (by omega) (by omega) ht hs (fun z z0 z1 => by
      rw [sI_setI]
      by_cases e : z = i
      · rw [if_pos ⟨rfl, by rw [e]⟩]
      · rw [if_neg (fun c => e (by omega))]; exact hz z z0 (by omega))
    refine ⟨s', ?_, q2, (Fr.si (F := fun q => q = p) rfl).tr q3⟩
    rw [← q1]
    show b_Arrays_fill1_5 _ _ _ _ _ _ = _
    unfold b_Arrays_fill1_5
    rw [if_pos (plt (by omega)), ht, hs, if_pos ⟨rfl, v_inA (by omega) (by omega)⟩, v_ix (by omega), nv1, v_add]
theorem s_newPages {s : AS} (h : sX s + 10 < 900000) (h1 : 1 ≤ sX s) : ∃ s', f_Pages_init (newA s 7 6) (sX s) = some s' ∧ PgR s' (sX s) bareP ∧ Gr (fun _ => False) s s' ∧ sX s' = sX s + 7 ∧ sZ s' = sZ s + 918 := by
  obtain ⟨b, hb⟩ : ∃ b, b = sX s := ⟨_, rfl⟩
  -- the states
  obtain ⟨s0, e0⟩ : ∃ x, x = newA s 7 6 := ⟨_, rfl⟩
  have x0 : sX s0 = b + 1 := by rw [e0, sX_new, hb]
  obtain ⟨s1, e1⟩ : ∃ x, x = setR (newA s0 20 128) b 0 (b + 1) := ⟨_, rfl⟩
  have x1 : sX s1 = b + 2 := by rw [e1, setR_X, sX_new, x0]
  obtain ⟨s2, e2⟩ : ∃ x, x = setR (newA s1 20 128) b 1 (b + 2) := ⟨_, rfl⟩
  have x2 : sX s2 = b + 3 := by rw [e2, setR_X, sX_new, x1]
  obtain ⟨s3, e3⟩ : ∃ x, x = setR (newA s2 20 128) b 2 (b + 3) := ⟨_, rfl⟩
  have x3 : sX s3 = b + 4 := by rw [e3, setR_X, sX_new, x2]
  obtain ⟨s4, e4⟩ : ∃ x, x = setR (newA s3 20 8) b 3 (b + 4) := ⟨_, rfl⟩
  have x4 : sX s4 = b + 5 := by rw [e4, setR_X, sX_new, x3]
  obtain ⟨s5, e5⟩ : ∃ x, x = setR (newA s4 20 8) b 4 (b + 5) := ⟨_, rfl⟩
  have x5 : sX s5 = b + 6 := by rw [e5, setR_X, sX_new, x4]
  obtain ⟨s6, e6⟩ : ∃ x, x = setR (newA s5 20 512) b 5 (b + 6) := ⟨_, rfl⟩
  have x6 : sX s6 = b + 7 := by rw [e6, setR_X, sX_new, x5]
  -- kinds and numbers of places
  have T : ∀ q, sT s6 q = if q = b + 6 then 20 else if q = b + 5 then 20 else if q = b + 4 then 20 else if q = b + 3 then 20 else if q = b + 2 then 20 else if q = b + 1 then 20 else if q = b then 7 else sT s q := fun q => by
    rw [e6, setR_T, sT_new, x5, e5, setR_T, sT_new, x4, e4, setR_T, sT_new, x3, e3, setR_T, sT_new, x2, e2, setR_T, sT_new, x1, e1, setR_T, sT_new, x0, e0, sT_new, ← hb]
  have N : ∀ q, sN s6 q = if q = b + 6 then 512 else if q = b + 5 then 8 else if q = b + 4 then 8 else if q = b + 3 then 128 else if q = b + 2 then 128 else if q = b + 1 then 128 else if q = b then 6 else sN s q := fun q => by
    rw [e6, setR_N, sN_new, x5, e5, setR_N, sN_new, x4, e4, setR_N, sN_new, x3, e3, setR_N, sN_new, x2, e2, setR_N, sN_new, x1, e1, setR_N, sN_new, x0, e0, sN_new, ← hb]
  have I : ∀ q, sI s6 q = if q = b + 6 then (fun _ => nI 0) else if q = b + 5 then (fun _ => nI 0) else if q = b + 4 then (fun _ => nI 0) else if q = b + 3 then (fun _ => nI 0) else if q = b + 2 then (fun _ => nI 0) else if q = b + 1 then (fun _ => nI 0) else if q = b then (fun _ => nI 0) else sI s q := fun q => by
    rw [e6, setR_I, sI_new, x5, e5, setR_I, sI_new, x4, e4, setR_I, sI_new, x3, e3, setR_I, sI_new, x2, e2, setR_I, sI_new, x1, e1, setR_I, sI_new, x0, e0, sI_new, ← hb]
  have R : ∀ k, sR s6 b k = if k = 5 then b + 6 else if k = 4 then b + 5 else if k = 3 then b + 4 else if k = 2 then b + 3 else if k = 1 then b + 2 else if k = 0 then b + 1 else 0 := fun k => by
    rw [e6, sR_setR, sR_new, x5, if_neg (show ¬ b = b + 6 by omega), e5, sR_setR, sR_new, x4, if_neg (show ¬ b = b + 5 by omega), e4, sR_setR, sR_new, x3, if_neg (show ¬ b = b + 4 by omega), e3, sR_setR, sR_new, x2, if_neg (show ¬ b = b + 3 by omega), e2, sR_setR, sR_new, x1, if_neg (show ¬ b = b + 2 by omega), e1, sR_setR, sR_new, x0, if_neg (show ¬ b = b + 1 by omega), e0, sR_new, ← hb, if_pos (rfl : b = b)]
    simp only [true_and]
  have g0 : Gr (fun _ => False) s s0 := by rw [e0]; exact grn (by omega)
  have g1 : Gr (fun q => q = b) s0 s1 := by rw [e1]; exact (grn (by omega)).tr (gr_setR rfl)
  have g2 : Gr (fun q => q = b) s1 s2 := by rw [e2]; exact (grn (by omega)).tr (gr_setR rfl)
  have g3 : Gr (fun q => q = b) s2 s3 := by rw [e3]; exact (grn (by omega)).tr (gr_setR rfl)
  have g4 : Gr (fun q => q = b) s3 s4 := by rw [e4]; exact (grn (by omega)).tr (gr_setR rfl)
  have g5 : Gr (fun q => q = b) s4 s5 := by rw [e5]; exact (grn (by omega)).tr (gr_setR rfl)
  have g6 : Gr (fun q => q = b) s5 s6 := by rw [e6]; exact (grn (by omega)).tr (gr_setR rfl)
  have gg := ((((g1.tr g2).tr g3).tr g4).tr g5).tr g6
  have t5 : sT s6 (b + 5) = 20 := by rw [T, if_neg (by omega), if_pos rfl]
  have n5 : sN s6 (b + 5) = 8 := by rw [N, if_neg (by omega), if_pos rfl]
  obtain ⟨s7, f1, f2, f3⟩ := s_fillL (p := b + 5) (x := 8) (n := 8) (by omega) 8 fuel 0 s6 rfl (Int.le_refl _) (by unfold fuel; omega) t5 n5 (fun z z0 z1 => by omega)
  have kb : sT s0 b = 7 := by rw [e0, sT_new, ← hb, if_pos rfl]
  have k1 : sT (newA s0 20 128) b = 7 := by rw [sT_new, x0, if_neg (by omega)]; exact kb
  have k2 : sT (newA s1 20 128) b = 7 := by rw [sT_new, x1, if_neg (by omega), e1, setR_T]; exact k1
  have k3 : sT (newA s2 20 128) b = 7 := by rw [sT_new, x2, if_neg (by omega), e2, setR_T]; exact k2
  have k4 : sT (newA s3 20 8) b = 7 := by rw [sT_new, x3, if_neg (by omega), e3, setR_T]; exact k3
  have k5 : sT (newA s4 20 8) b = 7 := by rw [sT_new, x4, if_neg (by omega), e4, setR_T]; exact k4
  have k6 : sT (newA s5 20 512) b = 7 := by rw [sT_new, x5, if_neg (by omega), e5, setR_T]; exact k5
  have r5 : sR s6 b 4 = b + 5 := by rw [R]; rfl
  have w0 : nwA s0 20 (nI 128) = some (b + 1, newA s0 20 128) := by rw [← x0]; exact nwA_s (z := 128) (by omega) (by omega)
  have w1 : nwA s1 20 (nI 128) = some (b + 2, newA s1 20 128) := by rw [← x1]; exact nwA_s (z := 128) (by omega) (by omega)
  have w2 : nwA s2 20 (nI 128) = some (b + 3, newA s2 20 128) := by rw [← x2]; exact nwA_s (z := 128) (by omega) (by omega)
  have w3 : nwA s3 20 (nI 8) = some (b + 4, newA s3 20 8) := by rw [← x3]; exact nwA_s (z := 8) (by omega) (by omega)
  have w4 : nwA s4 20 (nI 8) = some (b + 5, newA s4 20 8) := by rw [← x4]; exact nwA_s (z := 8) (by omega) (by omega)
  have w5 : nwA s5 20 (nI 512) = some (b + 6, newA s5 20 512) := by rw [← x5]; exact nwA_s (z := 512) (by omega) (by omega)
  have hfill : f_Arrays_fill1 s6 (b + 5) (nI 8) = some s7 := by
    unfold f_Arrays_fill1
    rw [t5, n5, if_pos (by decide)]
    exact f1
  refine ⟨s7, ?_, ⟨⟨?_, ?_, ?_, ?_, ?_, ?_, ?_⟩, ?_, ?_, ?_, ?_, ?_, ?_⟩, ⟨fun q hq _ => ?_, ?_⟩, ?_, ?_⟩
  · rw [← e0, ← hb]
    unfold f_Pages_init
    rw [if_pos (show ¬ b = 0 by omega)]
    simp only [w0, Option.bind_some, if_pos k1, ← e1, w1, if_pos k2, ← e2, w2, if_pos k3, ← e3, w3, if_pos k4, ← e4, w4, if_pos k5, ← e5, w5, if_pos k6, ← e6, r5, hfill]
  · rw [f3.1.2.1, ← hb, T, if_neg (by omega), if_neg (by omega), if_neg (by omega), if_neg (by omega), if_neg (by omega), if_neg (by omega), if_pos rfl]
  · rw [f3.1.2.1, f3.1.2.2.1, f3.1.1, ← hb]
    exact ⟨by rw [R]; rfl, by rw [T, if_neg (by omega), if_neg (by omega), if_neg (by omega), if_neg (by omega), if_neg (by omega), if_pos rfl], by rw [N, if_neg (by omega), if_neg (by omega), if_neg (by omega), if_neg (by omega), if_neg (by omega), if_pos rfl]⟩
  · rw [f3.1.2.1, f3.1.2.2.1, f3.1.1, ← hb]
    exact ⟨by rw [R]; rfl, by rw [T, if_neg (by omega), if_neg (by omega), if_neg (by omega), if_neg (by omega), if_pos rfl], by rw [N, if_neg (by omega), if_neg (by omega), if_neg (by omega), if_neg (by omega), if_pos rfl]⟩
  · rw [f3.1.2.1, f3.1.2.2.1, f3.1.1, ← hb]
    exact ⟨by rw [R]; rfl, by rw [T, if_neg (by omega), if_neg (by omega), if_neg (by omega), if_pos rfl], by rw [N, if_neg (by omega), if_neg (by omega), if_neg (by omega), if_pos rfl]⟩
  · rw [f3.1.2.1, f3.1.2.2.1, f3.1.1, ← hb]
    exact ⟨by rw [R]; rfl, by rw [T, if_neg (by omega), if_neg (by omega), if_pos rfl], by rw [N, if_neg (by omega), if_neg (by omega), if_pos rfl]⟩
  · rw [f3.1.2.1, f3.1.2.2.1, f3.1.1, ← hb]
    exact ⟨by rw [R]; rfl, by rw [T, if_neg (by omega), if_pos rfl], by rw [N, if_neg (by omega), if_pos rfl]⟩
  · rw [f3.1.2.1, f3.1.2.2.1, f3.1.1, ← hb]
    exact ⟨by rw [R]; rfl, by rw [T, if_pos rfl], by rw [N, if_pos rfl]⟩
  · intro z hz
    rw [← hb, (f3.2 (b + 1) (by omega)).1, I, if_neg (by omega), if_neg (by omega), if_neg (by omega), if_neg (by omega), if_neg (by omega), if_pos rfl]
    rfl
  · intro z hz
    rw [← hb, (f3.2 (b + 2) (by omega)).1, I, if_neg (by omega), if_neg (by omega), if_neg (by omega), if_neg (by omega), if_pos rfl]
    rfl
  · intro z hz
    rw [← hb, (f3.2 (b + 3) (by omega)).1, I, if_neg (by omega), if_neg (by omega), if_neg (by omega), if_pos rfl]
    rfl
  · intro z hz
    rw [← hb, (f3.2 (b + 4) (by omega)).1, I, if_neg (by omega), if_neg (by omega), if_pos rfl]
    rfl
  · intro z hz
    rw [← hb]
    exact f2 z hz.1 hz.2
  · intro z hz
    rw [← hb, (f3.2 (b + 6) (by omega)).1, I, if_pos rfl]
    rfl
  · exact (g0.1 q hq (fun d => d)).tr ((gg.1 q (by omega) (by omega)).tr (f3.eqA (by omega)))
  · rw [show sX s7 = sX s6 from f3.1.2.2.2.1, x6]; omega
  · rw [show sX s7 = sX s6 from f3.1.2.2.2.1, x6, hb]
  · rw [show sZ s7 = sZ s6 from f3.1.2.2.2.2, e6, setR_Z, sZ_new, e5, setR_Z, sZ_new, e4, setR_Z, sZ_new, e3, setR_Z, sZ_new, e2, setR_Z, sZ_new, e1, setR_Z, sZ_new, e0, sZ_new]
