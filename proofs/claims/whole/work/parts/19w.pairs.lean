/-! PAIRS: image, back on the class -/
def imS (IM : Nat → IMG) (k : Nat) (x : ST1 × PG) : Nat → IMG := fun j => if j = k then some x else IM j
theorem imS_eq (IM : Nat → IMG) (k : Nat) (x : ST1 × PG) : imS IM k x k = some x := if_pos rfl
theorem imS_ne {IM : Nat → IMG} {k j : Nat} {x : ST1 × PG} (h : j ≠ k) : imS IM k x j = IM j := if_neg h
def qIn (q : Nat → Nat) (k x : Nat) : Nat → Nat := fun j => if j = k then x else q j
theorem qIn_eq (q : Nat → Nat) (k x : Nat) : qIn q k x k = x := if_pos rfl
theorem qIn_ne {q : Nat → Nat} {k x j : Nat} (h : j ≠ k) : qIn q k x j = q j := if_neg h
theorem ImO.eq2 {s s' : AS} {q : Nat} {im : IMG} {DI DL : Nat → Prop} (h : ImO s q im DI DL) (e : q ≠ 0 → ∀ i, i ≤ 10 → EqA s s' (q + i)) (eL : ∀ x, DL x → EqA s s' x) : ImO s' q im DI DL := by
  cases im with
  | none => exact h
  | some x =>
    obtain ⟨se, P⟩ := x
    obtain ⟨h0, h1, h2, h3, h4⟩ := h
    have e := e (by omega)
    have e0 := e 0 (by omega)
    rw [Nat.add_zero] at e0
    refine ⟨h0, ⟨by rw [e0.1]; exact h1.1, by rw [e0.2.2.1]; exact h1.2.1, by rw [e0.2.2.1]; exact h1.2.2⟩, h2.eq (fun i hi => by have := e (1 + i) (by omega); rw [← Nat.add_assoc] at this; exact this), h3.eq (fun i hi => by have := e (8 + i) (by omega); rw [← Nat.add_assoc] at this; exact this) eL, h4⟩
theorem DyO.im {s s' : AS} {D : DYN} {IM : Nat → IMG} {cn k : Nat} {x : ST1 × PG} (h : DyO s D IM cn) (hk : k < 2) (hn : IM k = none) (eX : sX s' = sX s + 11) (eZ : sZ s' = sZ s + 933) : DyO s' (D.1, (D.2.1.1, fun q => D.2.1.2 q ∨ (sX s ≤ q ∧ q < sX s')), D.2.2) (imS IM k x) cn := by
  obtain ⟨h1, h2, h3, h4, h5, h6, h7, h8, h9⟩ := h
  refine ⟨fun q hq => ?_, fun q hq => ?_, fun q hq => ?_, fun q hq => ?_, h5, by omega, ?_, ?_, h9⟩
  · rcases hq with d | d | d | d | d
    · have := h1 q (Or.inl d); omega
    · have := h1 q (Or.inr (Or.inl d)); omega
    · have := h1 q (Or.inr (Or.inr (Or.inl d))); omega
    · have := h1 q (Or.inr (Or.inr (Or.inr d))); omega
    · omega
  · have := h1 q (Or.inl hq)
    exact ⟨(h2 q hq).1, (h2 q hq).2.1, fun d => d.elim (h2 q hq).2.2 (fun e => by omega)⟩
  · have := h1 q (Or.inr (Or.inl hq))
    exact ⟨(h3 q hq).1, fun d => d.elim (h3 q hq).2 (fun e => by omega)⟩
  · have := h1 q (Or.inr (Or.inr (Or.inl hq)))
    exact fun d => d.elim (h4 q hq) (fun e => by omega)
  · show sX s' + 7 * (32 - D.2.2.1 - D.2.2.2) + (if imS IM k x 0 = none then 11 else 0) + (if imS IM k x 1 = none then 11 else 0) ≤ 500 + 3 * cn
    have : k = 0 ∨ k = 1 := by omega
    rcases this with rfl | rfl
    · rw [imS_eq, imS_ne (show 1 ≠ 0 by decide), if_neg (by simp)]
      rw [hn, if_pos rfl] at h7
      omega
    · rw [imS_eq, imS_ne (show 0 ≠ 1 by decide), if_neg (show ¬ (some x : IMG) = none by simp)]
      rw [hn, if_pos (show (none : IMG) = none from rfl)] at h7
      omega
  · show sZ s' + 918 * (32 - D.2.2.1 - D.2.2.2) + (if imS IM k x 0 = none then 1000 else 0) + (if imS IM k x 1 = none then 1000 else 0) ≤ 200000 + 480 * cn
    have : k = 0 ∨ k = 1 := by omega
    rcases this with rfl | rfl
    · rw [imS_eq, imS_ne (show 1 ≠ 0 by decide), if_neg (by simp)]
      rw [hn, if_pos rfl] at h8
      omega
    · rw [imS_eq, imS_ne (show 0 ≠ 1 by decide), if_neg (show ¬ (some x : IMG) = none by simp)]
      rw [hn, if_pos (show (none : IMG) = none from rfl)] at h8
      omega
theorem DyO.ims {s s' : AS} {D : DYN} {IM : Nat → IMG} {cn k : Nat} {x y : ST1 × PG} (h : DyO s D IM cn) (hn : IM k = some y) (eX : sX s' = sX s) (eZ : sZ s' = sZ s) : DyO s' D (imS IM k x) cn := by
  have e : ∀ j, (imS IM k x j = none) = (IM j = none) := fun j => by
    by_cases c : j = k
    · rw [c, imS_eq, hn]; simp
    · rw [imS_ne c]
  obtain ⟨h1, h2, h3, h4, h5, h6, h7, h8, h9⟩ := h
  refine ⟨by rw [eX]; exact h1, h2, h3, h4, h5, by omega, ?_, ?_, h9⟩
  · simp only [e, eX]; exact h7
  · simp only [e, eZ]; exact h8
section IMC
variable {s : AS} {D : DYN} {tp : (Int → Int) × Int} {se : ST1} {P : PG} {LG : LGS} {IM : Nat → IMG} {ms : Int → Int} {vw : (Int → Int) × Int} {dr : DRW} {cn k : Nat}
theorem RepD.dy (h : RepD s D tp se P LG IM ms vw dr cn) : DyO s D IM cn := h.2.2.2.2.2.2.2.2.2.2.2.2.2.2.2.2.2
theorem RepD.im (h : RepD s D tp se P LG IM ms vw dr cn) : ImC s IM D.2.1.2 D.2.1.1 := h.2.2.2.2.2.2.2.2.2.2.2.2.2.2.1
theorem RepD.sx (h : RepD s D tp se P LG IM ms vw dr cn) : 106 ≤ sX s ∧ sX s ≤ 2300 := by
  obtain ⟨h1, h2, h3, h4, h5, h6, h7, h8, h9⟩ := h.dy
  omega
theorem GrM.of {s s' : AS} {F : Nat → Prop} (g : Gr F s s') (h1 : 106 ≤ sX s) (hF : ∀ q, F q → (q < 78) ∨ (106 ≤ q ∧ q < 900000)) : GrM s s' := fun q hq => g.1 q (by rcases hq with e | e; exact Or.inl (by have := e.2; omega); exact Or.inr e) (fun d => by
  have := hF q d
  rcases hq with e | e
  · have := e.1; have := e.2; omega
  · omega)
/-- a bare image is made -/
theorem c_mkIm (h : RepD s D tp se P LG IM ms vw dr cn) (hk : k < 2) (hn : IM k = none) : ∃ s1 D', f_Image_init (newA s 4 2) (sX s) = some s1 ∧ (sT s1 75 = 43 ∧ sN s1 75 = 2 ∧ sT s1 (sX s) = 4) ∧ RepD (setR s1 75 k (sX s)) D' tp se P LG (imS IM k (bareSe, bareP)) ms vw dr cn ∧ GrM s (setR s1 75 k (sX s)) := by
  have hsx := h.sx
  have hdy := h.dy
  obtain ⟨s1, q1, q2, q3, q4, q5, q6, q7⟩ := s_newImage (s := s) (DL := D.2.1.1) (by omega) (by omega)
  have e75 : EqA s s1 75 := q5.1 75 (Or.inl (by omega)) (fun d => d)
  obtain ⟨⟨m1, m2⟩, q, m3, m4⟩ := h.im
  have g : Gr (fun q => (q = 75) ∨ D.2.1.2 q) s (setR s1 75 k (sX s)) := (q5.mo (fun q hq => hq.elim)).tr ((gr_setR (F := fun q => (q = 75) ∨ D.2.1.2 q) (Or.inl rfl)))
  have ne : ∀ q, q ≠ 75 → EqA s1 (setR s1 75 k (sX s)) q := fun q hq => eqA_setR hq
  have eL : ∀ x, D.2.1.1 x → EqA s (setR s1 75 k (sX s)) x := fun x hx => by
    have := hdy.1 x (Or.inr (Or.inr (Or.inl hx)))
    exact (q5.1 x (Or.inl (by omega)) (fun d => d)).tr (ne x (by omega))
  have him : ImC (setR s1 75 k (sX s)) (imS IM k (bareSe, bareP)) (fun q => D.2.1.2 q ∨ (sX s ≤ q ∧ q < sX (setR s1 75 k (sX s)))) D.2.1.1 := by
    refine ⟨⟨by show sT s1 75 = 43; rw [e75.1]; exact m1, by show sN s1 75 = 2; rw [e75.2.1]; exact m2⟩, qIn q k (sX s), fun j hj => ?_, ?_⟩
    · by_cases c : j = k
      · rw [c, imS_eq, qIn_eq, sR_setR, if_pos ⟨rfl, rfl⟩]
        have n0 : sX s ≠ 75 := by omega
        refine ⟨rfl, by omega, ⟨?_, ?_, ?_⟩, q3.eq (fun i hi => ne _ (by omega)), q4.eq (fun i hi => ne _ (by omega)) (fun x hx => ne x (by have := hdy.1 x (Or.inr (Or.inr (Or.inl hx))); omega)), fun i hi => Or.inr ⟨by omega, by show sX s + i < sX s1; omega⟩⟩
        · exact q2.1
        · rw [sR_setR, if_neg (fun d => n0 d.1)]; exact q2.2.1
        · rw [sR_setR, if_neg (fun d => n0 d.1)]; exact q2.2.2
      · rw [imS_ne c, qIn_ne c, sR_setR, if_neg (fun d => c d.2), e75.2.2.1]
        obtain ⟨n1, n2⟩ := m3 j hj
        refine ⟨n1, (n2.eq2 (fun hq i hi => ?_) eL).mo (fun x hx => Or.inl hx) (fun x hx => hx)⟩
        have hDI : D.2.1.2 (q j + i) := by
          cases hx : IM j with
          | none => rw [hx] at n2; exact absurd n2 hq
          | some x => rw [hx] at n2; exact n2.2.2.2.2 i hi
        have := hdy.1 _ (Or.inr (Or.inr (Or.inr hDI)))
        exact (q5.1 _ (Or.inl (by omega)) (fun d => d)).tr (ne _ (by omega))
    · intro a0 a1
      have hlt : ∀ j, j < 2 → j ≠ k → q j ≠ 0 → q j + 10 < sX s := fun j hj hjk hq => by
        obtain ⟨n1, n2⟩ := m3 j hj
        have hDI : D.2.1.2 (q j + 10) := by
          cases hx : IM j with
          | none => rw [hx] at n2; exact absurd n2 hq
          | some x => rw [hx] at n2; exact n2.2.2.2.2 10 (by omega)
        have := hdy.1 _ (Or.inr (Or.inr (Or.inr hDI)))
        omega
      have : k = 0 ∨ k = 1 := by omega
      rcases this with rfl | rfl
      · rw [qIn_eq] at a0 ⊢
        rw [qIn_ne (by decide)] at a1 ⊢
        exact Or.inr (hlt 1 (by decide) (by decide) a1)
      · rw [qIn_ne (by decide)] at a0 ⊢
        rw [qIn_eq] at a1 ⊢
        exact Or.inl (hlt 0 (by decide) (by decide) a0)
  refine ⟨s1, _, q1, ⟨by rw [e75.1]; exact m1, by rw [e75.2.1]; exact m2, q2.1⟩, h.g_im g him (hdy.im hk hn q6 q7), GrM.of g (by omega) (fun q hq => ?_)⟩
  rcases hq with d | d
  · exact Or.inl (by omega)
  · have := hdy.1 q (Or.inr (Or.inr (Or.inr d)))
    exact Or.inr (by omega)
theorem c_im37 (h : RepD s D tp se P LG IM ms vw dr cn) (hw : WfT se) (hk : k < 2) {x : ST1 × PG} (hx : IM k = some x) : CO s (b_C_image_37 1 (v k) s) 0 tp se P LG (imS IM k (se, P)) (msT ms) vw dr cn := by
  have hsx := h.sx
  have hdy := h.dy
  obtain ⟨o1, o2, o3, o4, o5⟩ := h.lv
  obtain ⟨⟨m1, m2⟩, q, m3, m4⟩ := h.im
  obtain ⟨n1, n2⟩ := m3 k hk
  rw [hx] at n2
  obtain ⟨y1, y2, y3, y4, y5⟩ := n2
  have yb : ∀ i, i ≤ 10 → 106 ≤ q k + i ∧ q k + i < sX s := fun i hi => hdy.1 _ (Or.inr (Or.inr (Or.inr (y5 i hi))))
  have yb0 := yb 0 (by omega)
  obtain ⟨s1, p1, p2, p3⟩ := s_takeFrom y3.1 o5 (by omega)
  have E1 : ∀ z, ¬ inP (q k + 1) z → EqA s s1 z := fun z hz => p3.eqA hz
  have hDL : ∀ z, D.2.1.1 z → ¬ (q k ≤ z ∧ z ≤ q k + 10) := fun z hz hc => by
    have := y5 (z - q k) (by omega)
    rw [show q k + (z - q k) = z by omega] at this
    exact hdy.2.2.2.1 z hz this
  have hst : SetC s1 18 se D.2.1.1 := h.2.2.2.2.2.2.2.1.eq (fun i hi => E1 _ (fun c => by have := c.1; omega)) (fun z hz => E1 z (fun c => hDL z hz ⟨by have := c.1; omega, by have := c.2; omega⟩))
  have hst2 : SetC s1 (q k + 8) x.1 D.2.1.1 := y4.eq (fun i hi => E1 _ (fun c => by have := c.2; omega)) (fun z hz => E1 z (fun c => hDL z hz ⟨by have := c.1; omega, by have := c.2; omega⟩))
  obtain ⟨s2, r1, r2, r3, r4, r5⟩ := s_stTake hst2 hst hw.2.1 (by omega) (fun z hz hc => hDL z hz (by omega))
  have g : Gr (fun z => (z = 75) ∨ D.2.1.2 z) s s2 := by
    refine ⟨fun z hz hF => ?_, by rw [r4, p3.1.2.2.2.1]; exact Nat.le_refl _⟩
    have hne : ¬ (q k ≤ z ∧ z ≤ q k + 10) := fun hc => hF (Or.inr (by have := y5 (z - q k) (by omega); rw [show q k + (z - q k) = z by omega] at this; exact this))
    exact (E1 z (fun c => hne ⟨by have := c.1; omega, by have := c.2; omega⟩)).tr (r3 z (fun c => hne (by omega)))
  have E2 : ∀ z, ¬ (q k ≤ z ∧ z ≤ q k + 10) → EqA s s2 z := fun z hne => (E1 z (fun c => hne ⟨by have := c.1; omega, by have := c.2; omega⟩)).tr (r3 z (fun c => hne (by omega)))
  have e75 := E2 75 (by omega)
  have e00 : EqA s s2 (q k) := (E1 _ (fun c => by have := c.1; omega)).tr (r3 _ (by omega))
  have him : ImC s2 (imS IM k (se, P)) D.2.1.2 D.2.1.1 := by
    refine ⟨⟨by rw [e75.1]; exact m1, by rw [e75.2.1]; exact m2⟩, q, fun j hj => ?_, m4⟩
    rw [e75.2.2.1]
    refine ⟨(m3 j hj).1, ?_⟩
    by_cases c : j = k
    · rw [c, imS_eq]
      refine ⟨y1, ⟨by rw [e00.1]; exact y2.1, by rw [e00.2.2.1]; exact y2.2.1, by rw [e00.2.2.1]; exact y2.2.2⟩, p2.eq (fun i hi => r3 _ (by omega)), r2, y5⟩
    · rw [imS_ne c]
      have sep : q j ≠ 0 → q j + 10 < q k ∨ q k + 10 < q j := fun hq => by
        have : (j = 0 ∧ k = 1) ∨ (j = 1 ∧ k = 0) := by omega
        rcases this with ⟨rfl, rfl⟩ | ⟨rfl, rfl⟩
        · exact m4 hq (by omega)
        · exact (m4 (by omega) hq).symm
      exact (m3 j hj).2.eq2 (fun hq i hi => E2 _ (by have := sep hq; omega)) (fun z hz => E2 z (hDL z hz))
  have h2 := h.g_im (DI' := D.2.1.2) g him (hdy.ims hx (by rw [r4, p3.1.2.2.2.1]) (by rw [r5, p3.1.2.2.2.2]))
  have gm : GrM s s2 := GrM.of g (by omega) (fun z hz => by
    rcases hz with d | d
    · exact Or.inl (by omega)
    · have := hdy.1 z (Or.inr (Or.inr (Or.inr d)))
      exact Or.inr (by omega))
  have hkv : (v (k : Int)).toNatClampNeg = k := by rw [v_ix (by omega)]; omega
  have e1 := E1 1 (fun c => by have := c.1; omega)
  have e175 := E1 75 (fun c => by have := c.1; omega)
  have e1q := E1 (q k) (fun c => by have := c.1; omega)
  have hob : sR s 1 11 = 75 := h.1.2.2.2.2.2.1
  unfold b_C_image_37
  rw [if_pos o1, hob, m1, m2, if_pos ⟨by decide, v_inA (by omega) (by omega)⟩, show sR s 75 (v (k : Int)).toNatClampNeg = q k by rw [hkv]; exact n1, if_pos y2.1, o2, if_pos o3, y2.2.1, if_pos y3.1.1, o4, p1, Option.bind_some, e1.1, if_pos o1, e1.2.2.1, hob, e175.1, e175.2.1, m1, m2, if_pos ⟨by decide, v_inA (by omega) (by omega)⟩, e175.2.2.1, show sR s 75 (v (k : Int)).toNatClampNeg = q k by rw [hkv]; exact n1, e1q.1, if_pos y2.1, e1q.2.2.1, y2.2.2, if_pos hst2.is.1, h.st18.1, r1, Option.bind_some, if_pos h2.1.1, nv0]
  exact CO.told h2 gm
theorem c_image (h : RepD s D tp se P LG IM ms vw dr cn) (hw : WfT se) {a : Int} (ha : r32 a) : CO s (f_C_image s 1 (v a)) (if 0 ≤ a ∧ a ≤ 1 then 0 else -1) tp se P LG (if 0 ≤ a ∧ a ≤ 1 then imS IM a.toNat (se, P) else IM) (tl ms (if 0 ≤ a ∧ a ≤ 1 then 0 else -1)) vw dr cn := by
  obtain ⟨o1, o2, o3, o4, o5⟩ := h.lv
  have h9 : CO s (b_C_image_9 1 s) (-1) tp se P LG IM (tl ms (-1)) vw dr cn := by
    unfold b_C_image_9
    rw [if_pos o1, nv1, v_neg]
    exact CO.refu h (GrM.rf s) (by decide)
  have hsx := h.sx
  have hob : sR s 1 11 = 75 := h.1.2.2.2.2.2.1
  unfold f_C_image
  rw [nv0, nv2]
  by_cases c : a < 0
  · rw [if_pos (plt (by omega)), if_neg (by omega), if_neg (by omega)]
    exact h9
  rw [if_neg (nlt (by omega))]
  by_cases c2 : a < 2
  · obtain ⟨k, hk, rfl⟩ : ∃ k : Nat, k < 2 ∧ a = k := ⟨a.toNat, by omega, by omega⟩
    obtain ⟨⟨m1, m2⟩, q, m3, m4⟩ := h.im
    obtain ⟨n1, n2⟩ := m3 k hk
    have hkv : (v (k : Int)).toNatClampNeg = k := by rw [v_ix (by omega)]; omega
    rw [if_pos (plt (by omega)), if_pos o1, hob, m1, m2, if_pos (show 40 ≤ 43 ∧ inA (v (k : Int)) 2 from ⟨by decide, v_inA (by omega) (by omega)⟩), show sR s 75 (v (k : Int)).toNatClampNeg = q k by rw [hkv]; exact n1, if_pos (show 0 ≤ (k : Int) ∧ (k : Int) ≤ 1 by omega), if_pos (show 0 ≤ (k : Int) ∧ (k : Int) ≤ 1 by omega), show ((k : Nat) : Int).toNat = k by omega, tl_0 (Int.le_refl 0)]
    cases hx : IM k with
    | none =>
      rw [hx] at n2
      have n2' : q k = 0 := n2
      obtain ⟨s1, D', w1, w2, w3, w4⟩ := c_mkIm h hk hx
      rw [if_pos n2', nwO_s (by omega), Option.bind_some]
      show CO s (if ¬ sX s = 0 then (f_Image_init (newA s 4 2) (sX s)).bind _ else none) _ _ _ _ _ _ _ _ _ _
      rw [if_pos (by omega), w1, Option.bind_some]
      show CO s (if (40 ≤ sT s1 75 ∧ inA (v (k : Int)) (sN s1 75)) ∧ (sX s = 0 ∨ sT s1 (sX s) + 39 = sT s1 75) then _ else none) _ _ _ _ _ _ _ _ _ _
      rw [w2.1, w2.2.1, w2.2.2, if_pos ⟨⟨by decide, v_inA (by omega) (by omega)⟩, Or.inr rfl⟩, hkv]
      obtain ⟨s', D2, z1, z2, z3⟩ := c_im37 w3 hw hk (imS_eq _ _ _)
      refine ⟨s', D2, z1, ?_, w4.tr z3⟩
      have : imS (imS IM k (bareSe, bareP)) k (se, P) = imS IM k (se, P) := by
        funext j
        by_cases c : j = k
        · rw [c, imS_eq, imS_eq]
        · rw [imS_ne c, imS_ne c, imS_ne c]
      rw [this] at z2
      exact z2
    | some x =>
      rw [hx] at n2
      rw [if_neg (by have := n2.1; omega)]
      exact c_im37 h hw hk hx
  · rw [if_neg (nlt (by omega)), if_neg (by omega), if_neg (by omega)]
    exact h9
end IMC
