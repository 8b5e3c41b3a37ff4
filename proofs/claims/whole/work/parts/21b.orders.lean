/-! ORDERS, on the class: what is kept while they run -/
theorem DyO.frs {s s' : AS} {D : DYN} {IM : Nat → IMG} {cn k2' : Nat} {D2' : Nat → Prop} (h : DyO s D IM cn) (hD2 : ∀ q, D2' q → D.1.2 q ∨ (sX s ≤ q ∧ q < sX s')) (hk : D.2.2.2 ≤ k2' ∧ k2' ≤ 16) (eX : sX s' = sX s + 7 * (k2' - D.2.2.2)) (eZ : sZ s' = sZ s + 918 * (k2' - D.2.2.2)) : DyO s' ((D.1.1, D2'), D.2.1, D.2.2.1, k2') IM cn := by
  obtain ⟨h1, h2, h3, h4, h5, h6, h7, h8, h9⟩ := h
  refine ⟨fun q hq => ?_, fun q hq => ?_, fun q hq => ?_, h4, ⟨h5.1, hk.2⟩, by omega, ?_, ?_, h9⟩
  · rcases hq with d | d | d
    · have := h1 q (Or.inl d); omega
    · rcases hD2 q d with e | e
      · have := h1 q (Or.inr (Or.inl e)); omega
      · omega
    · have := h1 q (Or.inr (Or.inr d)); omega
  · have := h1 q (Or.inl hq)
    exact ⟨fun d => (hD2 q d).elim (h2 q hq).1 (fun e => by omega), (h2 q hq).2⟩
  · rcases hD2 q hq with e | e
    · exact h3 q e
    · exact ⟨fun d => by have := (h1 q (Or.inr (Or.inr (Or.inl d)))).2; omega, fun d => by have := (h1 q (Or.inr (Or.inr (Or.inr d)))).2; omega⟩
  · show sX s' + 7 * (32 - D.2.2.1 - k2') + _ + _ ≤ _
    omega
  · show sZ s' + 918 * (32 - D.2.2.1 - k2') + _ + _ ≤ _
    omega
/-- the text that was read -/
def OtC (s : AS) (CL : List CLS) : Prop := ∃ (cd mk : Int → Int) (len : Int), TxR s 9 400 72 cd mk len CL.length ∧ len ≤ 400 ∧ TxS cd mk len CL.length (TXof CL)
def OrX (s : AS) (D : DYN) (CL : List CLS) (P0 : PG) (X : LGS) (dn lt : Int) : Prop := LogC s 61 D.1.2 D.2.2.2 (las X) ∧ PgR s 64 P0 ∧ (sI s 60 5 = v dn ∧ sI s 60 6 = v lt) ∧ OtC s CL
section ORC
variable {s s' s0 : AS} {D : DYN} {tp : (Int → Int) × Int} {se : ST1} {P P0 P' Bf : PG} {LG : LGS} {IM : Nat → IMG} {ms : Int → Int} {vw : (Int → Int) × Int} {dr : DRW} {cn : Nat} {CL : List CLS} {X : LGS} {dn lt d kind : Int} {S : OST} {W : Int → Int} {x : CLS} {c : Nat}
theorem OtC.eq (h : OtC s CL) (e : ∀ i, i ≤ 2 → EqA s s' (9 + i)) : OtC s' CL := by
  obtain ⟨cd, mk, len, h1, h2⟩ := h
  exact ⟨cd, mk, len, h1.eq e, h2⟩
theorem OrX.eq (h : OrX s D CL P0 X dn lt) (e : ∀ q, (9 ≤ q ∧ q ≤ 11) ∨ (60 ≤ q ∧ q ≤ 70) ∨ D.1.2 q → EqA s s' q) : OrX s' D CL P0 X dn lt := by
  obtain ⟨h1, h2, h3, h4⟩ := h
  exact ⟨h1.eq (fun i hi => e _ (by omega)) (fun q hq => e q (Or.inr (Or.inr hq))), h2.eq (fun i hi => e _ (by omega)), by rw [(e 60 (by omega)).2.2.2.1]; exact h3, h4.eq (fun i hi => e _ (by omega))⟩
theorem RepD.d12 (h : RepD s D tp se P LG IM ms vw dr cn) : ∀ q, D.1.2 q → 106 ≤ q ∧ q < sX s := fun q hq => h.dy.1 q (Or.inr (Or.inl hq))
theorem OrX.fr {F : Nat → Prop} (h : OrX s D CL P0 X dn lt) (hR : RepD s D tp se P LG IM ms vw dr cn) (hf : Fr F s s') (hF : ∀ q, F q → q < 9 ∨ (12 ≤ q ∧ q < 60) ∨ (71 ≤ q ∧ q < 106)) : OrX s' D CL P0 X dn lt :=
  h.eq (fun q hq => hf.eqA (fun d => by
    have a := hF q d
    rcases hq with e | e | e
    · omega
    · omega
    · have := hR.d12 q e; omega))
theorem RepD.rn (h : RepD s D tp se P LG IM ms vw dr cn) : sR s 1 9 = 60 ∧ RnC s := ⟨h.1.2.2.2.1, h.2.2.2.2.2.2.2.2.2.2.2.2.1⟩
theorem RepD.mc (h : RepD s D tp se P LG IM ms vw dr cn) : sR s 1 4 = 15 ∧ IsMc s 15 := ⟨h.1.2.1.2.2.2.2.1, h.2.2.2.2.2.2.1.1⟩
theorem c_pushF (h : RepD s D tp se P LG IM ms vw dr cn) (hx : OrX s D CL P0 X dn lt) (hb : PgR s 29 Bf) : ∃ s' D', f_Log_push s 61 (v kind) 29 = some s' ∧ RepD s' D' tp se P LG IM ms vw dr cn ∧ OrX s' D' CL P0 (X ++ [(kind, Bf)]) dn lt ∧ GrM s s' := by
  have hdy := h.dy
  have hsx := h.sx
  obtain ⟨x1, x2, x3, x4⟩ := hx
  have hd : ∀ q, D.1.2 q → 106 ≤ q ∧ q < sX s := h.d12
  obtain ⟨s', k', q1, q2, q3, q4⟩ := s_push (kind := kind) x1 (las_len _) (fun q hq => by have := hd q hq; omega) (by omega) (by omega) hb (fun j hj => ⟨⟨fun e => by have := hd _ e; omega, by omega⟩, by omega⟩)
  have hk16 : k' ≤ 16 := by obtain ⟨Lr, -, -, e, -⟩ := q2; exact e.2
  have e1 : pushL (las X) (kind, Bf) = las (X ++ [(kind, Bf)]) := by rw [las_push (las_len X), las_app]
  rw [e1] at q2
  have hdf := hdy.frs (s' := s') (k2' := k') (D2' := fun q => D.1.2 q ∨ (sX s ≤ q ∧ q < sX s')) (fun q hq => hq) (by omega) (by omega) (by omega)
  have g : Gr (fun q => (61 ≤ q ∧ q ≤ 63) ∨ D.1.2 q) s s' := q3.mo (fun q hq => hq)
  have eq : ∀ q, q < 106 → ¬ (61 ≤ q ∧ q ≤ 63) → EqA s s' q := fun q hq hn => g.1 q (Or.inl (by omega)) (fun d => d.elim hn (fun e => by have := hd q e; omega))
  refine ⟨s', _, q1, h.g_fr g ⟨_, q2, las_len _⟩ hdf, ⟨q2, x2.eq (fun i hi => eq _ (by omega) (by omega)), by rw [(eq 60 (by omega) (by omega)).2.2.2.1]; exact x3, x4.eq (fun i hi => eq _ (by omega) (by omega))⟩, GrM.of g (by omega) (fun q hq => ?_)⟩
  rcases hq with d | d
  · exact Or.inl (by omega)
  · have := hd q d
    exact Or.inr (by omega)
theorem c_fillL (hB : PgB P) (h22 : PgR s0 22 P) (d1 : sT s0 21 = 3 ∧ sR s0 21 2 = 22) (d2 : sT s0 60 = 10 ∧ sR s0 60 0 = 21 ∧ sR s0 60 1 = 15) (hm : IsMc s0 15) (hW : ∀ p, 0 ≤ p → p < 8 → W (4 + p) = freeP P p ∧ W (12 + p) = P 4 p) : ∀ (k N : Nat) (i : Int) (x : AS), i + k = 8 → 0 ≤ i → k < N → Fr (fun q => q = 16) s0 x → (∀ z, (0 ≤ z ∧ z < 4 + i) ∨ (12 ≤ z ∧ z < 12 + i) → sL x 16 z.toNat = w (W z)) → ∃ x', l_Runner_fillWords_72 N 60 (v i) x = some x' ∧ Fr (fun q => q = 16) s0 x' ∧ WdR x' 15 W := by
  have m1 : sT s0 15 = 6 := hm.1
  have m2 : sR s0 15 0 = 16 ∧ sT s0 16 = 21 ∧ sN s0 16 = 20 := hm.2.1
  have e27 : sR s0 22 4 = 27 ∧ sT s0 27 = 20 ∧ sN s0 27 = 8 := h22.1.2.2.2.2.2.1
  have e22 : sT s0 22 = 7 := h22.1.1
  intro k
  induction k with
  | zero =>
    intro N i x hi h0 hN hf hz
    obtain ⟨N, rfl⟩ : ∃ m, N = m + 1 := ⟨N - 1, by omega⟩
    refine ⟨x, ?_, hf, fun z hz' => hz z (by omega)⟩
    show b_Runner_fillWords_72 _ _ _ _ = _
    unfold b_Runner_fillWords_72
    rw [nv8, if_neg (nlt (by omega))]
  | succ k ih =>
    intro N i x hi h0 hN hf hz
    obtain ⟨N, rfl⟩ : ∃ m, N = m + 1 := ⟨N - 1, by omega⟩
    have x22 : PgR x 22 P := h22.eq (fun j hj => hf.eqA (by omega))
    have px : sI x 27 i.toNat = v (P 4 i) := x22.2.2.2.2.2.1 i (by omega)
    have r1 := freeP_r hB i
    have r2 := hB.2 i
    obtain ⟨w1, w2⟩ := hW i h0 (by omega)
    have f1 : Fr (fun q => q = 16) x (setJ (setJ x 16 (4 + i).toNat (w (freeP P i))) 16 (12 + i).toNat (w (P 4 i))) := (Fr.sj (F := fun q => q = 16) rfl).tr (Fr.sj rfl)
    obtain ⟨x', q1, q2, q3⟩ := ih N (i + 1) _ (by omega) (by omega) (by omega) (hf.tr f1) (fun z hz' => by
      rw [sL_setJ]
      by_cases e : z = 12 + i
      · rw [if_pos ⟨rfl, by rw [e]⟩, e, w2]
      rw [if_neg (by omega), sL_setJ]
      by_cases e2 : z = 4 + i
      · rw [if_pos ⟨rfl, by rw [e2]⟩, e2, w1]
      rw [if_neg (by omega)]
      exact hz z (by omega))
    refine ⟨x', ?_, q2, q3⟩
    show b_Runner_fillWords_72 _ _ _ _ = _
    unfold b_Runner_fillWords_72
    rw [hf.1.1, hf.1.2.1, hf.1.2.2.1, nv8, nv4, nv12, nv1, if_pos (plt (by omega)), if_pos d2.1, d2.2.2, if_pos m1, d2.2.1, if_pos d1.1, d1.2, if_pos e22, s_freeOf x22 hB (by omega), Option.bind_some, m2.1, m2.2.1, m2.2.2, v_add, v_add, v_add, if_pos ⟨rfl, v_inA (by omega) (by omega)⟩, e27.1, e27.2.1, e27.2.2, if_pos ⟨rfl, v_inA (by omega) (by omega)⟩, if_pos ⟨rfl, v_inA (by omega) (by omega)⟩, v_ix (by omega), v_ix (by omega), v_ix (by omega), px, v_w (by omega), v_w (by omega)]
    exact q1
theorem c_fill (h : RepD s D tp se S.1 LG IM ms vw dr cn) (hw : WfT se) (hS : WfO d S) (hd : d ≤ 1000) (h5 : sI s 60 5 = v S.2.2.1 ∧ sI s 60 6 = v S.2.2.2) : ∃ s', f_Runner_fillWords s 60 = some s' ∧ Fr (fun q => q = 16) s s' ∧ WdR s' 15 (ordW se S) := by
  obtain ⟨o1, o2, o3, o4, o5⟩ := h.lv
  obtain ⟨r1, ⟨r2, r3, r4, r5, r6⟩, r7⟩ := h.rn.2
  have hB := hS.1.1.1.1.1
  have hm := h.mc.2
  have m1 : sT s 15 = 6 := hm.1
  have m2 : sR s 15 0 = 16 ∧ sT s 16 = 21 ∧ sN s 16 = 20 := hm.2.1
  obtain ⟨a1, L, l1, ⟨l2, l3, l4⟩, -, l5, -⟩ := h.st18
  have s0 : sR s 21 0 = 18 := h.2.2.2.2.2.2.2.2.1.1.2.1.1
  have c0 := hw.1.2.2.2 0
  have c1 := hS.2.2.1
  have c2 := hS.2.2.2
  have c3 := count_r S.1
  obtain ⟨y3, e3⟩ : ∃ y, y = setJ (setJ (setJ s 16 (0 : Int).toNat (w (se.1 0))) 16 (1 : Int).toNat (w S.2.2.1)) 16 (2 : Int).toNat (w S.2.2.2) := ⟨_, rfl⟩
  have f3 : Fr (fun q => q = 16) s y3 := by rw [e3]; exact ((Fr.sj (F := fun q => q = 16) rfl).tr (Fr.sj rfl)).tr (Fr.sj rfl)
  have y22 : PgR y3 22 S.1 := o5.eq (fun j hj => f3.eqA (by omega))
  have f4 : Fr (fun q => q = 16) s (setJ y3 16 (3 : Int).toNat (w (countP S.1))) := f3.tr (Fr.sj rfl)
  obtain ⟨x', q1, q2, q3⟩ := c_fillL (W := ordW se S) hB o5 ⟨o3, o4⟩ ⟨r1, r2, r3⟩ hm (fun p p0 p1 => by
    unfold ordW
    show (if 4 + p = 0 then _ else if 4 + p = 1 then _ else if 4 + p = 2 then _ else if 4 + p = 3 then _ else if 4 + p < 12 then freeP S.1 (4 + p - 4) else _) = _ ∧ (if 12 + p = 0 then _ else if 12 + p = 1 then _ else if 12 + p = 2 then _ else if 12 + p = 3 then _ else if 12 + p < 12 then _ else S.1 4 (12 + p - 12)) = _
    rw [if_neg (by omega), if_neg (by omega), if_neg (by omega), if_neg (by omega), if_pos (by omega), if_neg (by omega), if_neg (by omega), if_neg (by omega), if_neg (by omega), if_neg (by omega), show 4 + p - 4 = p by omega, show 12 + p - 12 = p by omega]
    exact ⟨rfl, rfl⟩) 8 fuel 0 _ (by omega) (by omega) (by unfold fuel; omega) f4 (fun z hz => by
    rw [sL_setJ]
    by_cases z3 : z = 3
    · rw [if_pos ⟨rfl, by rw [z3]⟩, z3]; rfl
    rw [if_neg (by omega), e3, sL_setJ]
    by_cases z2 : z = 2
    · rw [if_pos ⟨rfl, by rw [z2]⟩, z2]; rfl
    rw [if_neg (by omega), sL_setJ]
    by_cases z1 : z = 1
    · rw [if_pos ⟨rfl, by rw [z1]⟩, z1]; rfl
    rw [if_neg (by omega), sL_setJ, if_pos ⟨rfl, by omega⟩, show z = 0 by omega]
    rfl)
  refine ⟨x', ?_, q2, q3⟩
  unfold f_Runner_fillWords
  rw [nv0, nv1, nv2, nv3, if_pos r1, r3, if_pos m1, r2, if_pos o3, s0, if_pos l1, l2, l3, l4, if_pos ⟨rfl, v_inA (by omega) (by omega)⟩, m2.1, m2.2.1, m2.2.2, if_pos ⟨rfl, v_inA (by omega) (by omega)⟩, if_pos ⟨rfl, v_inA (by omega) (by omega)⟩, if_pos ⟨rfl, v_inA (by omega) (by omega)⟩, o4, if_pos o5.1.1, v_ix (by omega), v_ix (by omega), v_ix (by omega), l5 0 (by omega), h5.1, h5.2, v_w (by omega), v_w (by omega), v_w (by omega), ← e3, s_recordCount y22 hB, Option.bind_some, if_pos ⟨rfl, v_inA (by omega) (by omega)⟩, v_ix (by omega), v_w (by omega)]
  exact q1
theorem c_ans {what : Int} {f : SEM} (hO : OtC s CL) (hm : IsMc s 15) (hWd : WdR s 15 W) (hW : ∀ z, 0 ≤ z → z < 20 → stB (W z)) (hc : CL[c]? = some x) (h12 : CL.length ≤ 12) (hf : (what = 2 ∧ f = x.2.2.1) ∨ (what = 3 ∧ f = x.2.2.2.1) ∨ (what = 4 ∧ f = x.2.2.2.2)) : ∃ s', f_Machine_answer s 15 9 (v c) (v what) = some (w (brk (f W)), s') ∧ Fr (fun q => q = 17) s s' := by
  obtain ⟨cd, mk, len, k1, k2, k3, k4, k5⟩ := hO
  have hcl : c < CL.length := (List.getElem?_eq_some_iff.mp hc).1
  obtain ⟨y, g1, g2, g3⟩ := tx_get (CL := CL) (c := c) (by omega)
  rw [show ((c : Int)).toNat = c by omega, hc] at g1
  cases g1
  have T3 : (TXof CL).2.2.1 c = x.2.2.1 := by show (CL.getD (c : Int).toNat dCL).2.2.1 = _; rw [g2]
  have T4 : (TXof CL).2.2.2.1 c = x.2.2.2.1 := by show (CL.getD (c : Int).toNat dCL).2.2.2.1 = _; rw [g2]
  have T5 : (TXof CL).2.2.2.2 c = x.2.2.2.2 := by show (CL.getD (c : Int).toNat dCL).2.2.2.2 = _; rw [g2]
  obtain ⟨-, ⟨⟨m1, m2⟩, m3, m4, m5⟩, m6, m7, m8⟩ := k5 c (by omega) (by omega)
  have key : (0 ≤ mk (c * 6 + what) ∧ mk (c * 6 + what) ≤ mk (c * 6 + what + 1) ∧ mk (c * 6 + what + 1) ≤ len) ∧ SegE (insC cd) (mk (c * 6 + what)) (mk (c * 6 + what + 1)) f ∧ 0 ≤ what ∧ what ≤ 4 := by
    rcases hf with ⟨e1, e2⟩ | ⟨e1, e2⟩ | ⟨e1, e2⟩
    · rw [e1, e2, ← T3, show (c : Int) * 6 + 2 + 1 = c * 6 + 3 by omega]
      exact ⟨⟨m1, m2, by omega⟩, m6, by decide, by decide⟩
    · rw [e1, e2, ← T4, show (c : Int) * 6 + 3 + 1 = c * 6 + 4 by omega]
      exact ⟨⟨by omega, m3, by omega⟩, m7, by decide, by decide⟩
    · rw [e1, e2, ← T5, show (c : Int) * 6 + 4 + 1 = c * 6 + 5 by omega]
      exact ⟨⟨by omega, m4, by omega⟩, m8, by decide, by decide⟩
  exact s_ansS k3 ⟨by omega, by omega, key.2.2⟩ ⟨by omega, by omega⟩ ⟨k2, by decide⟩ key.1 key.2.1 hW hm hWd k1
theorem c_mark (hO : OtC s CL) (hc : CL[c]? = some x) : (sT s 9 = 12 ∧ sR s 9 1 = 11 ∧ sT s 11 = 20 ∧ sN s 11 = 72 ∧ sI s 9 3 = v CL.length) ∧ sI s 11 ((c : Int) * 6).toNat = v x.1 ∧ sI s 11 ((c : Int) * 6 + 1).toNat = v x.2.1 := by
  obtain ⟨cd, mk, len, ⟨⟨t1, -, t2, t3, t4⟩, ⟨-, t5⟩, -, t6⟩, k2, k3, k4, k5⟩ := hO
  have hcl : c < CL.length := (List.getElem?_eq_some_iff.mp hc).1
  obtain ⟨y, g1, g2, g3⟩ := tx_get (CL := CL) (c := c) (by omega)
  rw [show ((c : Int)).toNat = c by omega, hc] at g1
  cases g1
  have T1 : (TXof CL).1 c = x.1 := by show (CL.getD (c : Int).toNat dCL).1 = _; rw [g2]
  have T2 : (TXof CL).2.1 c = x.2.1 := by show (CL.getD (c : Int).toNat dCL).2.1 = _; rw [g2]
  obtain ⟨⟨m1, m2⟩, -⟩ := k5 c (by omega) (by omega)
  refine ⟨⟨t1, t2, t3, t4, t5⟩, ?_, ?_⟩
  · rw [t6 _ (by omega), m1, T1]
  · rw [t6 _ (by omega), m2, T2]
end ORC
