/-! ORDERS, on the class: whole -/
def TimO (r : Option OST) (o : Option (Int32 × AS)) (K : AS → Option (Int32 × AS)) (s0 : AS) (tp : (Int → Int) × Int) (se : ST1) (LG : LGS) (IM : Nat → IMG) (ms : Int → Int) (vw : (Int → Int) × Int) (dr : DRW) (cn : Nat) (CL : List CLS) (P0 : PG) (c : Int) : Prop := match r with
  | none => ∃ s' D' P', o = K s' ∧ RepD s' D' tp se P' LG IM (bu ms 1 c) vw dr cn ∧ PgR s' 64 P0 ∧ OtC s' CL ∧ GrM s0 s'
  | some S' => ∃ s' D', o = K s' ∧ RepD s' D' tp se S'.1 LG IM ms vw dr cn ∧ OrX s' D' CL P0 S'.2.1 S'.2.2.1 S'.2.2.2 ∧ GrM s0 s'
def ClsC (r : Except Int OST) (o : Option (Int32 × AS)) (s0 : AS) (tp : (Int → Int) × Int) (se : ST1) (LG : LGS) (IM : Nat → IMG) (ms : Int → Int) (vw : (Int → Int) × Int) (dr : DRW) (cn : Nat) (P0 : PG) : Prop := match r with
  | .error i => CO s0 o (-3) tp se P0 LG IM (msR (bu ms 1 i) (-3)) vw dr cn
  | .ok S' => CO s0 o S'.2.2.1 tp se S'.1 (las (LG ++ S'.2.1)) IM (msT ms) vw dr cn
section ORD
variable {s s' s0 : AS} {D : DYN} {tp : (Int → Int) × Int} {se : ST1} {P P0 P' Bf : PG} {LG : LGS} {IM : Nat → IMG} {ms : Int → Int} {vw : (Int → Int) × Int} {dr : DRW} {cn : Nat} {CL : List CLS} {X : LGS} {dn lt d kind a b : Int} {S : OST} {x : CLS} {c : Nat}
theorem c_loop86 {K : Nat → Nat → Int32 → AS → Option (Int32 × AS)} {tm : Int} (hw : WfT se) (hc : CL[c]? = some x) (h12 : CL.length ≤ 12) (hq : QC true x) (hs : ms 1 = -1) (ht : tm ≤ 20) : ∀ (j N : Nat) (i d : Int) (s : AS) (D : DYN) (S : OST), i + j = tm → 0 ≤ i → j < N → RepD s D tp se S.1 LG IM ms vw dr cn → WfO d S → d + j ≤ 1000 → OrX s D CL P0 S.2.1 S.2.2.1 S.2.2.2 → GrM s0 s → TimO (timO se x j S) (l_C_orders_86 K N 1 9 (v c) (v tm) (v i) s) (K 1 9 (v ((c : Int) + 1))) s0 tp se LG IM ms vw dr cn CL P0 c := by
  have hcl : c < CL.length := (List.getElem?_eq_some_iff.mp hc).1
  intro j
  induction j with
  | zero =>
    intro N i d s D S hi h0 hN h hS hd hx g
    obtain ⟨N, rfl⟩ : ∃ m, N = m + 1 := ⟨N - 1, by omega⟩
    refine ⟨s, D, ?_, h, hx, g⟩
    show b_C_orders_86 _ _ _ _ _ _ _ _ = _
    unfold b_C_orders_86
    rw [if_neg (nlt (by omega)), nv1, v_add]
  | succ j ih =>
    intro N i d s D S hi h0 hN h hS hd hx g
    obtain ⟨N, rfl⟩ : ∃ m, N = m + 1 := ⟨N - 1, by omega⟩
    have hcar := c_carry h hw hS (by omega) hx g hc h12 hq
    show TimO (timO se x (j + 1) S) (b_C_orders_86 K (l_C_orders_86 K N) 1 9 (v c) (v tm) (v i) s) _ _ _ _ _ _ _ _ _ _ _ _ _
    unfold b_C_orders_86 timO
    rw [if_pos (plt (by omega)), if_pos h.1.1, nv1, v_neg, h.2.1.1, hs, if_pos rfl, h.rn.1, if_pos h.rn.2.1]
    cases ho : oneO se x S with
    | none =>
      rw [ho] at hcar
      obtain ⟨s1, D1, P1, k1, k2, k3, k4, k5⟩ := hcar
      obtain ⟨h2, g2⟩ := k2.sto (i := (c : Int))
      have f2 : Fr (fun q => q = 1) s1 (setI s1 1 14 (v (c : Int))) := Fr.si rfl
      refine ⟨setI s1 1 14 (v (c : Int)), D1, P1, ?_, h2, k3.eq (fun i hi => f2.eqA (by omega)), k4.eq (fun i hi => f2.eqA (by omega)), k5.tr g2⟩
      rw [k1, Option.bind_some]
      show (if v 0 = nI 0 then if sT s1 1 = 1 then l_C_orders_86 K N 1 9 (v c) (v tm) (v i + v 1) (setI s1 1 14 (v c)) else none else _) = _
      rw [nv0, if_pos rfl, if_pos k2.1.1, v_add]
      obtain ⟨N, rfl⟩ : ∃ m, N = m + 1 := ⟨N - 1, by omega⟩
      show b_C_orders_86 _ _ _ _ _ _ _ _ = _
      unfold b_C_orders_86
      by_cases e : i + 1 < tm
      · rw [if_pos (plt (by omega)), if_pos h2.1.1, h2.2.1.1, bu_eq, nv1, v_neg, if_neg (pne (by omega)), v_add]
      · rw [if_neg (nlt (by omega)), nv1, v_add]
    | some S1 =>
      rw [ho] at hcar
      obtain ⟨s1, D1, k1, k2, k3, k4⟩ := hcar
      have r := ih N (i + 1) (d + 1) s1 D1 S1 (by omega) (by omega) (by omega) k2 (oneO_W hS ho) (by omega) k3 k4
      rw [k1, Option.bind_some]
      show TimO (timO se x j S1) (if v 1 = nI 0 then _ else l_C_orders_86 K N 1 9 (v c) (v tm) (v i + v 1) s1) _ _ _ _ _ _ _ _ _ _ _ _ _
      rw [nv0, if_neg (show ¬ v 1 = v 0 by decide), v_add]
      exact r
theorem c_loop54 (hw : WfT se) (h12 : CL.length ≤ 12) (hq : ∀ x ∈ CL, QC true x) (hs : ms 1 = -1) (h16 : LG.length ≤ 16) : ∀ (L : List CLS) (N c : Nat) (d : Int) (s : AS) (D : DYN) (S : OST), CL.drop c = L → c ≤ CL.length → L.length + 1 < N → RepD s D tp se S.1 LG IM ms vw dr cn → WfO d S → d + 20 * L.length ≤ 1000 → OrX s D CL P0 S.2.1 S.2.2.1 S.2.2.2 → GrM s0 s → ClsC (clsO se L c S) (l_C_orders_54 N 1 9 (v c) s) s0 tp se LG IM ms vw dr cn P0 := by
  intro L
  induction L with
  | nil =>
    intro N c d s D S hdr hc hN h hS hd hx g
    obtain ⟨N, rfl⟩ : ∃ m, N = m + 1 := ⟨N - 1, by omega⟩
    have hl : c = CL.length := by
      have := congrArg List.length hdr
      rw [List.length_drop] at this
      have h0 : ([] : List CLS).length = 0 := rfl
      omega
    obtain ⟨cd, mk, len, ⟨⟨t1, -⟩, ⟨-, t5⟩, -⟩, -⟩ := hx.2.2.2
    show ClsC (.ok S) (b_C_orders_54 _ _ _ _ _) _ _ _ _ _ _ _ _ _ _
    unfold b_C_orders_54
    rw [if_pos t1, t5, if_neg (nlt (by omega))]
    exact c_130T h hx h16 g hs
  | cons x L ih =>
    intro N c d s D S hdr hc hN h hS hd hx g
    obtain ⟨N, rfl⟩ : ∃ m, N = m + 1 := ⟨N - 1, by omega⟩
    have hlen : (x :: L).length = L.length + 1 := rfl
    have hll := congrArg List.length hdr
    rw [List.length_drop] at hll
    have hg : CL[c]? = some x := by
      have : (CL.drop c)[0]? = some x := by rw [hdr]; rfl
      rw [List.getElem?_drop, Nat.add_zero] at this
      exact this
    have hdr2 : CL.drop (c + 1) = L := by
      have : (CL.drop c).drop 1 = L := by rw [hdr]; rfl
      rw [List.drop_drop] at this
      exact this
    have hqx := hq x (List.mem_of_getElem? hg)
    have htm := hqx.2.2.1
    obtain ⟨⟨y1, y2, y3, y4, y5⟩, y6, y7⟩ := c_mark hx.2.2.2 hg
    have hr := c_loop86 (K := l_C_orders_54 N) (tm := x.2.1) (s0 := s0) hw hg h12 hqx hs (by omega) x.2.1.toNat fuel 0 d s D S (by omega) (by omega) (by unfold fuel; omega) h hS (by omega) hx g
    show ClsC (clsO se (x :: L) c S) (b_C_orders_54 (l_C_orders_54 N) 1 9 (v c) s) _ _ _ _ _ _ _ _ _ _
    unfold b_C_orders_54 clsO
    rw [if_pos y1, y5, if_pos (plt (by omega)), if_pos h.1.1, h.2.1.1, hs, nv1, nv6, nv0, v_neg, if_pos rfl, y2, y3, y4, v_mul, v_add, if_pos ⟨rfl, v_inA (by omega) (by omega)⟩, v_ix (by omega), y7]
    cases ht : timO se x x.2.1.toNat S with
    | none =>
      rw [ht] at hr
      obtain ⟨s1, D1, P1, k1, k2, k3, k4, k5⟩ := hr
      rw [k1]
      obtain ⟨N, rfl⟩ : ∃ m, N = m + 1 := ⟨N - 1, by omega⟩
      obtain ⟨cd, mk, len, ⟨⟨t1, -⟩, ⟨-, t5⟩, -⟩, -⟩ := k4
      have r := c_130F (i := (c : Int)) k2 k3 k5 bu_eq (by omega)
      show CO s0 (b_C_orders_54 _ _ _ _ _) _ _ _ _ _ _ _ _ _ _
      unfold b_C_orders_54
      rw [if_pos t1, t5]
      by_cases e : (c : Int) + 1 < CL.length
      · rw [if_pos (plt (by omega)), if_pos k2.1.1, k2.2.1.1, bu_eq, nv1, v_neg, if_neg (pne (by omega))]
        exact r
      · rw [if_neg (nlt (by omega))]
        exact r
    | some S1 =>
      rw [ht] at hr
      obtain ⟨s1, D1, k1, k2, k3, k4⟩ := hr
      rw [k1]
      have r := ih N (c + 1) (d + 20) s1 D1 S1 hdr2 (by omega) (by omega) k2 ((timO_W _ _ _ _ hS ht).mo (by omega)) (by omega) k3 k4
      exact r
theorem c_begin (h : RepD s D tp se P LG IM ms vw dr cn) : ∃ s', f_Runner_begin s 60 = some s' ∧ RepD s' D tp se P LG IM ms vw dr cn ∧ (LogC s' 61 D.1.2 D.2.2.2 [] ∧ PgR s' 64 P ∧ sI s' 60 5 = v 0 ∧ sI s' 60 6 = v (-1)) ∧ Fr (fun q => 60 ≤ q ∧ q ≤ 70) s s' := by
  obtain ⟨o1, o2, o3, o4, o5⟩ := h.lv
  obtain ⟨p1, r1, ⟨r2, r3, r4, r5, r6⟩, r7⟩ := h.rn
  obtain ⟨L2, l1, l2⟩ := h.2.2.2.2.2.2.2.2.2.2.2.1
  obtain ⟨s1, q1, q2, q3⟩ := s_takeFrom r7 o5 (by decide)
  have hd : ∀ q, D.1.2 q → 106 ≤ q := fun q hq => (h.d12 q hq).1
  have l3 : LogC s1 61 D.1.2 D.2.2.2 L2 := l1.eq (fun i hi => q3.eqA (fun e => by have := e.1; omega)) (fun q hq => q3.eqA (fun e => by have := e.2; have := hd q hq; omega))
  have l4 := l3.clr (fun q hq => by have := hd q hq; omega)
  have f2 : Fr (fun q => q = 60) (setI s1 61 2 (v 0)) (setI (setI (setI s1 61 2 (v 0)) 60 5 (v 0)) 60 6 (v (-1))) := (Fr.si (F := fun q => q = 60) rfl).tr (Fr.si rfl)
  have l5 := l4.eq (s' := setI (setI (setI s1 61 2 (v 0)) 60 5 (v 0)) 60 6 (v (-1))) (fun i hi => f2.eqA (by omega)) (fun q hq => f2.eqA (by have := hd q hq; omega))
  have f1 : Fr (fun q => q = 60 ∨ q = 61) s1 (setI (setI (setI s1 61 2 (v 0)) 60 5 (v 0)) 60 6 (v (-1))) := (Fr.si (F := fun q => q = 60 ∨ q = 61) (Or.inr rfl)).tr (f2.mo (fun q hq => Or.inl hq))
  have fA : Fr (fun q => 60 ≤ q ∧ q ≤ 70) s (setI (setI (setI s1 61 2 (v 0)) 60 5 (v 0)) 60 6 (v (-1))) := (q3.mo (fun q hq => ⟨by have := hq.1; omega, by have := hq.2; omega⟩)).tr (f1.mo (fun q hq => by omega))
  refine ⟨_, ?_, h.u_rn fA (h.rn.2.st fA.1) ⟨[], l5, by show 0 ≤ 16; decide⟩, ⟨l5, q2.eq (fun i hi => f1.eqA (by omega)), ?_, ?_⟩, fA⟩
  · have t60 : sT s1 60 = 10 := by rw [q3.1.2.1]; exact r1
    have e61 : sR s1 60 3 = 61 := by rw [q3.1.1]; exact r5
    have t61 : sT s1 61 = 5 := by obtain ⟨Lr, k1, -⟩ := l3; exact k1.1
    unfold f_Runner_begin
    rw [if_pos r1, r2, if_pos o3, r6, if_pos r7.1, o4, q1, Option.bind_some, if_pos t60, e61, if_pos t61, nv0, nv1, v_neg]
  · rw [sI_setI, if_neg (by omega), sI_setI, if_pos ⟨rfl, rfl⟩]
  · rw [sI_setI, if_pos ⟨rfl, rfl⟩]
theorem c_orders (h : RepD s D tp se P LG IM ms vw dr cn) (hT : TpB tp) (hw : WfT se) (hH : PgH P) (h16 : LG.length ≤ 16) : CO s (f_C_orders s 1) (ordA (ordR (textP tp.1 tp.2 true) se P)) (tp.1, 0) se (ordP (ordR (textP tp.1 tp.2 true) se P) P) (ordL (ordR (textP tp.1 tp.2 true) se P) LG) IM (ordM (ordR (textP tp.1 tp.2 true) se P) ms) vw dr cn := by
  obtain ⟨t1, t2, t3, t4⟩ := h.tp2
  obtain ⟨r1, r2⟩ := h.rd
  have o1 := h.1.1
  have hsp := s_readAll (rd := 8) (tp := 2) (ord := true) r2 t4 ⟨hT.1, fun z _ _ => hT.2 z⟩ (by omega) (by omega)
  unfold f_C_orders
  rw [nv0, nv1, nv6, v_neg, v_neg, if_pos o1, r1, if_pos r2.1, t1]
  cases hr : textP tp.1 tp.2 true with
  | error e =>
    rw [hr] at hsp
    obtain ⟨s1, q1, q2, q3⟩ := hsp
    obtain ⟨h1, g1⟩ := h.read q3 q2
    obtain ⟨h2, g2, -⟩ := h1.tp0
    obtain ⟨h3, g3⟩ := h2.sto (i := -1)
    rw [show f_Reader_readAll s 8 2 (v 1) = some (v 0, s1) from q1, Option.bind_some]
    show CO s (if sT s1 1 = 1 then if sT s1 (sR s1 1 0) = 9 then if v 0 = v 0 then (f_C_refuse (setI (setI s1 (sR s1 1 0) 1 (v 0)) 1 14 (v (-1))) 1 (v (-6))).bind _ else _ else none else none) (-6) _ se P LG IM (msR (bu (bu ms 0 e) 1 (-1)) (-6)) _ _ _
    rw [if_pos h1.1.1, h1.tp2.1, if_pos h1.tp2.2.1, if_pos rfl]
    exact CO.refu h3 ((g1.tr g2).tr g3) (by decide)
  | ok CL =>
    have hq := q_text hr
    rw [hr] at hsp
    obtain ⟨s1, st, cd, mk, len, q1, q2, q3, q4⟩ := hsp
    obtain ⟨k1, k2, k3, k4, k5, k6, k7⟩ := q2
    have hlen : 0 ≤ len ∧ len ≤ 400 := by
      have h1 := k6.2.1
      have h2 : 0 ≤ st.1 ∧ st.1 ≤ st.2.1 ∧ st.2.1 ≤ tp.2 := k4.1.1
      have h3 := hT.1
      omega
    obtain ⟨h1, g1⟩ := h.read (e := -1) q4 k2.2.2.2.2
    obtain ⟨h2, g2, -⟩ := h1.tp0
    obtain ⟨h3, g3⟩ := h2.sto (i := -1)
    obtain ⟨s4, b1, b2, ⟨b3, b4, b5⟩, b6⟩ := c_begin h3
    have hO1 : OtC s1 CL := by
      obtain ⟨a1, a2, a3, a4⟩ := k3
      exact ⟨cd, mk, len, ⟨a1, a2, fun z hz => a3 z (by omega), fun z hz => a4 z (by omega)⟩, hlen.2, TxS_of k6 hlen.2 q3 hq.2⟩
    have f3 : Fr (fun q => q = 1 ∨ q = 2) s1 (setI (setI s1 2 1 (v 0)) 1 14 (v (-1))) := (Fr.si (Or.inr rfl)).tr (Fr.si (Or.inl rfl))
    have hO4 : OtC s4 CL := (hO1.eq (fun i hi => f3.eqA (by omega))).eq (fun i hi => b6.eqA (by omega))
    have hS : WfO 0 ((P, [], 0, -1) : OST) := ⟨hH, fun y hy => (by cases hy), ⟨by show (0 : Int) ≤ 0; decide, by show (0 : Int) ≤ 0; decide⟩, by show (-1 : Int) ≤ -1 ∧ (-1 : Int) < 128; decide⟩
    have hl := c_loop54 (P0 := P) (s0 := s) hw hq.2 hq.1 bu_eq h16 CL fuel 0 0 s4 D ((P, [], 0, -1) : OST) rfl (by omega) (by unfold fuel; omega) b2 hS (by omega) ⟨b3, b4, b5, hO4⟩ (((g1.tr g2).tr g3).tr (b6.grM (fun q hq => by omega)))
    rw [show f_Reader_readAll s 8 2 (v 1) = some (v 1, s1) from q1, Option.bind_some]
    show CO s (if sT s1 1 = 1 then if sT s1 (sR s1 1 0) = 9 then if v 1 = v 0 then _ else if sT s1 (sR s1 1 9) = 10 then (f_Runner_begin (setI (setI s1 (sR s1 1 0) 1 (v 0)) 1 14 (v (-1))) (sR s1 1 9)).bind _ else none else none else none) _ _ _ _ _ _ _ _ _ _
    rw [if_pos h1.1.1, h1.tp2.1, if_pos h1.tp2.2.1, if_neg (show ¬ v 1 = v 0 by decide), h1.rn.1, if_pos h1.rn.2.1, b1, Option.bind_some, if_pos b2.1.1, b2.rd.1, if_pos b2.rd.2.1, b2.rd.2.2.1.1]
    unfold ordR
    show CO s (l_C_orders_54 fuel 1 9 (v (0 : Nat)) s4) (ordA (.ok (clsO se CL 0 (P, [], 0, -1)))) _ _ (ordP (.ok (clsO se CL 0 (P, [], 0, -1))) P) (ordL (.ok (clsO se CL 0 (P, [], 0, -1))) LG) _ (ordM (.ok (clsO se CL 0 (P, [], 0, -1))) ms) _ _ _
    cases hcl : clsO se CL 0 (P, [], 0, -1) with
    | error i =>
      have hcl' : clsO se CL ((0 : Nat) : Int) (P, [], 0, -1) = .error i := hcl
      rw [hcl'] at hl
      exact hl
    | ok S' =>
      have hcl' : clsO se CL ((0 : Nat) : Int) (P, [], 0, -1) = .ok S' := hcl
      rw [hcl'] at hl
      exact hl
end ORD
