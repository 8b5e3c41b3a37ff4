/-! ORDERS, on the reference: the loops -/
def TimR (r : Option OST) (o : Option (Int32 × AS)) (K : AS → Option (Int32 × AS)) (s0 : AS) (tp : (Int → Int) × Int) (se : ST1) (LG : LGS) (IM : Nat → IMG) (ms : Int → Int) (vw : (Int → Int) × Int) (dr : DRW) (CL : List CLS) (P0 : PG) (c : Int) : Prop := match r with
  | none => RO s0 o (-3) tp se P0 LG IM (msR (bu ms 1 c) (-3)) vw dr
  | some S' => ∃ s' A', o = K s' ∧ MR s' 78 A' ∧ RepA A' tp se S'.1 (las (LG ++ S'.2.1)) IM ms vw dr ∧ OrM A' CL LG P0 S'.2.2.1 S'.2.2.2 ∧ Fr (inM 78) s0 s'
def ClsV (r : Except Int OST) (o : Option (Int32 × AS)) (s0 : AS) (tp : (Int → Int) × Int) (se : ST1) (LG : LGS) (IM : Nat → IMG) (ms : Int → Int) (vw : (Int → Int) × Int) (dr : DRW) (P0 : PG) : Prop := match r with
  | .error i => RO s0 o (-3) tp se P0 LG IM (msR (bu ms 1 i) (-3)) vw dr
  | .ok S' => RO s0 o S'.2.2.1 tp se S'.1 (las (LG ++ S'.2.1)) IM (msT ms) vw dr
section OML
variable {s s0 : AS} {tp : (Int → Int) × Int} {se : ST1} {P P0 : PG} {LG : LGS} {IM : Nat → IMG} {ms : Int → Int} {vw : (Int → Int) × Int} {dr : DRW} {A A0 : MA} {a b d k : Int} {S : OST} {CL : List CLS} {x : CLS} {c : Nat}
theorem m_loop150 {K : Nat → Int32 → Int32 → AS → Option (Int32 × AS)} (hw : WfT se) (hc : CL[c]? = some x) (h12 : CL.length ≤ 12) (hq : QC true x) (h4 : x.1 = 4 → x.2.2.1 = semE) (h16 : LG.length ≤ 16) : ∀ (j N : Nat) (i d : Int) (s : AS) (A : MA) (S : OST), i + j = x.2.1 → 0 ≤ i → j < N → MR s 78 A → RepA A tp se S.1 (las (LG ++ S.2.1)) IM ms vw dr → WfO d S → d + j ≤ 1000 → OrM A CL LG P0 S.2.2.1 S.2.2.2 → Fr (inM 78) s0 s → TimR (timO se x j S) (l_M_orders_150 K N 78 (v LG.length) (v c) (v i) s) (K 78 (v LG.length) (v ((c : Int) + 1))) s0 tp se LG IM ms vw dr CL P0 c := by
  have hcl : c < CL.length := (List.getElem?_eq_some_iff.mp hc).1
  have htm := hq.2.2.1
  intro j
  induction j with
  | zero =>
    intro N i d s A S hi h0 hN h hR hS hd hO f
    obtain ⟨N, rfl⟩ : ∃ m, N = m + 1 := ⟨N - 1, by omega⟩
    obtain ⟨t1, len, t2, t3, t4⟩ := hO.2.2.2
    obtain ⟨⟨n0, n7⟩, -⟩ := t4 c x hc
    have j7 := h.a49 (8 * (c : Int) + 7) (by omega)
    rw [n7] at j7
    refine ⟨s, A, ?_, h, hR, hO, f⟩
    show b_M_orders_150 _ _ _ _ _ _ _ = _
    unfold b_M_orders_150
    rw [nv8, nv7, nv1, if_pos h.t, h.r49, h.t49, h.n49, v_mul, v_add, v_add, v_add, if_pos ⟨rfl, v_inA (by omega) (by omega)⟩, v_ix (by omega), j7, if_neg (nlt (by omega))]
  | succ j ih =>
    intro N i d s A S hi h0 hN h hR hS hd hO f
    obtain ⟨N, rfl⟩ : ∃ m, N = m + 1 := ⟨N - 1, by omega⟩
    obtain ⟨t1, len, t2, t3, t4⟩ := hO.2.2.2
    obtain ⟨⟨n0, n7⟩, -⟩ := t4 c x hc
    have j7 := h.a49 (8 * (c : Int) + 7) (by omega)
    rw [n7] at j7
    have hrun := m_run h hR hw hS (by omega) hO hc h12 hq h4 f
    show TimR (timO se x (j + 1) S) (b_M_orders_150 K (l_M_orders_150 K N) 78 (v LG.length) (v c) (v i) s) _ _ _ _ _ _ _ _ _ _ _ _
    unfold b_M_orders_150 timO
    rw [nv8, nv7, nv0, nv1, nv3, v_neg, if_pos h.t, h.r49, h.t49, h.n49, v_mul, v_add, if_pos ⟨rfl, v_inA (by omega) (by omega)⟩, v_ix (by omega), j7, if_pos (plt (by omega))]
    cases ho : oneO se x S with
    | none =>
      rw [ho] at hrun
      obtain ⟨s1, A1, P1, L1, q1, q2, q3, ⟨q4, q5⟩, q6⟩ := hrun
      obtain ⟨s2, A2, u1, u2, u3, u4, u5, u6⟩ := m_giveBack q2 q4 q5
      have h2 : RepA A2 tp se P0 LG IM ms vw dr := q3.v_pg (u5.mo (fun j z hj => by omega)) u3 u4 (q3.2.2.1.2.fr (u5 0 41 (by omega)) (u5 0 42 (by omega)))
      have k3 := u2.s0 (x := (c : Int)) (k := 52) (z := 52) rfl (by decide)
      have a3 : AF (fun j z => j = 0 ∧ z = 52) A2 (pu A2 0 52 c) := AF.pu ⟨rfl, rfl⟩
      have h3 : RepA (pu A2 0 52 c) tp se P0 LG IM (bu ms 1 c) vw dr := by
        obtain ⟨i1, i2, i3⟩ := h2.2.2.2.2.2.2.2.1
        obtain ⟨j1, j2, j3, j4, j5⟩ := h2.2.2.2.2.2.2.2.2.1
        refine h2.v_it (a3.mo (fun j z hj => by omega)) ⟨?_, pu_eq _ _ _ _, ?_⟩ ⟨?_, ?_, ?_, ?_, ?_⟩
        · rw [pu_ne _ _ _ _ (by decide)]; exact i1
        · rw [pu_ne _ _ _ _ (by decide)]; exact i3
        · rw [pu_row _ _ _ _ (by decide)]; exact j1
        · rw [pu_row _ _ _ _ (by decide)]; exact j2
        · rw [pu_row _ _ _ _ (by decide)]; exact j3
        · rw [pu_row _ _ _ _ (by decide)]; exact j4
        · rw [pu_row _ _ _ _ (by decide)]; exact j5
      rw [q1, Option.bind_some, if_pos (plt (show (r32 (-3) ∧ r32 0) ∧ (-3 : Int) < 0 by decide)), if_pos q2.t, u1, Option.bind_some, if_pos u2.t]
      have r := RO.tell (x := -3) k3 h3 ((q6.tr u6).tr (Fr.si (by omega))) (by decide)
      rw [tl_n (by decide)] at r
      exact r
    | some S1 =>
      rw [ho] at hrun
      obtain ⟨s1, A1, q1, q2, q3, q4, q5⟩ := hrun
      rw [q1, Option.bind_some, if_neg (show ¬ v 0 < v 0 by decide), v_add]
      exact ih N (i + 1) (d + 1) s1 A1 S1 (by omega) (by omega) (by omega) q2 q3 (oneO_W hS ho) (by omega) q4 q5
theorem m_loop140 (hw : WfT se) (h12 : CL.length ≤ 12) (hq : ∀ x ∈ CL, QC true x ∧ (x.1 = 4 → x.2.2.1 = semE)) (h16 : LG.length ≤ 16) : ∀ (L : List CLS) (N c : Nat) (d : Int) (s : AS) (A : MA) (S : OST), CL.drop c = L → c ≤ CL.length → L.length < N → MR s 78 A → RepA A tp se S.1 (las (LG ++ S.2.1)) IM ms vw dr → WfO d S → d + 20 * L.length ≤ 1000 → OrM A CL LG P0 S.2.2.1 S.2.2.2 → Fr (inM 78) s0 s → ClsV (clsO se L c S) (l_M_orders_140 N 78 (v LG.length) (v c) s) s0 tp se LG IM ms vw dr P0 := by
  intro L
  induction L with
  | nil =>
    intro N c d s A S hdr hc hN h hR hS hd hO f
    obtain ⟨N, rfl⟩ : ∃ m, N = m + 1 := ⟨N - 1, by omega⟩
    have hl : c = CL.length := by
      have := congrArg List.length hdr
      rw [List.length_drop] at this
      have h0 : ([] : List CLS).length = 0 := rfl
      omega
    have hdn := hS.2.2.1
    have h0 : ([] : List CLS).length = 0 := rfl
    show ClsV (.ok S) (b_M_orders_140 _ _ _ _ _) _ _ _ _ _ _ _ _ _
    unfold b_M_orders_140
    rw [if_pos h.t, h.i20, hO.2.2.2.1, if_neg (nlt (by omega)), h.i50, hO.2.2.1.1]
    have r := RO.tell (x := S.2.2.1) h hR f ⟨by omega, Or.inr hdn.1⟩
    rw [tl_0 hdn.1] at r
    exact r
  | cons x L ih =>
    intro N c d s A S hdr hc hN h hR hS hd hO f
    obtain ⟨N, rfl⟩ : ∃ m, N = m + 1 := ⟨N - 1, by omega⟩
    have hlen : (x :: L).length = L.length + 1 := rfl
    have hll := congrArg List.length hdr
    rw [List.length_drop] at hll
    have hg : CL[c]? = some x := by
      have : (CL.drop c)[0]? = some x := by rw [hdr]; rfl
      rw [List.getElem?_drop, Nat.add_zero] at this
      exact this
    have hdr2 : CL.drop (c + 1) = L := by
      have : (CL.drop c).drop 1 = L := by rw [hdr]; rfl
      rw [List.drop_drop] at this
      exact this
    obtain ⟨hqx, hx4⟩ := hq x (List.mem_of_getElem? hg)
    have htm := hqx.2.2.1
    have hr := m_loop150 (K := l_M_orders_140 N) (s0 := s0) hw hg h12 hqx hx4 h16 x.2.1.toNat fuel 0 d s A S (by omega) (by omega) (by unfold fuel; omega) h hR hS (by omega) hO f
    show ClsV (clsO se (x :: L) c S) (b_M_orders_140 (l_M_orders_140 N) 78 (v LG.length) (v c) s) _ _ _ _ _ _ _ _ _
    unfold b_M_orders_140 clsO
    rw [if_pos h.t, h.i20, hO.2.2.2.1, if_pos (plt (by omega)), nv0]
    cases ht : timO se x x.2.1.toNat S with
    | none =>
      rw [ht] at hr
      exact hr
    | some S1 =>
      rw [ht] at hr
      obtain ⟨s1, A1, k1, k2, k3, k4, k5⟩ := hr
      rw [k1]
      exact ih N (c + 1) (d + 20) s1 A1 S1 hdr2 (by omega) (by omega) k2 k3 ((timO_W _ _ _ _ hS ht).mo (by omega)) (by omega) k4 k5
theorem m_or77 {c : Int32} {A0 : MA} : ∀ (k N : Nat) (i : Int) (s : AS) (A : MA), i + k = 13056 → 0 ≤ i → k < N → MR s 78 A → AF (fun j _ => j = 7) A0 A → (∀ y, 0 ≤ y → y < i → A 7 y = A0 5 y) → ∃ s' A', l_M_orders_77 N 78 c (v i) s = l_M_orders_104 fuel 78 c (v 0) s' ∧ MR s' 78 A' ∧ AF (fun j _ => j = 7) A0 A' ∧ (∀ y, 0 ≤ y → y < 13056 → A' 7 y = A0 5 y) ∧ Fr (inM 78) s s' := by
  intro k
  induction k with
  | zero =>
    intro N i s A hi h0 hN h hA hy
    obtain ⟨N, rfl⟩ : ∃ m, N = m + 1 := ⟨N - 1, by omega⟩
    refine ⟨s, A, ?_, h, hA, fun y y0 y1 => hy y y0 (by omega), Fr.rf _ _⟩
    show b_M_orders_77 _ _ _ _ _ = _
    unfold b_M_orders_77
    rw [show nI 13056 = v 13056 from rfl, if_neg (nlt (by omega)), nv0]
  | succ k ih =>
    intro N i s A hi h0 hN h hA hy
    obtain ⟨N, rfl⟩ : ∃ m, N = m + 1 := ⟨N - 1, by omega⟩
    have r := h.a6 i (by omega)
    rw [hA 5 i (show ¬ (5 : Nat) = 7 by decide)] at r
    have hw := h.si 7 (by decide) (by decide) (z := i) (x := A0 5 i) ⟨by omega, by show i < 13056; omega⟩
    obtain ⟨s', A', q1, q2, q3, q4, q5⟩ := ih N (i + 1) _ _ (by omega) (by omega) (by omega) hw (hA.tr (AF.pu rfl)) (fun y y0 y1 => by
      by_cases e : y = i
      · rw [e, pu_eq]
      · rw [pu_ne _ _ _ _ (fun d => e d.2)]; exact hy y y0 (by omega))
    refine ⟨s', A', ?_, q2, q3, q4, (inM_s (by decide)).tr q5⟩
    show b_M_orders_77 _ _ _ _ _ = _
    unfold b_M_orders_77
    rw [show nI 13056 = v 13056 from rfl, if_pos (plt (by omega)), if_pos h.t, h.r6, h.t6, h.n6, if_pos ⟨rfl, v_inA (by omega) (by omega)⟩, h.r9, h.t9, h.n9, if_pos ⟨rfl, v_inA (by omega) (by omega)⟩, v_ix (by omega), r, nv1, v_add]
    exact q1
theorem m_or104 {c : Int32} {A0 : MA} : ∀ (k N : Nat) (i : Int) (s : AS) (A : MA), i + k = 16 → 0 ≤ i → k < N → MR s 78 A → AF (fun j _ => j = 8) A0 A → (∀ y, 0 ≤ y → y < i → A 8 y = A0 6 y) → ∃ s' A', l_M_orders_104 N 78 c (v i) s = l_M_orders_140 fuel 78 c (v 0) (setI (setI s' 78 50 (v 0)) 78 51 (v (-1))) ∧ MR s' 78 A' ∧ AF (fun j _ => j = 8) A0 A' ∧ (∀ y, 0 ≤ y → y < 16 → A' 8 y = A0 6 y) ∧ Fr (inM 78) s s' := by
  intro k
  induction k with
  | zero =>
    intro N i s A hi h0 hN h hA hy
    obtain ⟨N, rfl⟩ : ∃ m, N = m + 1 := ⟨N - 1, by omega⟩
    refine ⟨s, A, ?_, h, hA, fun y y0 y1 => hy y y0 (by omega), Fr.rf _ _⟩
    show b_M_orders_104 _ _ _ _ _ = _
    unfold b_M_orders_104
    rw [nv16, if_neg (nlt (by omega)), if_pos h.t, nv0, nv1, v_neg]
  | succ k ih =>
    intro N i s A hi h0 hN h hA hy
    obtain ⟨N, rfl⟩ : ∃ m, N = m + 1 := ⟨N - 1, by omega⟩
    have r := h.a7 i (by omega)
    rw [hA 6 i (show ¬ (6 : Nat) = 8 by decide)] at r
    have hw := h.si 8 (by decide) (by decide) (z := i) (x := A0 6 i) ⟨by omega, by show i < 16; omega⟩
    obtain ⟨s', A', q1, q2, q3, q4, q5⟩ := ih N (i + 1) _ _ (by omega) (by omega) (by omega) hw (hA.tr (AF.pu rfl)) (fun y y0 y1 => by
      by_cases e : y = i
      · rw [e, pu_eq]
      · rw [pu_ne _ _ _ _ (fun d => e d.2)]; exact hy y y0 (by omega))
    refine ⟨s', A', ?_, q2, q3, q4, (inM_s (by decide)).tr q5⟩
    show b_M_orders_104 _ _ _ _ _ = _
    unfold b_M_orders_104
    rw [nv16, if_pos (plt (by omega)), if_pos h.t, h.r7, h.t7, h.n7, if_pos ⟨rfl, v_inA (by omega) (by omega)⟩, h.r10, h.t10, h.n10, if_pos ⟨rfl, v_inA (by omega) (by omega)⟩, v_ix (by omega), r, nv1, v_add]
    exact q1
end OML
