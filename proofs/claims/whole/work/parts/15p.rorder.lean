/-! THE REFERENCE'S READER: a clause of orders, whole -/
/-- a clause of orders under way -/
def OrS (s0 : AS) (A0 : MA) (st0 : STK) (len0 : Int) (m : Nat) (B : Int → Int) (n cl W : Int) (f : SEM) (s : AS) (A : MA) (st : STK) (len : Int) : Prop :=
  RfX s m A B n true st len ∧ A 0 20 = cl + 1 ∧ AF scrC A0 A ∧ Fr (inM m) s0 s ∧ CodK A0 A len0 ∧ len0 ≤ len ∧ st0.1 < st.1 ∧ (∀ z, z < 8 * cl → A 26 z = A0 26 z) ∧ A 26 (8 * cl) = W ∧ (0 ≤ A 26 (8 * cl + 1) ∧ A 26 (8 * cl + 2) ≤ len) ∧ (if W = 4 then A 26 (8 * cl + 1) = A 26 (8 * cl + 2) else Seg (insR true A) (A 26 (8 * cl + 1)) (A 26 (8 * cl + 2)) f)
section ROW2
variable {m : Nat} {B : Int → Int} {n : Int} {st st0 : STK} {s s0 : AS} {A A0 : MA} {len len0 cl W : Int} {f : SEM}
theorem m_ordTail {g : SEM} (h : OrS s0 A0 st0 len0 m B n cl W f s A st len) (hcl : 0 ≤ cl ∧ cl < 12) (hb : 0 ≤ A 26 (8 * cl + 3) ∧ A 26 (8 * cl + 4) ≤ len) (hg : if 1 < W then A 26 (8 * cl + 3) = A 26 (8 * cl + 4) else Seg (insR true A) (A 26 (8 * cl + 3)) (A 26 (8 * cl + 4)) g) :
    SpcD (clsT B n true W f g st) (b_M_readOrder_154 m (v (8 * cl)) s) s0 m A0 B n st0 len0 cl := by
  obtain ⟨h1, h2, h3, h4, h5, h6, h7, h8, h9, h10, h11⟩ := h
  have ht := m_ord154 (c := 8 * cl) h1 (by omega)
  unfold clsT
  cases hr : timesP B n true st with
  | error e =>
    rw [hr] at ht
    obtain ⟨s5, A5, z1, z2, z3, z4⟩ := ht
    exact ⟨s5, A5, z1, z2, h3.tr z3, h4.tr z4⟩
  | ok x =>
    obtain ⟨x, st5⟩ := x
    rw [hr] at ht
    obtain ⟨s5, A5, z1, z2, z3, ⟨z4, z4'⟩, z5, z6, z7⟩ := ht
    have hu := m_ord202 (c := 8 * cl) z2 (by omega)
    rw [z1]
    show SpcD (match ifP B n true st5 with
      | .error e => .error e
      | .ok (h, st3) => .ok ((W, x, f, g, h), st3)) _ s0 m A0 B n st0 len0 cl
    cases hi : ifP B n true st5 with
    | error e =>
      rw [hi] at hu
      obtain ⟨s6, A6, y1, y2, y3, y4⟩ := hu
      exact ⟨s6, A6, y1, y2, (h3.tr (sc26_C z5)).tr y3, (h4.tr z6).tr y4⟩
    | ok y =>
      obtain ⟨k, st6⟩ := y
      rw [hi] at hu
      obtain ⟨s6, A6, len6, y1, y2, ⟨y3, y3'⟩, y4, y5, y6, y7, y8⟩ := hu
      have hle := y4.le
      have hl0 := h1.2.2.2.2.2.1
      have N : ∀ z, z < 8 * cl + 5 → A6 26 z = A 26 z := fun z hz => by rw [y6 26 z (by omega), z5 26 z (by omega)]
      have hag : ∀ {i j : Int}, 0 ≤ i → j ≤ len → Agr (insR true A) (insR true A6) i j := fun hi hj => ((CodK.eq (i := len) z4 z4').tr y5).mo hj |>.agr hi
      refine ⟨s6, A6, len6, y1, y2, by rw [y6 0 20 (by omega), z5 0 20 (by omega)]; exact h2, ⟨⟨?_, ?_⟩, ⟨⟨?_, ?_⟩, ⟨?_, ?_⟩, ?_, ?_⟩, ?_, ?_, ?_⟩, fun z hz => ?_, (h5.tr (CodK.eq z4 z4')).tr (y5.mo h6), (h3.tr (sc26_C z5)).tr (sc26_C y6), (h4.tr z6).tr y7, by omega, by omega⟩
      · rw [N _ (by omega)]; exact h9
      · rw [y6 26 (8 * cl + 7) (by omega)]; exact z3
      · rw [N _ (by omega)]; exact h10.1
      · rw [N _ (by omega)]; have := h10.2; omega
      · rw [N _ (by omega)]; exact hb.1
      · rw [N _ (by omega)]; have := hb.2; omega
      · rw [y3]; exact hl0
      · rw [y3']; exact Int.le_refl _
      · rw [N _ (by omega), N _ (by omega)]
        by_cases c4 : W = 4
        · rw [if_pos c4] at h11 ⊢; exact h11
        · rw [if_neg c4] at h11 ⊢; exact h11.agr (hag h10.1 h10.2)
      · rw [N _ (by omega), N _ (by omega)]
        by_cases c1 : 1 < W
        · rw [if_pos c1] at hg ⊢; exact hg
        · rw [if_neg c1] at hg ⊢; exact hg.agr (hag hb.1 hb.2)
      · rw [y3, y3']; exact y4
      · rw [N _ (by omega)]; exact h8 z hz
def clsU (B : Int → Int) (n W : Int) (f : SEM) (st : STK) : Except Int (CLS × STK) := match sums2P B n true W f st with
  | .error e => .error e
  | .ok ((f, g), st1) => clsT B n true W f g st1
theorem m_ordBehind {k c : Nat} {x : List Nat} (h : OrS s0 A0 st0 len0 m B n cl W f s A st len) (hcl : 0 ≤ cl ∧ cl < 12) (hW : W = 0 ∨ W = 1) (hk : k < 18) (hx : (wrdZ k)[0]? = some x ∧ wdOK x ∧ valR x.reverse = c) (hwk : k = if W = 0 then 8 else 9) :
    SpcD (clsU B n W f st) ((f_M_readBehind s m (lN c) (v (8 * cl + 3))).bind fun r1 => b_M_readOrder_154 m (v (8 * cl)) r1) s0 m A0 B n st0 len0 cl := by
  obtain ⟨h1, h2, h3, h4, h5, h6, h7, h8, h9, h10, h11⟩ := h
  have hsp := m_behindX (a := 8 * cl + 3) h1 (by omega) hk hx
  have e2 : sums2P B n true W f st = if wd B st k = 0 then (match sumD B n true 8 (nxS B n st) with
    | .error e => .error e
    | .ok (g, st2) => .ok ((f, g), st2)) else .error st.1 := by
    unfold sums2P
    rw [if_neg (show ¬ (true = false ∨ 1 < W) from fun d => by
      rcases d with d | d
      · cases d
      · omega), hwk]
    rfl
  unfold clsU
  rw [e2]
  by_cases cw : wd B st k = 0
  · rw [if_pos cw] at hsp ⊢
    cases hr : sumD B n true 8 (nxS B n st) with
    | error e =>
      rw [hr] at hsp
      obtain ⟨s2, A2, p1, p2, p3, p4⟩ := hsp
      obtain ⟨s3, A3, y1, y2, y3, y4⟩ := m_bad154 (c := 8 * cl) p2 (by omega)
      exact ⟨s3, A3, by rw [p1, Option.bind_some, y1], y2, (h3.tr (sc26_C p3)).tr y3, (h4.tr p4).tr y4⟩
    | ok y =>
      obtain ⟨g, st2⟩ := y
      rw [hr] at hsp
      obtain ⟨s2, A2, len2, p1, p2, ⟨l0, p3, p3', p3'', p3s⟩, p4, p5, p6, p7⟩ := hsp
      have hl2 := p3s.1
      have hl0 := h1.2.2.2.2.2.1
      rw [p1, Option.bind_some]
      show SpcD (clsT B n true W f g st2) _ s0 m A0 B n st0 len0 cl
      have N : ∀ z, z < 8 * cl + 3 → A2 26 z = A 26 z := fun z hz => p5 26 z (by omega)
      refine m_ordTail (s := s2) (A := A2) (len := len2) ⟨p2, by rw [p5 0 20 (by omega)]; exact h2, h3.tr (sc26_C p5), h4.tr p6, h5.tr (p4.mo h6), by omega, by omega, fun z hz => by rw [N _ (by omega)]; exact h8 z hz, by rw [N _ (by omega)]; exact h9, ⟨by rw [N _ (by omega)]; exact h10.1, by rw [N _ (by omega)]; have := h10.2; omega⟩, ?_⟩ hcl ⟨by omega, by rw [show 8 * cl + 4 = 8 * cl + 3 + 1 by omega, p3']; exact Int.le_refl _⟩ ?_
      · rw [N _ (by omega), N _ (by omega)]
        rw [if_neg (by omega)] at h11 ⊢
        exact h11.agr ((p4.mo h10.2).agr h10.1)
      · rw [if_neg (by omega), show 8 * cl + 4 = 8 * cl + 3 + 1 by omega, p3, p3']
        exact p3s
  · rw [if_neg cw] at hsp ⊢
    obtain ⟨s2, A2, p1, p2, p3, p4⟩ := hsp
    obtain ⟨s3, A3, y1, y2, y3, y4⟩ := m_bad154 (c := 8 * cl) p2 (by omega)
    exact ⟨s3, A3, by rw [p1, Option.bind_some, y1], y2, (h3.tr (sc26_C p3)).tr y3, (h4.tr p4).tr y4⟩
theorem m_ord125 (h : OrS s0 A0 st0 len0 m B n cl W f s A st len) (hcl : 0 ≤ cl ∧ cl < 12) (hW : 0 ≤ W ∧ W ≤ 4) (h3 : A 26 (8 * cl + 3) = 0) (h4 : A 26 (8 * cl + 4) = 0) :
    SpcD (clsU B n W f st) (b_M_readOrder_125 m (v W) (v (8 * cl)) s) s0 m A0 B n st0 len0 cl := by
  have h1 := h.1
  unfold b_M_readOrder_125 b_M_readOrder_139
  rw [nv0, nv1, nv3, v_add]
  by_cases c0 : W = 0
  · rw [if_pos (peq c0), if_pos h1.1.t]
    have := m_ordBehind (k := 8) (c := 486) (x := [111, 102]) h hcl (Or.inl c0) (by decide) ⟨rfl, by decide, by decide⟩ (by rw [if_pos c0])
    have e : ∀ r1 : AS, (if v W = v 1 then (if sT r1 m = 13 then (f_M_readBehind r1 m (lN 655) (v (8 * cl + 3))).bind fun r1 => b_M_readOrder_154 m (v (8 * cl)) r1 else none) else b_M_readOrder_154 m (v (8 * cl)) r1) = b_M_readOrder_154 m (v (8 * cl)) r1 := fun r1 => by
      rw [if_neg (pne (by omega))]
    simp only [e]
    exact this
  · rw [if_neg (pne (by omega))]
    by_cases c1 : W = 1
    · rw [if_pos (peq c1), if_pos h1.1.t]
      exact m_ordBehind (k := 9) (c := 655) (x := [116, 111]) h hcl (Or.inr c1) (by decide) ⟨rfl, by decide, by decide⟩ (by rw [if_neg c0])
    · rw [if_neg (pne (by omega))]
      have e2 : clsU B n W f st = clsT B n true W f semE st := by
        unfold clsU sums2P
        rw [if_pos (Or.inr (show 1 < W by omega))]
      rw [e2]
      have hl0 := h1.2.2.2.2.2.1
      exact m_ordTail h hcl ⟨by omega, by omega⟩ (by rw [if_pos (show 1 < W by omega), h3, h4])
theorem m_ord85 {c : Int} (hW : 0 ≤ W ∧ W ≤ 10) (hc : 0 ≤ c ∧ c ≤ 88) : ∀ (j N k : Nat) (s : AS) (A A0 : MA), k + j = 8 → j < N → MR s m A → AF (fun i z => i = 26 ∧ c ≤ z ∧ z < c + 8) A0 A → (∀ y : Int, 0 ≤ y → y < k → A 26 (c + y) = 0) →
    ∃ s' A', l_M_readOrder_85 N m (v W) (v c) (v k) s = b_M_readOrder_85 (fun _ _ _ _ _ => none) m (v W) (v c) (v 8) s' ∧ MR s' m A' ∧ AF (fun i z => i = 26 ∧ c ≤ z ∧ z < c + 8) A0 A' ∧ (∀ y : Int, 0 ≤ y → y < 8 → A' 26 (c + y) = 0) ∧ Fr (inM m) s s' := by
  intro j
  induction j with
  | zero =>
    intro N k s A A0 hk hN h ha hz
    obtain ⟨N, rfl⟩ : ∃ x, N = x + 1 := ⟨N - 1, by omega⟩
    refine ⟨s, A, ?_, h, ha, fun y y0 y1 => hz y y0 (by omega), Fr.rf _ _⟩
    rw [show k = 8 by omega]
    show b_M_readOrder_85 _ _ _ _ _ _ = _
    unfold b_M_readOrder_85
    rw [nv8, if_neg (nlt (by omega)), if_neg (nlt (by omega))]
  | succ j ih =>
    intro N k s A A0 hk hN h ha hz
    obtain ⟨N, rfl⟩ : ∃ x, N = x + 1 := ⟨N - 1, by omega⟩
    have k1 := h.si 26 (by decide) (by decide) (z := c + k) (x := 0) ⟨by omega, by show c + k < 96; omega⟩
    obtain ⟨s', A', q1, q2, q3, q4, q5⟩ := ih N (k + 1) _ _ A0 (by omega) (by omega) k1 (ha.tr (AF.pu ⟨rfl, by omega, by omega⟩)) (fun y y0 y1 => by
      rw [pu_v]
      by_cases e : c + y = c + k
      · rw [if_pos e]
      · rw [if_neg e]; exact hz y y0 (by omega))
    refine ⟨s', A', ?_, q2, q3, q4, (inM_s (by decide)).tr q5⟩
    rw [← q1]
    show b_M_readOrder_85 _ _ _ _ _ _ = _
    rw [show b_M_readOrder_85 (l_M_readOrder_85 N) m (v W) (v c) (v k) s = l_M_readOrder_85 N m (v W) (v c) (v k + nI 1) (setI s (m + 26) (c + k).toNat (v 0)) from by
      unfold b_M_readOrder_85
      rw [nv8, if_pos (plt (by omega)), if_pos h.t, h.r49, h.t49, h.n49, v_add, if_pos ⟨rfl, v_inA (by omega) (by omega)⟩, v_ix (by omega), nv0]]
    rw [nv1, v_add]
    rfl
theorem clsS_U : clsS B n true W st = if ownS true W then (match sumD B n true 8 st with
    | .error e => .error e
    | .ok (f, st1) => clsU B n W f st1) else clsU B n W semE st := by
  unfold clsS sumsP clsU
  by_cases c : ownS true W
  · rw [if_pos c, if_pos c]
    cases sumD B n true 8 st with
    | error e => rfl
    | ok x => rfl
  · rw [if_neg c, if_neg c]
    rfl
theorem m_ord54 (h : RfX s m A B n true st len) (ht : st.1 < st.2.1) (h20 : A 0 20 = cl) (hcl : 0 ≤ cl ∧ cl < 12) (hW : 0 ≤ W ∧ W ≤ 4) : SpcD (clsS B n true W (nxS B n st)) (b_M_readOrder_54 m (v W) (v 1) m s) s m A B n st len cl := by
  have hst : 0 ≤ st.1 ∧ st.1 ≤ st.2.1 ∧ st.2.1 ≤ n := h.2.1.2.2.1.1
  have hT := nxS_T (B := B) (n := n) h.2.1.2.2.1
  have ge : st.2.1 ≤ (nxS B n st).1 := hT.2.1
  have hl0 := h.2.2.2.2.2.1
  obtain ⟨s1, A1, q1, q2, q3, q4⟩ := m_mustXT h
  have e20 : A1 0 20 = cl := by rw [q3 0 20 (by omega)]; exact h20
  have j1 := q2.1.s0 (x := cl + 1) (k := 20) (z := 20) rfl (by decide)
  obtain ⟨s2, A2, p1, p2, p3, p3z, p4⟩ := m_ord85 (W := W) (c := 8 * cl) (by omega) (by omega) 8 fuel 0 _ _ (pu A1 0 20 (cl + 1)) rfl (by unfold fuel; omega) j1 (AF.rf _ _) (fun y y0 y1 => by omega)
  have a2 : AF scrN A1 A2 := (AF.pu (Or.inr (Or.inr ⟨rfl, rfl⟩))).tr (p3.mo (fun j z hj => Or.inr (Or.inl hj.1)))
  have x2 := q2.fr p2 a2
  have k3 := p2.si 26 (by decide) (by decide) (z := 8 * cl) (x := W) ⟨by omega, by show 8 * cl < 96; omega⟩
  have a3 : AF scrN A1 (pu A2 26 (8 * cl) W) := a2.tr (AF.pu (Or.inr (Or.inl rfl)))
  have x3 := q2.fr k3 a3
  have fr3 : Fr (inM m) s (setI s2 (m + 26) (8 * cl).toNat (v W)) := ((q4.tr (Fr.si (by omega))).tr p4).tr (inM_s (by decide))
  have r11 : pu A2 26 (8 * cl) W 11 = A 11 := (a3.row (fun z => by omega)).trans (q3.row (fun z => by omega))
  have r12 : pu A2 26 (8 * cl) W 12 = A 12 := (a3.row (fun z => by omega)).trans (q3.row (fun z => by omega))
  have ac : AF scrC A (pu A2 26 (8 * cl) W) := (scrR_C (tok_R q3)).tr (scrN_C a3)
  have N0 : pu A2 26 (8 * cl) W 26 (8 * cl) = W := pu_eq _ _ _ _
  have Ny : ∀ y : Int, 1 ≤ y → y < 8 → pu A2 26 (8 * cl) W 26 (8 * cl + y) = 0 := fun y y0 y1 => by rw [pu_ne _ _ _ _ (by omega)]; exact p3z y (by omega) y1
  have N20 : pu A2 26 (8 * cl) W 0 20 = cl + 1 := by rw [pu_row _ _ _ _ (by decide), p3 0 20 (by omega), pu_eq]
  have Nz : ∀ z, z < 8 * cl → pu A2 26 (8 * cl) W 26 z = A 26 z := fun z hz => by
    rw [pu_ne _ _ _ _ (by omega), p3 26 z (by omega), pu_row _ _ _ _ (by decide), q3 26 z (by omega)]
  unfold b_M_readOrder_54
  rw [if_pos h.1.t, q1, Option.bind_some, if_pos q2.1.t, q2.bad, nv0, if_pos rfl, q2.1.i20, e20, nv8, nv1, v_mul, v_add, show (v 0 : Int32) = v ((0 : Nat) : Int) from rfl, p1]
  unfold b_M_readOrder_85
  rw [nv8, if_neg (nlt (by omega)), if_pos p2.t, p2.r49, p2.t49, p2.n49, if_pos ⟨rfl, v_inA (by omega) (by omega)⟩, v_ix (by omega), nv1, v_add, nv4, clsS_U]
  by_cases c4 : W = 4
  · rw [if_pos (peq c4), if_neg (show ¬ ownS true W from fun d => d c4)]
    refine m_ord125 (s0 := s) (A0 := A) (st0 := st) (len0 := len) ⟨x3, N20, ac, fr3, CodK.eq r11 r12, Int.le_refl _, by omega, Nz, N0, ⟨by rw [Ny 1 (by omega) (by omega)]; exact Int.le_refl _, by rw [Ny 2 (by omega) (by omega)]; exact hl0⟩, ?_⟩ hcl hW (Ny 3 (by omega) (by omega)) (Ny 4 (by omega) (by omega))
    rw [if_pos c4, Ny 1 (by omega) (by omega), Ny 2 (by omega) (by omega)]
  · rw [if_neg (pne (by omega)), if_pos (show ownS true W from c4)]
    have hsp := m_readSumX (a := 8 * cl + 1) x3 (by omega)
    cases hr : sumD B n true 8 (nxS B n st) with
    | error e =>
      rw [hr] at hsp
      obtain ⟨s4, A4, z1, z2, z3, z4⟩ := hsp
      obtain ⟨s5, A5, y1, y2, y3, y4⟩ := m_bad125 (c := 8 * cl) (W := W) z2 (by omega)
      exact ⟨s5, A5, by rw [z1, Option.bind_some, y1], y2, (ac.tr (sc26_C z3)).tr y3, (fr3.tr z4).tr y4⟩
    | ok x =>
      obtain ⟨f, st4⟩ := x
      rw [hr] at hsp
      obtain ⟨s4, A4, len4, z1, z2, ⟨l0, z3, z3', z3'', z3s⟩, z4, z5, z6, z7⟩ := hsp
      have hl4 := z3s.1
      rw [z1, Option.bind_some]
      have e12 : A4 26 (8 * cl + 2) = len4 := by rw [show 8 * cl + 2 = 8 * cl + 1 + 1 by omega]; exact z3'
      refine m_ord125 (s0 := s) (A0 := A) (st0 := st) (len0 := len) (f := f) ⟨z2, by rw [z5 0 20 (by omega), N20], ac.tr (sc26_C z5), fr3.tr z6, (CodK.eq r11 r12).tr z4, by omega, by omega, fun z hz => by rw [z5 26 z (by omega), Nz z hz], by rw [z5 26 (8 * cl) (by omega), N0], ⟨by rw [z3]; omega, by rw [e12]; exact Int.le_refl _⟩, ?_⟩ hcl hW (by rw [z5 26 (8 * cl + 3) (by omega), Ny 3 (by omega) (by omega)]) (by rw [z5 26 (8 * cl + 4) (by omega), Ny 4 (by omega) (by omega)])
      rw [if_neg c4, e12, z3]
      exact z3s
theorem m_ordF (h : RfX s m A B n true st len) : ∃ s' A', b_M_readOrder_54 m (v W) (v 0) m s = some s' ∧ BadM s' m A' st.1 ∧ AF scrC A A' ∧ Fr (inM m) s s' := by
  obtain ⟨s1, A1, q1, q2, q3, q4⟩ := m_mustXF h
  refine ⟨s1, A1, ?_, q2, scrR_C q3, q4⟩
  unfold b_M_readOrder_54
  rw [if_pos h.1.t, q1, Option.bind_some, if_pos q2.1.t, q2.bad, nv0, if_neg (show ¬ v 1 = v 0 by decide)]
theorem m_ordW (h : RfX s m A B n true st len) : ∀ (j N k : Nat), k + j = 5 → j < N → l_M_readOrder_4 N m (v (atW (wd B st 0) k)) (v k) s = b_M_readOrder_4 (fun _ _ _ _ => none) m (v (atW (wd B st 0) 5)) (v 5) s := by
  intro j
  induction j with
  | zero =>
    intro N k hk hN
    obtain ⟨N, rfl⟩ : ∃ x, N = x + 1 := ⟨N - 1, by omega⟩
    rw [show k = 5 by omega]
    show b_M_readOrder_4 _ _ _ _ _ = _
    unfold b_M_readOrder_4
    rw [nv5, if_neg (nlt (by omega)), if_neg (nlt (by omega))]
    rfl
  | succ j ih =>
    intro N k hk hN
    obtain ⟨N, rfl⟩ : ∃ x, N = x + 1 := ⟨N - 1, by omega⟩
    obtain ⟨x, hx⟩ : ∃ x, (wrdZ 0)[k]? = some x := ⟨(wrdZ 0)[k]'(by show k < 5; omega), List.getElem?_eq_getElem _⟩
    have hq := wrdZ_ok 0 (by omega) x (List.mem_of_getElem? hx)
    have hw := m_wordW h.1 h.2.1.1 h.2.1.2.1 h.2.1.2.2 hq
    rw [← h.2.2.1.2.2.2.2.2.2 k x hx] at hw
    have hb : bi (isWd B st.1 st.2.1 x = true) = bi (wd B st 0 = k) := bi_iff (wd_at (by decide) hx).symm
    rw [← ih N (k + 1) (by omega) (by omega)]
    show b_M_readOrder_4 _ _ _ _ _ = _
    rw [show b_M_readOrder_4 (l_M_readOrder_4 N) m (v (atW (wd B st 0) k)) (v k) s = l_M_readOrder_4 N m (if v (bi (wd B st 0 = k)) = v 0 then v (atW (wd B st 0) k) else v k) (v k + nI 1) s from by
      unfold b_M_readOrder_4
      rw [nv5, if_pos (plt (by omega)), if_pos h.1.t, h.1.r48, h.1.t48, h.1.n48, if_pos ⟨rfl, v_inA (by omega) (by omega)⟩, v_ix (by omega), h.1.a48 k (by omega), hw, Option.bind_some, hb, nv0]]
    rw [atW_s (by omega), nv1, v_add]
    rfl
theorem m_readOrder (h : RfX s m A B n true st len) (h20 : A 0 20 = cl) (hcl : 0 ≤ cl ∧ cl ≤ 100) : SpcD (clauseP B n true cl st) (f_M_readOrder s m) s m A B n st len cl := by
  have hw := wd_r B st 0
  have l1 : ((wrdZ 0).length : Int) = 5 := rfl
  have h0 := m_ordW h 5 fuel 0 (by omega) (by unfold fuel; omega)
  have e0 : atW (wd B st 0) ((0 : Nat) : Int) = -1 := by unfold atW; rw [if_neg (by omega)]
  have e2 : atW (wd B st 0) 5 = wd B st 0 := by
    unfold atW
    rcases hw with e | e
    · rw [if_neg (by omega), e]
    · rw [if_pos ⟨by omega, by omega⟩]
  rw [e0, e2] at h0
  have e : f_M_readOrder s m = b_M_readOrder_4 (fun _ _ _ _ => none) m (v (wd B st 0)) (v 5) s := h0
  rw [e]
  unfold b_M_readOrder_4 b_M_readOrder_53 clauseP
  rw [nv0, nv1, nv5, nv12, v_neg, if_neg (nlt (by omega)), if_pos h.1.t, h.1.i20, h20, show hdK true = 0 from rfl]
  by_cases c : wd B st 0 = -1
  · rw [if_pos (peq c), if_pos (Or.inr c)]
    exact m_ordF h
  · rw [if_neg (pne (by omega))]
    by_cases c12 : 12 ≤ cl
    · rw [if_neg (nlt (by omega)), if_pos (Or.inl c12)]
      exact m_ordF h
    · rw [if_pos (plt (by omega)), if_neg (by omega)]
      exact m_ord54 h (wd_lt c) h20 (by omega) (by omega)
end ROW2
