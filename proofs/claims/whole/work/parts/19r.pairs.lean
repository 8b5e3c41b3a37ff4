/-! PAIRS: view, find -/
def vwI (P : PG) (a : Int) (B : Int → Int) (i : Int) : (Int → Int) × Int := (fun z => if 0 ≤ z ∧ z < i then byteP P a z else B z, i)
def vieW (P : PG) (a : Int) (vw : (Int → Int) × Int) : (Int → Int) × Int := if recP P a then vwI P a vw.1 (sizeP P a) else vw
def vieA (P : PG) (a : Int) : Int := if recP P a then sizeP P a else -1
def fndL (P : PG) (B : Int → Int) (len : Int) : Nat → Int → Int
  | 0, _ => -1
  | k + 1, a => if recP P a ∧ holdP P a B len = 1 then a else fndL P B len k (a + 1)
def fndZ (P : PG) (tp : (Int → Int) × Int) : Int := fndL P tp.1 tp.2 128 0
theorem holdL_r (P : PG) (a : Int) (B : Int → Int) : ∀ (n : Nat) (y : Int), holdL P a B n y = 0 ∨ holdL P a B n y = 1 := by
  intro n
  induction n with
  | zero => intro y; exact Or.inr rfl
  | succ n ih =>
    intro y
    unfold holdL
    split
    · exact ih _
    · exact Or.inl rfl
theorem holdP_r (P : PG) (a : Int) (B : Int → Int) (len : Int) : holdP P a B len = 0 ∨ holdP P a B len = 1 := by
  unfold holdP
  split
  · exact holdL_r P a B _ _
  · exact Or.inl rfl
theorem fndL_big {P : PG} {B : Int → Int} {len : Int} (hH : PgH P) (hl : 200 < len) : ∀ (k : Nat) (a : Int), fndL P B len k a = -1 := by
  obtain ⟨⟨hI, rk, hL⟩, wt, hw⟩ := hH
  intro k
  induction k with
  | zero => intro a; rfl
  | succ k ih =>
    intro a
    unfold fndL
    rw [ih, if_neg]
    rintro ⟨h1, h2⟩
    have := size_rec hI.1.1 hL hw h1
    unfold holdP at h2
    rw [if_neg (by omega)] at h2
    omega
section PGX
variable {D : DYN} {tp : (Int → Int) × Int} {se : ST1} {P : PG} {LG : LGS} {IM : Nat → IMG} {ms : Int → Int} {dr : DRW} {cn : Nat} {B : Int → Int}
theorem c_viewL {a : Int} (hH : PgH P) (hr : recP P a) : ∀ (k n : Nat) (i : Int) (s : AS), i + k = sizeP P a → 0 ≤ i → k < n → RepD s D tp se P LG IM ms (vwI P a B i) dr cn → CO s (l_C_view_38 n 1 (v a) (v (sizeP P a)) (v i) s) (sizeP P a) tp se P LG IM ms (vwI P a B (sizeP P a)) dr cn := by
  have hB := hH.1.1.1.1
  obtain ⟨⟨hI, rk, hL⟩, wt, hw⟩ := hH
  have hs := size_rec hB hL hw hr
  intro k
  induction k with
  | zero =>
    intro n i s hi h0 hn h
    obtain ⟨n, rfl⟩ : ∃ m, n = m + 1 := ⟨n - 1, by omega⟩
    have hvw := h.2.2.2.1
    have e : i = sizeP P a := by omega
    show CO s (b_C_view_38 _ _ _ _ _ _) _ _ _ _ _ _ _ _ _ _
    unfold b_C_view_38
    rw [if_neg (nlt (by omega)), if_pos h.1.1, h.1.2.1.2.1, if_pos hvw.1.1, hvw.2.1]
    rw [e] at h ⊢
    exact CO.rf h
  | succ k ih =>
    intro n i s hi h0 hn h
    obtain ⟨n, rfl⟩ : ∃ m, n = m + 1 := ⟨n - 1, by omega⟩
    have hvw := h.2.2.2.1
    obtain ⟨o1, o2, o3, o4, o5⟩ := h.lv
    obtain ⟨s', q1, q2, q3⟩ := s_radd (x := byteP P a i) hvw (by show 0 ≤ i ∧ i < 200; omega) (by decide)
    have h1 : RepD s' D tp se P LG IM ms (vwI P a B (i + 1)) dr cn := h.u_vw q3 (q2.ext (fun z z0 z1 => by
      show bu (fun z => if 0 ≤ z ∧ z < i then byteP P a z else B z) i (byteP P a i) z = if 0 ≤ z ∧ z < i + 1 then byteP P a z else B z
      by_cases c : z = i
      · rw [c, bu_eq, if_pos (by omega)]
      · rw [bu_ne c]
        by_cases c2 : 0 ≤ z ∧ z < i
        · rw [if_pos c2, if_pos (by omega)]
        · rw [if_neg c2, if_neg (by omega)]))
    obtain ⟨s2, D2, r1, r2, r3⟩ := ih n (i + 1) s' (by omega) (by omega) (by omega) h1
    refine ⟨s2, D2, ?_, r2, (q3.grM (fun q hq => by rcases hq with e | e <;> omega)).tr r3⟩
    show b_C_view_38 _ _ _ _ _ _ = _
    unfold b_C_view_38
    rw [if_pos (plt (by omega)), if_pos o1, o2, if_pos o3, o4, if_pos o5.1.1, s_byteAt o5 hB (by omega) (by omega), Option.bind_some, h.1.2.1.2.1, if_pos hvw.1.1, q1, Option.bind_some, nv1, v_add]
    exact r1
variable {s : AS} {vw : (Int → Int) × Int}
theorem c_view (h : RepD s D tp se P LG IM ms vw dr cn) (hH : PgH P) {a : Int} (ha : r32 a) : CO s (f_C_view s 1 (v a)) (vieA P a) tp se P LG IM ms (vieW P a vw) dr cn := by
  have hB := hH.1.1.1.1
  obtain ⟨o1, o2, o3, o4, o5⟩ := h.lv
  unfold f_C_view vieA vieW
  rw [if_pos o1, o2, if_pos o3, o4, if_pos o5.1.1, s_isRecord o5 hB ha, Option.bind_some, nv0, nv1, v_neg]
  by_cases r : recP P a
  · have hvw := h.2.2.2.1
    have hsz : 0 ≤ sizeP P a ∧ sizeP P a ≤ 200 := by
      obtain ⟨⟨hI, rk, hL⟩, wt, hw⟩ := hH
      have hs := size_rec hB hL hw r
      omega
    have f1 : Fr (fun q => q = 4 ∨ q = 5) s (setI s 4 1 (v 0)) := Fr.si (Or.inl rfl)
    have h1 : RepD (setI s 4 1 (v 0)) D tp se P LG IM ms (vwI P a vw.1 0) dr cn := h.u_vw f1 (hvw.len0.ext (fun z z0 z1 => by
      show vw.1 z = if 0 ≤ z ∧ z < 0 then _ else vw.1 z
      rw [if_neg (by omega)]))
    obtain ⟨s2, D2, r1, r2, r3⟩ := c_viewL (B := vw.1) hH r (sizeP P a).toNat fuel 0 _ (by omega) (by omega) (by unfold fuel; omega) h1
    rw [bi_t r, if_neg (show ¬ v 1 = v 0 by decide), if_pos r, if_pos r, s_sizeOf o5 hB (by omega), Option.bind_some, h.1.2.1.2.1, if_pos hvw.1.1]
    exact ⟨s2, D2, r1, r2, (f1.grM (fun q hq => by omega)).tr r3⟩
  · rw [bi_f r, if_pos rfl, if_neg r, if_neg r]
    exact CO.rf h
theorem c_findL (h : RepD s D tp se P LG IM ms vw dr cn) (hT : TpB tp) (hH : PgH P) : ∀ (k n : Nat) (a : Int), a + k = 128 → 0 ≤ a → k < n → l_C_find_4 n 1 (v (-1)) (v a) s = some (v (fndL P tp.1 tp.2 k a), setI s 2 1 (v 0)) := by
  obtain ⟨o1, o2, o3, o4, o5⟩ := h.lv
  obtain ⟨t1, t2, t3, t4⟩ := h.tp2
  have hB := hH.1.1.1.1
  have hn := hT.1
  have fin : ∀ (n : Nat) (a x : Int), r32 x → 0 ≤ a ∧ a ≤ 128 → (a = 128 ∨ x ≠ -1) → l_C_find_4 (n + 1) 1 (v x) (v a) s = some (v x, setI s 2 1 (v 0)) := by
    intro n a x hx ha h2
    show b_C_find_4 _ _ _ _ _ = _
    unfold b_C_find_4
    rw [nv128, nv0, nv1, v_neg]
    by_cases c : a < 128
    · rw [if_pos (plt (by omega)), if_neg (pne (by omega)), if_pos o1, t1, if_pos t2]
    · rw [if_neg (nlt (by omega)), if_pos o1, t1, if_pos t2]
  intro k
  induction k with
  | zero =>
    intro n a hi h0 hk
    obtain ⟨n, rfl⟩ : ∃ m, n = m + 1 := ⟨n - 1, by omega⟩
    rw [fin n a (-1) (by decide) (by omega) (Or.inl (by omega))]
    rfl
  | succ k ih =>
    intro n a hi h0 hk
    obtain ⟨n, rfl⟩ : ∃ m, n = m + 1 := ⟨n - 1, by omega⟩
    have hs := ih n (a + 1) (by omega) (by omega) (by omega)
    show b_C_find_4 _ _ _ _ _ = _
    unfold b_C_find_4 fndL
    rw [nv128, nv0, nv1, v_neg, if_pos (plt (by omega)), if_pos rfl, if_pos o1, o2, if_pos o3, o4, if_pos o5.1.1, s_isRecord o5 hB (by omega), Option.bind_some, v_add]
    by_cases e : recP P a
    · rw [bi_t e, if_neg (show ¬ v 1 = v 0 by decide), t1, s_holdsJust o5 hB e.1 t4 (fun z => by have := hT.2 z; omega) (by omega), Option.bind_some]
      rcases holdP_r P a tp.1 tp.2 with f | f
      · rw [f, if_pos rfl, if_neg (by omega)]
        exact hs
      · rw [f, if_neg (show ¬ v 1 = v 0 by decide), if_pos ⟨e, rfl⟩]
        obtain ⟨n, rfl⟩ : ∃ m, n = m + 1 := ⟨n - 1, by omega⟩
        exact fin n (a + 1) a (by omega) (by omega) (Or.inr (by omega))
    · rw [bi_f e, if_pos rfl, if_neg (fun z => e z.1)]
      exact hs
theorem c_find (h : RepD s D tp se P LG IM ms vw dr cn) (hT : TpB tp) (hH : PgH P) : CO s (f_C_find s 1) (fndZ P tp) (tp.1, 0) se P LG IM ms vw dr cn := by
  obtain ⟨h1, g1, -⟩ := h.tp0
  refine ⟨_, D, ?_, h1, g1⟩
  unfold f_C_find
  rw [nv1, nv0, v_neg]
  exact c_findL h hT hH 128 fuel 0 (by omega) (by omega) (by unfold fuel; omega)
variable {A : MA}
theorem m_viewL {a : Int} (hH : PgH P) (hr : recP P a) {A0 : MA} (hP0 : PgM (A0 2) P) : ∀ (k n : Nat) (i : Int) (s : AS) (A : MA), i + k = sizeP P a → 0 ≤ i → k < n → MR s 78 A → AF (fun j z => j = 23) A0 A → A 0 46 = sizeP P a → (∀ z, 0 ≤ z → z < i → A 23 z = byteP P a z) → ∃ s' A', l_M_view_26 n 78 (v a) (v i) s = some (v (sizeP P a), s') ∧ MR s' 78 A' ∧ AF (fun j z => j = 23) A0 A' ∧ (∀ z, 0 ≤ z → z < sizeP P a → A' 23 z = byteP P a z) ∧ Fr (inM 78) s s' := by
  obtain ⟨⟨hI, rk, hL⟩, wt, hw⟩ := hH
  have hs := size_rec hI.1.1 hL hw hr
  intro k
  induction k with
  | zero =>
    intro n i s A hi h0 hn h ha h46 hz
    obtain ⟨n, rfl⟩ : ∃ m, n = m + 1 := ⟨n - 1, by omega⟩
    refine ⟨s, A, ?_, h, ha, fun z z0 z1 => hz z z0 (by omega), Fr.rf _ _⟩
    show b_M_view_26 _ _ _ _ _ = _
    unfold b_M_view_26
    rw [if_pos h.t, h.i46, h46, if_neg (nlt (by omega))]
  | succ k ih =>
    intro n i s A hi h0 hn h ha h46 hz
    obtain ⟨n, rfl⟩ : ∃ m, n = m + 1 := ⟨n - 1, by omega⟩
    have e2 : A 2 = A0 2 := funext (fun z => ha 2 z (by omega))
    obtain ⟨s', A', q1, q2, q3, q4, q5⟩ := ih n (i + 1) _ _ (by omega) (by omega) (by omega) (h.si (x := byteP P a i) 23 (by decide) (by decide) (z := i) ⟨h0, by show i < (200 : Int); omega⟩) (ha.tr (AF.pu rfl)) (by rw [pu_row _ _ _ _ (by decide)]; exact h46) (fun z z0 z1 => by
        by_cases c : z = i
        · rw [c, pu_eq]
        · rw [pu_ne _ _ _ _ (fun e => c e.2)]; exact hz z z0 (by omega))
    refine ⟨s', A', ?_, q2, q3, q4, (Fr.si (by omega)).tr q5⟩
    show b_M_view_26 _ _ _ _ _ = _
    unfold b_M_view_26
    rw [if_pos h.t, h.i46, h46, if_pos (plt (by omega)), m_signOf h (by rw [e2]; exact hP0) hI hL hw hr (by omega), Option.bind_some, h.r45, h.t45, h.n45, if_pos ⟨rfl, v_inA (by omega) (by omega)⟩, v_ix (by omega), nv1, v_add]
    exact q1
theorem r_view (h : MR s 78 A) (hR : RepA A tp se P LG IM ms vw dr) (hH : PgH P) {a : Int} (ha : r32 a) : RO s (f_M_view s 78 (v a)) (vieA P a) tp se P LG IM ms (vieW P a vw) dr := by
  obtain ⟨k1, k2, k3⟩ := r_thr h hR
  unfold f_M_view vieA vieW
  rw [if_pos h.t, nv0, nv1, v_neg, m_isRecord k1 k2.pg hH.1.1.1 ha, Option.bind_some]
  by_cases r : recP P a
  · obtain ⟨⟨hI, rk, hL⟩, wt, hw⟩ := hH
    have hs := size_rec hI.1.1 hL hw r
    have m1 := k1.s0 (x := sizeP P a) (k := 46) (z := 46) rfl (by decide)
    have e2 : pu (pu A 0 0 0) 0 46 (sizeP P a) 2 = pu A 0 0 0 2 := funext (fun z => pu_row _ _ _ _ (by decide) z)
    obtain ⟨s', A', q1, q2, q3, q4, q5⟩ := m_viewL (A0 := pu (pu A 0 0 0) 0 46 (sizeP P a)) ⟨⟨hI, rk, hL⟩, wt, hw⟩ r (by rw [e2]; exact k2.pg) (sizeP P a).toNat fuel 0 _ _ (by omega) (by omega) (by unfold fuel; omega) m1 (AF.rf _ _) (pu_eq _ _ _ _) (fun z z0 z1 => by omega)
    rw [bi_t r, if_neg (show ¬ v 1 = v 0 by decide), if_pos r, if_pos r, m_lengthOf k1 k2.pg hI hL hw r, Option.bind_some]
    refine ⟨s', A', q1, q2, k2.v_vw (((AF.pu (Or.inr (Or.inl ⟨rfl, rfl⟩))).tr (q3.mo (fun j z hj => by omega)))) ⟨by rw [q3 0 46 (by omega), pu_eq]; rfl, fun z z0 z1 => ?_⟩, k3.tr ((Fr.si (by omega)).tr q5)⟩
    have z1' : z < sizeP P a := z1
    rw [q4 z z0 z1']
    show _ = if 0 ≤ z ∧ z < sizeP P a then byteP P a z else vw.1 z
    rw [if_pos ⟨z0, z1'⟩]
  · rw [bi_f r, if_pos rfl, if_neg r, if_neg r]
    exact ⟨_, _, rfl, k1, k2, k3⟩
theorem m_broughtL (h : MR s 78 A) (hP : PgM (A 2) P) (hH : PgH P) {a n : Int} (hr : recP P a) (h44 : A 0 44 = n) (hz : ∀ z, 0 ≤ z → z < n → A 22 z = B z ∧ 0 ≤ B z ∧ B z ≤ 255) (hn : sizeP P a = n) : ∀ (k K : Nat) (y : Int), y + k = n → 0 ≤ y → k < K → l_M_isBrought_20 s K 78 (v a) (v 1) (v y) = some (v (holdL P a B k y)) ∧ l_M_isBrought_20 s K 78 (v a) (v 0) (v y) = some (v 0) := by
  obtain ⟨⟨hI, rk, hL⟩, wt, hw⟩ := hH
  have hs := size_rec hI.1.1 hL hw hr
  have i44 : sI s 78 44 = v n := by rw [← h44]; exact h.2.1 44 (by decide)
  intro k
  induction k with
  | zero =>
    intro K y hy h0 hK
    obtain ⟨K, rfl⟩ : ∃ m, K = m + 1 := ⟨K - 1, by omega⟩
    refine ⟨?_, ?_⟩
    · show b_M_isBrought_20 _ _ _ _ _ _ = _
      unfold b_M_isBrought_20
      rw [if_pos h.t, i44, if_neg (nlt (by omega)), nv0, nv1, if_pos (Or.inr rfl)]
      rfl
    · show b_M_isBrought_20 _ _ _ _ _ _ = _
      unfold b_M_isBrought_20
      rw [if_pos h.t, i44, if_neg (nlt (by omega)), nv0, if_pos (Or.inl rfl)]
  | succ k ih =>
    intro K y hy h0 hK
    obtain ⟨K, rfl⟩ : ∃ m, K = m + 1 := ⟨K - 1, by omega⟩
    obtain ⟨e1, e2⟩ := ih K (y + 1) (by omega) (by omega) (by omega)
    refine ⟨?_, ?_⟩
    · obtain ⟨b1, b2, b3⟩ := hz y h0 (by omega)
      have hby := (byteP_in hI hL (a := a) (y := y) (by omega) h0).1 (by omega)
      show b_M_isBrought_20 _ _ _ _ _ _ = _
      unfold b_M_isBrought_20 holdL
      rw [if_pos h.t, i44, if_pos (plt (by omega)), nv0, nv1, if_neg (show ¬ v 1 = v 0 by decide), m_signOf h hP hI hL hw hr (by omega), Option.bind_some, h.r43, h.t43, h.n43, if_pos ⟨rfl, v_inA (by omega) (by omega)⟩, v_ix (by omega), h.a43 y (by omega), b1, v_add]
      by_cases c : byteP P a y = B y
      · rw [if_pos (peq c), if_pos c]; exact e1
      · rw [if_neg (pne (by omega)), if_neg c]; exact e2
    · show b_M_isBrought_20 _ _ _ _ _ _ = _
      unfold b_M_isBrought_20
      rw [if_pos h.t, i44, if_pos (plt (by omega)), nv0, if_pos rfl, if_pos (Or.inl rfl)]
theorem m_isBrought (h : MR s 78 A) (hP : PgM (A 2) P) (hH : PgH P) {a n : Int} (hr : recP P a) (h44 : A 0 44 = n) (hz : ∀ z, 0 ≤ z → z < n → A 22 z = B z ∧ 0 ≤ B z ∧ B z ≤ 255) (hn : 0 ≤ n ∧ n ≤ 200) : f_M_isBrought s 78 (v a) = some (v (holdP P a B n)) := by
  have hH' := hH
  obtain ⟨⟨hI, rk, hL⟩, wt, hw⟩ := hH
  have hs := size_rec hI.1.1 hL hw hr
  have i44 : sI s 78 44 = v n := by rw [← h44]; exact h.2.1 44 (by decide)
  unfold f_M_isBrought b_M_isBrought_17 holdP
  rw [if_pos h.t, m_lengthOf h hP hI hL hw hr, Option.bind_some, i44, nv0, nv1]
  by_cases c : sizeP P a = n
  · rw [if_pos (peq c), if_pos c]
    exact (m_broughtL h hP hH' hr h44 hz c n.toNat fuel 0 (by omega) (by omega) (by unfold fuel; omega)).1
  · rw [if_neg (pne (by omega)), if_neg c]
    show b_M_isBrought_20 _ _ _ _ _ _ = _
    unfold b_M_isBrought_20
    rw [if_pos h.t, i44, nv0, if_pos (show v 0 = v 0 from rfl), if_pos (Or.inl rfl)]
    split <;> rfl
theorem m_findL (h : MR s 78 A) (hP : PgM (A 2) P) (hH : PgH P) {n : Int} (h44 : A 0 44 = n) (hz : ∀ z, 0 ≤ z → z < n → A 22 z = B z ∧ 0 ≤ B z ∧ B z ≤ 255) (hn : 0 ≤ n ∧ n ≤ 200) : ∀ (k K : Nat) (a : Int), a + k = 128 → 0 ≤ a → k < K → l_M_find_23 K 78 (v a) s = some (v (fndL P B n k a), s) := by
  intro k
  induction k with
  | zero =>
    intro K a hi h0 hk
    obtain ⟨K, rfl⟩ : ∃ m, K = m + 1 := ⟨K - 1, by omega⟩
    show b_M_find_23 _ _ _ _ = _
    unfold b_M_find_23
    rw [nv128, nv1, if_neg (nlt (by omega)), v_neg]
    rfl
  | succ k ih =>
    intro K a hi h0 hk
    obtain ⟨K, rfl⟩ : ∃ m, K = m + 1 := ⟨K - 1, by omega⟩
    have hs := ih K (a + 1) (by omega) (by omega) (by omega)
    show b_M_find_23 _ _ _ _ = _
    unfold b_M_find_23 fndL
    rw [nv128, nv0, nv1, if_pos (plt (by omega)), if_pos h.t, m_isRecord h hP hH.1.1.1 (by omega), Option.bind_some, v_add]
    by_cases e : recP P a
    · rw [bi_t e, if_neg (show ¬ v 1 = v 0 by decide), m_isBrought h hP hH e h44 hz hn, Option.bind_some]
      rcases holdP_r P a B n with f | f
      · rw [f, if_pos rfl, if_neg (by omega)]
        exact hs
      · rw [f, if_neg (show ¬ v 1 = v 0 by decide), if_pos ⟨e, rfl⟩]
    · rw [bi_f e, if_pos rfl, if_neg (fun z => e z.1)]
      exact hs
theorem r_find (h : MR s 78 A) (hR : RepA A tp se P LG IM ms vw dr) (hT : TpB tp) (hH : PgH P) : RO s (f_M_find s 78) (fndZ P tp) (tp.1, 0) se P LG IM ms vw dr := by
  have hn := hT.1
  obtain ⟨k1, k2, k3⟩ := r_thr h hR
  obtain ⟨s1, A1, b1, b2, b3, b4, b5, b6⟩ := m_bringTape k1 k2 hT
  have i44 : sI s1 78 44 = v (A1 0 44) := b2.2.1 44 (by decide)
  unfold f_M_find fndZ
  rw [if_pos h.t, nv0, nv1, v_neg, b1, Option.bind_some, if_pos b2.t, nv200, i44, b4]
  by_cases c : 200 < tp.2
  · rw [if_pos (plt (by omega)), fndL_big hH c]
    exact ⟨_, _, rfl, b2, b3, k3.tr b6⟩
  · rw [if_neg (nlt (by omega)), m_findL b2 b3.pg hH b4 (fun z z0 z1 => ⟨b5 z z0 z1 (by omega), hT.2 z⟩) (by omega) 128 fuel 0 (by omega) (by omega) (by unfold fuel; omega)]
    exact ⟨_, _, rfl, b2, b3, k3.tr b6⟩
end PGX
