/-! PAIRS: the reference's few -/
def mixH (x i : Int) (F : Int → Int) : Int → Int := fun z => if z < i then F z else if z = i then F z * (10 - x) / 10 else stpF x F z
def PtM (A : MA) (n : Int) (G : Int → Int) : Prop := ∀ z : Int, 0 ≤ z → z < n → A 24 z = G z
section FEM
variable {tp : (Int → Int) × Int} {se : ST1} {P : PG} {LG : LGS} {IM : Nat → IMG} {ms : Int → Int} {vw : (Int → Int) × Int} {dr : DRW} {A0 A : MA} {x : Int} {s : AS}
theorem m_few85 {n d i : Int} (hn : 1 ≤ n ∧ n ≤ 20) (hx : 0 ≤ x ∧ x ≤ 10) {F : Int → Int} (hF : ∀ z, 0 ≤ F z ∧ F z ≤ 1000000000000) {K : Nat → Int32 → Int32 → Int32 → Int32 → AS → Option (Int64 × AS)} : ∀ (k N : Nat) (s : AS) (A : MA), (k : Int) ≤ n → k < N → MR s 78 A → AF (fun j _ => j = 24) A0 A → PtM A n (mixH x k F) → ∃ s' A', l_M_few_85 K N 78 (v n) (v d) (v x) (v i) (v (k - 1)) s = K 78 (v n) (v d) (v x) (v i + nI 1) s' ∧ MR s' 78 A' ∧ AF (fun j _ => j = 24) A0 A' ∧ PtM A' n (stpF x F) ∧ Fr (inM 78) s s' := by
  intro k
  induction k with
  | zero =>
    intro N s A hk hN h hf hp
    obtain ⟨N, rfl⟩ : ∃ m, N = m + 1 := ⟨N - 1, by omega⟩
    refine ⟨s, A, ?_, h, hf, fun z z0 z1 => ?_, Fr.rf _ _⟩
    · show b_M_few_85 _ _ _ _ _ _ _ _ _ = _
      unfold b_M_few_85
      rw [nv0, if_pos (plt (by omega))]
    · rw [hp z z0 z1]
      unfold mixH
      rw [if_neg (by omega)]
      by_cases c : z = ((0 : Nat) : Int)
      · rw [if_pos c]
        unfold stpF
        rw [if_neg (by omega), Int.add_zero]
      · rw [if_neg c]
  | succ k ih =>
    intro N s A hk hN h hf hp
    obtain ⟨N, rfl⟩ : ∃ m, N = m + 1 := ⟨N - 1, by omega⟩
    have e1 : ((k + 1 : Nat) : Int) - 1 = k := by omega
    have hk1 : A 24 k = F k := by
      rw [hp k (by omega) (by omega)]
      exact if_pos (by omega)
    have r1 := mul_r (hF k) (x := 10 - x) (by omega)
    have r2 := mul_r (hF k) hx
    have m1 := h.sj (x := F k * (10 - x) / 10) 24 (by decide) rfl (z := (k : Int)) ⟨by omega, by show (k : Int) < (21 : Int); omega⟩
    have m2 := m1.sj (x := A 24 (k + 1) + F k * x / 10) 24 (by decide) rfl (z := (k : Int) + 1) ⟨by omega, by show (k : Int) + 1 < (21 : Int); omega⟩
    obtain ⟨s', A', q1, q2, q3, q4, q5⟩ := ih N _ _ (by omega) (by omega) m2 (hf.tr ((AF.pu rfl).tr (AF.pu rfl))) (fun z z0 z1 => by
      by_cases c : z = (k : Int) + 1
      · rw [c, pu_eq, hp ((k : Int) + 1) (by omega) (by omega)]
        unfold mixH
        rw [if_neg (by omega), if_pos (by omega), if_neg (by omega), if_neg (by omega)]
        unfold stpF
        rw [if_pos (by omega), show (k : Int) + 1 - 1 = k by omega]
      · rw [pu_ne _ _ _ _ (fun e => c e.2)]
        by_cases c2 : z = (k : Int)
        · rw [c2, pu_eq]
          unfold mixH
          rw [if_neg (by omega), if_pos rfl]
        · rw [pu_ne _ _ _ _ (fun e => c2 e.2), hp z z0 z1]
          unfold mixH
          by_cases c3 : z < (k : Int)
          · rw [if_pos (by omega), if_pos c3]
          · rw [if_neg (by omega), if_neg (by omega), if_neg c3, if_neg c2])
    refine ⟨s', A', ?_, q2, q3, q4, (Fr.sj (by omega)).tr ((Fr.sj (by omega)).tr q5)⟩
    have g1 : sL s (78 + 24) (v (k : Int)).toNatClampNeg = w (F k) := by rw [v_ix (by omega), h.a47 k (by omega), hk1]
    have g2 : sL (setJ s (78 + 24) (k : Int).toNat (w (F k * (10 - x) / 10))) (78 + 24) (v ((k : Int) + 1)).toNatClampNeg = w (A 24 (k + 1)) := by rw [v_ix (by omega), m1.a47 _ (by omega), pu_ne _ _ _ _ (by omega)]
    show b_M_few_85 _ _ _ _ _ _ _ _ _ = _
    unfold b_M_few_85
    rw [e1, nv0, nv1, nv10, if_neg (nlt (by omega)), if_pos h.t, h.r47, h.t47, h.n47, if_pos ⟨rfl, v_inA (by omega) (by omega)⟩, if_pos (show ¬ lN 10 = lN 0 by decide), v_add, if_pos ⟨rfl, v_inA (by omega) (by omega)⟩, g1, v_sub, v_w (by omega), v_w (by omega), lw10, w_mul, w_mul, w_dvn (by omega) (by decide), w_dvn (by omega) (by decide), show (v (k : Int)).toNatClampNeg = (k : Int).toNat from v_ix (by omega), g2, w_add, show (v ((k : Int) + 1)).toNatClampNeg = ((k : Int) + 1).toNat from v_ix (by omega), v_neg, v_add]
    exact q1
theorem m_few157 (h : MR s 78 A) {n : Int} (hn : 1 ≤ n ∧ n ≤ 20) {G : Int → Int} (hp : PtM A n G) : ∀ (k N i : Nat), (i : Int) + k = n → k < N → l_M_few_157 N 78 (v n) (w (sumZ G i)) (v i) s = some (w (sumZ G n.toNat), s) := by
  intro k
  induction k with
  | zero =>
    intro N i hi hN
    obtain ⟨N, rfl⟩ : ∃ m, N = m + 1 := ⟨N - 1, by omega⟩
    show b_M_few_157 _ _ _ _ _ _ = _
    unfold b_M_few_157
    rw [if_neg (nlt (by omega)), show i = n.toNat by omega]
  | succ k ih =>
    intro N i hi hN
    obtain ⟨N, rfl⟩ : ∃ m, N = m + 1 := ⟨N - 1, by omega⟩
    have hs := ih N (i + 1) (by omega) (by omega)
    rw [show ((i + 1 : Nat) : Int) = (i : Int) + 1 by omega, show sumZ G (i + 1) = sumZ G i + G i from rfl] at hs
    show b_M_few_157 _ _ _ _ _ _ = _
    unfold b_M_few_157
    rw [if_pos (plt (by omega)), if_pos h.t, h.r47, h.t47, h.n47, if_pos ⟨rfl, v_inA (by omega) (by omega)⟩, v_ix (by omega), h.a47 i (by omega), hp i (by omega) (by omega), w_add, nv1, v_add]
    exact hs
theorem m_few74 {n d : Int} (hn : 1 ≤ n ∧ n ≤ 20) (hd : 0 ≤ d ∧ d ≤ 99) (hx : 0 ≤ x ∧ x ≤ 10) : ∀ (k N i : Nat) (s : AS) (A : MA), (i : Int) + k = d → k < N → MR s 78 A → AF (fun j _ => j = 24) A0 A → PtM A n (fewF x i) → ∃ s' A', l_M_few_74 N 78 (v n) (v d) (v x) (v i) s = some (w (sumZ (fewF x d.toNat) n.toNat), s') ∧ MR s' 78 A' ∧ AF (fun j _ => j = 24) A0 A' ∧ Fr (inM 78) s s' := by
  intro k
  induction k with
  | zero =>
    intro N i s A hi hN h hf hp
    obtain ⟨N, rfl⟩ : ∃ m, N = m + 1 := ⟨N - 1, by omega⟩
    refine ⟨s, A, ?_, h, hf, Fr.rf _ _⟩
    show b_M_few_74 _ _ _ _ _ _ _ = _
    unfold b_M_few_74
    rw [if_neg (nlt (by omega)), show d.toNat = i by omega]
    exact m_few157 h hn hp n.toNat fuel 0 (by omega) (by unfold fuel; omega)
  | succ k ih =>
    intro N i s A hi hN h hf hp
    obtain ⟨N, rfl⟩ : ∃ m, N = m + 1 := ⟨N - 1, by omega⟩
    obtain ⟨s1, A1, q1, q2, q3, q4, q5⟩ := m_few85 (A0 := A0) (d := d) (i := i) hn hx (fewF_r hx i) (K := l_M_few_74 N) n.toNat fuel s A (by omega) (by unfold fuel; omega) h hf (fun z z0 z1 => by
      rw [hp z z0 z1]
      unfold mixH
      rw [if_pos (by omega)])
    obtain ⟨s2, A2, r1, r2, r3, r4⟩ := ih N (i + 1) s1 A1 (by omega) (by omega) q2 q3 q4
    refine ⟨s2, A2, ?_, r2, r3, q5.tr r4⟩
    show b_M_few_74 _ _ _ _ _ _ _ = _
    unfold b_M_few_74
    rw [if_pos (plt (by omega)), nv1, v_sub, show n - 1 = ((n.toNat : Nat) : Int) - 1 by omega, q1, nv1, v_add]
    exact r1
theorem m_few35 {n d : Int} (hn : 1 ≤ n ∧ n ≤ 20) (hd : 0 ≤ d ∧ d ≤ 99) (hx : 0 ≤ x ∧ x ≤ 10) (h3 : A0 2 3 = x) : ∀ (k N : Nat) (i : Int) (s : AS) (A : MA), i + k = 21 → 0 ≤ i → k < N → MR s 78 A → AF (fun j _ => j = 24) A0 A → PtM A i (fewF x 0) → ∃ s' A', l_M_few_35 N 78 (v n) (v d) (v i) s = some (w (sumZ (fewF x d.toNat) n.toNat), s') ∧ MR s' 78 A' ∧ AF (fun j _ => j = 24) A0 A' ∧ Fr (inM 78) s s' := by
  intro k
  induction k with
  | zero =>
    intro N i s A hi h0 hN h hf hp
    obtain ⟨N, rfl⟩ : ∃ m, N = m + 1 := ⟨N - 1, by omega⟩
    obtain ⟨s2, A2, r1, r2, r3, r4⟩ := m_few74 (A0 := A0) hn hd hx d.toNat fuel 0 s A (by omega) (by unfold fuel; omega) h hf (fun z z0 z1 => hp z z0 (by omega))
    refine ⟨s2, A2, ?_, r2, r3, r4⟩
    show b_M_few_35 _ _ _ _ _ _ = _
    unfold b_M_few_35
    rw [nv21, if_neg (nlt (by omega)), if_pos h.t, h.r3, h.t3, h.n3, nv3, if_pos ⟨rfl, v_inA (by omega) (by omega)⟩, v_ix (by omega), h.a3 3 (by omega), hf 2 3 (by decide), h3]
    exact r1
  | succ k ih =>
    intro N i s A hi h0 hN h hf hp
    obtain ⟨N, rfl⟩ : ∃ m, N = m + 1 := ⟨N - 1, by omega⟩
    obtain ⟨s', A', q1, q2, q3, q4⟩ := ih N (i + 1) _ _ (by omega) (by omega) (by omega) (h.sj (x := if i = 0 then 1000000000000 else 0) 24 (by decide) rfl (z := i) ⟨h0, by show i < (21 : Int); omega⟩) (hf.tr (AF.pu rfl)) (fun z z0 z1 => by
      by_cases c : z = i
      · rw [c, pu_eq]; rfl
      · rw [pu_ne _ _ _ _ (fun e => c e.2)]; exact hp z z0 (by omega))
    refine ⟨s', A', ?_, q2, q3, (Fr.sj (by omega)).tr q4⟩
    have e : (if v i = nI 0 then lN 1000000000000 else lN 0) = w (if i = 0 then 1000000000000 else 0) := by
      rw [nv0]
      by_cases c : i = 0
      · rw [if_pos (peq c), if_pos c]; rfl
      · rw [if_neg (pne (by omega)), if_neg c]; rfl
    show b_M_few_35 _ _ _ _ _ _ = _
    unfold b_M_few_35
    rw [nv21, if_pos (plt (by omega)), if_pos h.t, h.r47, h.t47, h.n47, if_pos ⟨rfl, v_inA (by omega) (by omega)⟩, v_ix (by omega), e, nv1, v_add]
    exact q1
theorem r_few (h : MR s 78 A) (hR : RepA A tp se P LG IM ms vw dr) (hw : WfT se) {n d : Int} (hn : r32 n) (hd : r32 d) : RW s (f_M_few s 78 (v n) (v d)) (fewZ (se.1 1) n d) tp se P LG IM ms vw dr := by
  obtain ⟨k1, k2, k3⟩ := r_thr h hR
  unfold f_M_few fewZ
  rw [if_pos h.t, nv0, lw0, lw1, lw20, show lN 99 = w 99 from rfl, v_w hn, v_w hd, m_in (by omega) (by omega) (by omega), m_in (by omega) (by omega) (by omega), Option.bind_some, Option.bind_some]
  by_cases c : 1 ≤ n ∧ n ≤ 20
  · rw [bi_t c, if_neg (show ¬ v 1 = v 0 by decide), if_pos c]
    by_cases c2 : 0 ≤ d ∧ d ≤ 99
    · rw [bi_t c2, if_neg (show ¬ v 1 = v 0 by decide), if_pos c2]
      obtain ⟨s', A', q1, q2, q3, q4⟩ := m_few35 (A0 := pu A 0 0 0) c c2 hw.1.2.1 k2.2.2.2.1.2.2.1.2.1 21 fuel 0 _ _ (by omega) (by omega) (by unfold fuel; omega) k1 (AF.rf _ _) (fun z z0 z1 => by omega)
      exact ⟨s', A', q1, q2, k2.v_s (q3.mo (fun j z hj => by omega)), k3.tr q4⟩
    · rw [bi_f c2, if_pos rfl, if_neg c2]
      exact ⟨_, _, rfl, k1, k2, k3⟩
  · rw [bi_f c, if_pos rfl, if_neg c]
    exact ⟨_, _, rfl, k1, k2, k3⟩
end FEM
