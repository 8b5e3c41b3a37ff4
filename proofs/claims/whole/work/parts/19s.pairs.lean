/-! PAIRS: few -/
theorem w_dvn {a b : Int} (ha : 0 ≤ a ∧ a < 9223372036854775808) (hb : 0 < b ∧ b < 9223372036854775808) : w a / w b = w (a / b) := by
  rw [w_div ⟨by omega, ha.2⟩ ⟨by omega, hb.2⟩, Int.tdiv_eq_ediv_of_nonneg ha.1]
def stpF (x : Int) (F : Int → Int) : Int → Int := fun z => F z * (10 - x) / 10 + (if 0 < z then F (z - 1) * x / 10 else 0)
def fewF (x : Int) : Nat → Int → Int
  | 0 => fun z => if z = 0 then 1000000000000 else 0
  | d + 1 => stpF x (fewF x d)
def fewZ (x n d : Int) : Int := if 1 ≤ n ∧ n ≤ 20 then (if 0 ≤ d ∧ d ≤ 99 then sumZ (fewF x d.toNat) n.toNat else -1) else -1
def mixF (i : Int) (F G : Int → Int) : Int → Int := fun z => if z < i then F z else G z
theorem mixF_l {i z : Int} {F G : Int → Int} (h : z < i) : mixF i F G z = F z := if_pos h
theorem mixF_r {i z : Int} {F G : Int → Int} (h : ¬ z < i) : mixF i F G z = G z := if_neg h
theorem mul_r {a x : Int} (ha : 0 ≤ a ∧ a ≤ 1000000000000) (hx : 0 ≤ x ∧ x ≤ 10) : 0 ≤ a * x ∧ a * x ≤ 10000000000000 := by
  have h1 : 0 ≤ a * x := Int.mul_nonneg ha.1 hx.1
  have h2 : a * x ≤ 1000000000000 * x := Int.mul_le_mul_of_nonneg_right ha.2 hx.1
  omega
theorem stpF_r {x : Int} {F : Int → Int} (hx : 0 ≤ x ∧ x ≤ 10) (h : ∀ z, 0 ≤ F z ∧ F z ≤ 1000000000000) (z : Int) : 0 ≤ stpF x F z ∧ stpF x F z ≤ 1000000000000 := by
  unfold stpF
  have h1 : F z * (10 - x) = F z * 10 - F z * x := Int.mul_sub _ _ _
  have h2 := mul_r (h z) hx
  have h3 := mul_r (h (z - 1)) hx
  have h4 := mul_r (h z) (x := 10 - x) (by omega)
  have h5 : F z * (10 - x) ≤ 1000000000000 * (10 - x) := Int.mul_le_mul_of_nonneg_right (h z).2 (by omega)
  have h6 : F (z - 1) * x ≤ 1000000000000 * x := Int.mul_le_mul_of_nonneg_right (h (z - 1)).2 (by omega)
  split <;> omega
theorem fewF_r {x : Int} (hx : 0 ≤ x ∧ x ≤ 10) : ∀ (d : Nat) (z : Int), 0 ≤ fewF x d z ∧ fewF x d z ≤ 1000000000000 := by
  intro d
  induction d with
  | zero =>
    intro z
    show 0 ≤ (if z = 0 then (1000000000000 : Int) else 0) ∧ (if z = 0 then (1000000000000 : Int) else 0) ≤ 1000000000000
    split <;> omega
  | succ d ih => exact stpF_r hx ih
def CW (s : AS) (r : Option (Int64 × AS)) (a : Int) (tp : (Int → Int) × Int) (se : ST1) (P : PG) (LG : LGS) (IM : Nat → IMG) (ms : Int → Int) (vw : (Int → Int) × Int) (dr : DRW) (cn : Nat) : Prop := ∃ s' D', r = some (w a, s') ∧ RepD s' D' tp se P LG IM ms vw dr cn ∧ GrM s s'
def RW (s : AS) (r : Option (Int64 × AS)) (a : Int) (tp : (Int → Int) × Int) (se : ST1) (P : PG) (LG : LGS) (IM : Nat → IMG) (ms : Int → Int) (vw : (Int → Int) × Int) (dr : DRW) : Prop := ∃ s' A', r = some (w a, s') ∧ MR s' 78 A' ∧ RepA A' tp se P LG IM ms vw dr ∧ Fr (inM 78) s s'
section FEW
variable {D : DYN} {tp : (Int → Int) × Int} {se : ST1} {P : PG} {LG : LGS} {IM : Nat → IMG} {ms : Int → Int} {vw : (Int → Int) × Int} {dr : DRW} {cn : Nat} {A0 : MA} {x m : Int}
/-- the class's parts -/
def PtC (s : AS) (n : Int) (G : Int → Int) : Prop := ∀ z : Int, 0 ≤ z → z < n → sL s 76 z.toNat = w (G z)
theorem RepD.pa {s : AS} (h : RepD s D tp se P LG IM ms vw dr cn) : sR s 1 12 = 76 ∧ sT s 76 = 21 ∧ sN s 76 = 20 := ⟨h.1.2.2.2.2.2.2.1, h.2.2.2.2.2.2.2.2.2.2.2.2.2.2.2.1⟩
theorem c_few67 {s0 : AS} (h0 : RepD s0 D tp se P LG IM ms vw dr cn) {n d i : Int} (hn : 1 ≤ n ∧ n ≤ 20) (hx : 0 ≤ x ∧ x ≤ 10) {F : Int → Int} (hF : ∀ z, 0 ≤ F z ∧ F z ≤ 1000000000000) {K : Nat → Int32 → Int32 → Int64 → Int32 → AS → Option (Int64 × AS)} : ∀ (k N : Nat) (s : AS), (k : Int) ≤ n → k < N → Fr (fun q => q = 76) s0 s → PtC s n (mixF k F (stpF x F)) → ∃ s', l_C_few_67 K N 1 (v n) (v d) (w x) (v i) (v (k - 1)) s = K 1 (v n) (v d) (w x) (v i + nI 1) s' ∧ Fr (fun q => q = 76) s0 s' ∧ PtC s' n (stpF x F) := by
  intro k
  induction k with
  | zero =>
    intro N s hk hN hf hp
    obtain ⟨N, rfl⟩ : ∃ m, N = m + 1 := ⟨N - 1, by omega⟩
    refine ⟨s, ?_, hf, fun z z0 z1 => ?_⟩
    · show b_C_few_67 _ _ _ _ _ _ _ _ _ = _
      unfold b_C_few_67
      rw [nv0, if_pos (plt (by omega))]
    · rw [hp z z0 z1, mixF_r (by omega)]
  | succ k ih =>
    intro N s hk hN hf hp
    obtain ⟨N, rfl⟩ : ∃ m, N = m + 1 := ⟨N - 1, by omega⟩
    have h := h0.u_pa hf
    obtain ⟨a1, a2, a3⟩ := h.pa
    have e1 : ((k + 1 : Nat) : Int) - 1 = k := by omega
    have hk1 : sL s 76 (k : Int).toNat = w (F k) := by rw [hp k (by omega) (by omega), mixF_l (by omega)]
    have r1 := mul_r (hF k) (x := 10 - x) (by omega)
    obtain ⟨s', q1, q2, q3⟩ := ih N (setJ s 76 (k : Int).toNat (w (stpF x F k))) (by omega) (by omega) (hf.tr (Fr.sj rfl)) (fun z z0 z1 => by
      rw [sL_setJ]
      by_cases c : z = k
      · rw [if_pos ⟨rfl, by rw [c]⟩, c, mixF_r (by omega)]
      · rw [if_neg (by omega), hp z z0 z1]
        by_cases c2 : z < (k : Int)
        · rw [mixF_l (by omega), mixF_l c2]
        · rw [mixF_r (by omega), mixF_r c2])
    refine ⟨s', ?_, q2, q3⟩
    have h96 : b_C_few_96 K (l_C_few_67 K N) 1 (v n) (v d) (w x) (v i) (v k) (w (if 0 < (k : Int) then F (k - 1) * x / 10 else 0)) s = K 1 (v n) (v d) (w x) (v i + nI 1) s' := by
      unfold b_C_few_96
      rw [if_pos h.1.1, a1, a2, a3, if_pos ⟨rfl, v_inA (by omega) (by omega)⟩, if_pos (show ¬ lN 10 = lN 0 by decide), show (v (k : Int)).toNatClampNeg = (k : Int).toNat from v_ix (by omega), hk1, lw10, w_sub, w_mul, w_dvn (by omega) (by decide), w_add, nv1, v_neg, v_add]
      exact q1
    show b_C_few_67 _ _ _ _ _ _ _ _ _ = _
    unfold b_C_few_67
    rw [e1, nv0, if_neg (nlt (by omega))]
    by_cases c : 0 < (k : Int)
    · have r2 := mul_r (hF ((k : Int) - 1)) hx
      rw [if_pos c] at h96
      rw [if_pos (plt (by omega)), if_pos h.1.1, a1, a2, a3, nv1, v_sub, if_pos ⟨rfl, v_inA (by omega) (by omega)⟩, if_pos (show ¬ lN 10 = lN 0 by decide), v_ix (by omega), hp _ (by omega) (by omega), mixF_l (by omega), lw10, w_mul, w_dvn (by omega) (by decide)]
      exact h96
    · rw [if_neg c] at h96
      rw [if_neg (nlt (by omega)), lw0]
      exact h96
theorem c_few143 {s : AS} (h : RepD s D tp se P LG IM ms vw dr cn) {n : Int} (hn : 1 ≤ n ∧ n ≤ 20) {G : Int → Int} (hp : PtC s n G) : ∀ (k N i : Nat), (i : Int) + k = n → k < N → l_C_few_143 N 1 (v n) (w (sumZ G i)) (v i) s = some (w (sumZ G n.toNat), s) := by
  obtain ⟨a1, a2, a3⟩ := h.pa
  intro k
  induction k with
  | zero =>
    intro N i hi hN
    obtain ⟨N, rfl⟩ : ∃ m, N = m + 1 := ⟨N - 1, by omega⟩
    show b_C_few_143 _ _ _ _ _ _ = _
    unfold b_C_few_143
    rw [if_neg (nlt (by omega)), show i = n.toNat by omega]
  | succ k ih =>
    intro N i hi hN
    obtain ⟨N, rfl⟩ : ∃ m, N = m + 1 := ⟨N - 1, by omega⟩
    have hs := ih N (i + 1) (by omega) (by omega)
    rw [show ((i + 1 : Nat) : Int) = (i : Int) + 1 by omega, show sumZ G (i + 1) = sumZ G i + G i from rfl] at hs
    show b_C_few_143 _ _ _ _ _ _ = _
    unfold b_C_few_143
    rw [if_pos (plt (by omega)), if_pos h.1.1, a1, a2, a3, if_pos ⟨rfl, v_inA (by omega) (by omega)⟩, v_ix (by omega), hp i (by omega) (by omega), w_add, nv1, v_add]
    exact hs
theorem c_few56 {s0 : AS} (h0 : RepD s0 D tp se P LG IM ms vw dr cn) {n d : Int} (hn : 1 ≤ n ∧ n ≤ 20) (hd : 0 ≤ d ∧ d ≤ 99) (hx : 0 ≤ x ∧ x ≤ 10) : ∀ (k N i : Nat) (s : AS), (i : Int) + k = d → k < N → Fr (fun q => q = 76) s0 s → PtC s n (fewF x i) → ∃ s', l_C_few_56 N 1 (v n) (v d) (w x) (v i) s = some (w (sumZ (fewF x d.toNat) n.toNat), s') ∧ Fr (fun q => q = 76) s0 s' := by
  intro k
  induction k with
  | zero =>
    intro N i s hi hN hf hp
    obtain ⟨N, rfl⟩ : ∃ m, N = m + 1 := ⟨N - 1, by omega⟩
    refine ⟨s, ?_, hf⟩
    show b_C_few_56 _ _ _ _ _ _ _ = _
    unfold b_C_few_56
    rw [if_neg (nlt (by omega)), show d.toNat = i by omega]
    exact c_few143 (h0.u_pa hf) hn hp n.toNat fuel 0 (by omega) (by unfold fuel; omega)
  | succ k ih =>
    intro N i s hi hN hf hp
    obtain ⟨N, rfl⟩ : ∃ m, N = m + 1 := ⟨N - 1, by omega⟩
    obtain ⟨s1, q1, q2, q3⟩ := c_few67 h0 (d := d) (i := i) hn hx (fewF_r hx i) (K := l_C_few_56 N) n.toNat fuel s (by omega) (by unfold fuel; omega) hf (fun z z0 z1 => by rw [mixF_l (by omega)]; exact hp z z0 z1)
    obtain ⟨s2, r1, r2⟩ := ih N (i + 1) s1 (by omega) (by omega) q2 q3
    refine ⟨s2, ?_, r2⟩
    show b_C_few_56 _ _ _ _ _ _ _ = _
    unfold b_C_few_56
    rw [if_pos (plt (by omega)), nv1, v_sub, show n - 1 = ((n.toNat : Nat) : Int) - 1 by omega, q1, nv1, v_add]
    exact r1
theorem s_fill76 {s : AS} (h1 : sT s 76 = 21) (h2 : sN s 76 = 20) : ∃ s', f_Arrays_fill2 s 76 (lN 0) = some s' ∧ Fr (fun q => q = 76) s s' ∧ ∀ z : Int, 0 ≤ z → z < 20 → sL s' 76 z.toNat = w 0 := by
  have loop : ∀ (k N : Nat) (i : Int) (s1 : AS), i + k = 20 → 0 ≤ i → k < N → Fr (fun q => q = 76) s s1 → (∀ z : Int, 0 ≤ z → z < i → sL s1 76 z.toNat = w 0) → ∃ s', l_Arrays_fill2_6 N 76 (lN 0) (v i) (v 20) s1 = some s' ∧ Fr (fun q => q = 76) s s' ∧ ∀ z : Int, 0 ≤ z → z < 20 → sL s' 76 z.toNat = w 0 := by
    intro k
    induction k with
    | zero =>
      intro N i s1 hi h0 hN hf hz
      obtain ⟨N, rfl⟩ : ∃ m, N = m + 1 := ⟨N - 1, by omega⟩
      refine ⟨s1, ?_, hf, fun z z0 z1 => hz z z0 (by omega)⟩
      show b_Arrays_fill2_6 _ _ _ _ _ _ = _
      unfold b_Arrays_fill2_6
      rw [if_neg (nlt (by omega))]
    | succ k ih =>
      intro N i s1 hi h0 hN hf hz
      obtain ⟨N, rfl⟩ : ∃ m, N = m + 1 := ⟨N - 1, by omega⟩
      obtain ⟨s', q1, q2, q3⟩ := ih N (i + 1) (setJ s1 76 i.toNat (w 0)) (by omega) (by omega) (by omega) (hf.tr (Fr.sj rfl)) (fun z z0 z1 => by
        rw [sL_setJ]
        by_cases c : z = i
        · rw [if_pos ⟨rfl, by rw [c]⟩]
        · rw [if_neg (by omega)]; exact hz z z0 (by omega))
      refine ⟨s', ?_, q2, q3⟩
      show b_Arrays_fill2_6 _ _ _ _ _ _ = _
      unfold b_Arrays_fill2_6
      rw [if_pos (plt (by omega)), hf.1.2.1, hf.1.2.2.1, h1, h2, if_pos ⟨rfl, v_inA (by omega) (by omega)⟩, v_ix (by omega), nv1, v_add]
      exact q1
  obtain ⟨s', q1, q2, q3⟩ := loop 20 fuel 0 s (by omega) (by omega) (by unfold fuel; omega) (Fr.rf _ _) (fun z z0 z1 => by omega)
  refine ⟨s', ?_, q2, q3⟩
  unfold f_Arrays_fill2
  rw [h1, if_pos (by decide), h2]
  exact q1
theorem c_few {s : AS} (h : RepD s D tp se P LG IM ms vw dr cn) (hw : WfT se) {n d : Int} (hn : r32 n) (hd : r32 d) : CW s (f_C_few s 1 (v n) (v d)) (fewZ (se.1 1) n d) tp se P LG IM ms vw dr cn := by
  have hx := hw.1.2.1
  have no : CW s (some ((-1 : Int64), s)) (-1) tp se P LG IM ms vw dr cn := ⟨s, D, rfl, h, GrM.rf s⟩
  unfold f_C_few fewZ
  rw [nv0, nv1, nv20, show nI 99 = v 99 from rfl]
  by_cases c1 : n < 1
  · rw [if_pos (plt (by omega)), if_neg (by omega)]
    exact no
  rw [if_neg (nlt (by omega))]
  by_cases c2 : 20 < n
  · rw [if_pos (plt (by omega)), if_neg (by omega)]
    exact no
  rw [if_neg (nlt (by omega)), if_pos (show 1 ≤ n ∧ n ≤ 20 by omega)]
  by_cases c3 : d < 0
  · rw [if_pos (plt (by omega)), if_neg (by omega)]
    exact no
  rw [if_neg (nlt (by omega))]
  by_cases c4 : 99 < d
  · rw [if_pos (plt (by omega)), if_neg (by omega)]
    exact no
  rw [if_neg (nlt (by omega)), if_pos (show 0 ≤ d ∧ d ≤ 99 by omega)]
  obtain ⟨a1, L, b1, b2, -, b4, -⟩ := h.st18
  obtain ⟨e1, e2, e3⟩ := h.pa
  obtain ⟨s1, q1, q2, q3⟩ := s_fill76 e2 e3
  have h1 := h.u_pa q2
  obtain ⟨f1, f2, f3⟩ := h1.pa
  have hz : PtC (setJ s1 76 0 (w 1000000000000)) n (fewF (se.1 1) 0) := by
    intro z z0 z1
    rw [sL_setJ]
    show _ = w (if z = 0 then 1000000000000 else 0)
    by_cases c : z = 0
    · rw [if_pos ⟨rfl, by omega⟩, if_pos c]
    · rw [if_neg (by omega), if_neg c]; exact q3 z z0 (by omega)
  obtain ⟨s2, r1, r2⟩ := c_few56 h (n := n) (d := d) (by omega) (by omega) hx d.toNat fuel 0 _ (by omega) (by unfold fuel; omega) (q2.tr (Fr.sj rfl)) hz
  refine ⟨s2, D, ?_, h.u_pa r2, r2.grM (fun q hq => by omega)⟩
  have ew : (sI s (18 + 1) (v 1).toNatClampNeg).toInt64 = w (se.1 1) := by
    rw [v_ix (by omega), b4 1 (by omega), v_w (by omega)]
  rw [if_pos h.1.1, a1, if_pos b1, b2.1, b2.2.1, b2.2.2, if_pos ⟨rfl, v_inA (by omega) (by omega)⟩, e1, q1, Option.bind_some, if_pos h1.1.1, f1, f2, f3, if_pos ⟨rfl, v_inA (by omega) (by omega)⟩, ew, show lN 1000000000000 = w 1000000000000 from rfl]
  exact r1
end FEW
