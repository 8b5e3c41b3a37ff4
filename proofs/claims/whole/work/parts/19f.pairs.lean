/-! PAIRS: pieces, count, drawn -/
def orM (x : Int32) (a : Int) : Int32 := x ||| ((nI 1) <<< ((v a / (nI 16)) &&& 31))
def pcs (P : PG) : Nat → Int → Int → Int32 → Int × Int32
  | 0, _, c, x => (c, x)
  | n + 1, a, c, x => if a = -1 then (c, x) else pcs P n (nextP P a) (c + 1) (orM x a)
def bit8 (x : Int32) (i : Int) : Int32 := (x >>> (v i &&& 31)) &&& (nI 1)
def pop8 (x : Int32) : Int32 := v 0 + bit8 x 0 + bit8 x 1 + bit8 x 2 + bit8 x 3 + bit8 x 4 + bit8 x 5 + bit8 x 6 + bit8 x 7
def inMk (x : Int32) : Prop := x.toBitVec.toNat < 256
theorem pop_ok : ∀ k : Fin 256, f_Integer_bitCount (startA 0 (fun _ => 0)) (v k) = some (pop8 (v k)) := by decide +kernel
theorem sh_ok : ∀ c : Fin 8, ((nI 1) <<< ((v c) &&& 31) : Int32).toBitVec.toNat < 256 := by decide +kernel
theorem inMk_v {x : Int32} (h : inMk x) : x = v (x.toBitVec.toNat : Int) := by
  apply Int32.toBitVec_inj.mp
  unfold v
  rw [Int32.toBitVec_ofInt]
  apply BitVec.eq_of_toNat_eq
  rw [BitVec.ofInt_natCast, BitVec.toNat_ofNat]
  unfold inMk at h
  omega
theorem orM_in {x : Int32} {a : Int} (hx : inMk x) (ha : 0 ≤ a ∧ a < 128) : inMk (orM x a) := by
  unfold orM
  have hy := sh_ok ⟨(a / 16).toNat, by omega⟩
  rw [nv16, v_div (by omega) (by omega)]
  rw [show (((⟨(a / 16).toNat, by omega⟩ : Fin 8) : Nat) : Int) = a / 16 by show (((a / 16).toNat : Nat) : Int) = a / 16; omega] at hy
  unfold inMk at hx ⊢
  rw [Int32.toBitVec_or, BitVec.toNat_or]
  exact Nat.or_lt_two_pow (n := 8) hx hy
theorem pop_of {s : AS} {x : Int32} (hx : inMk x) : f_Integer_bitCount s x = some (pop8 x) := by
  rw [inMk_v hx]
  exact pop_ok ⟨x.toBitVec.toNat, hx⟩
theorem pcs_in (P : PG) : ∀ (n : Nat) (a c : Int) (x : Int32), -1 ≤ a ∧ a < 128 → inMk x → inMk (pcs P n a c x).2 := by
  intro n
  induction n with
  | zero => intro a c x _ hx; exact hx
  | succ n ih =>
    intro a c x ha hx
    unfold pcs
    by_cases e : a = -1
    · rw [if_pos e]; exact hx
    · rw [if_neg e]
      exact ih _ _ _ (nextP_r a) (orM_in hx (by omega))
def pieZ (P : PG) (a k : Int) : Int := if recP P a then (if 0 ≤ k ∧ k ≤ 1 then (if k = 0 then (pcs P 128 a 0 (v 0)).1 else (pop8 (pcs P 128 a 0 (v 0)).2).toInt) else -1) else -1
theorem pcs_end (P : PG) (x : Int32) (c : Int) : ∀ n, pcs P n (-1) c x = (c, x) := by
  intro n
  cases n with
  | zero => rfl
  | succ n => unfold pcs; rw [if_pos rfl]
def pcsA (k : Int) (r : Int × Int32) : Int32 := if k = 0 then v r.1 else pop8 r.2
section PGH
variable {s : AS} {P : PG}
theorem c_pie85 {k c : Int} {x : Int32} (hk : 0 ≤ k ∧ k ≤ 1) (hx : inMk x) : b_C_pieces_85 s (v k) (v c) x = some (pcsA k (c, x)) := by
  unfold b_C_pieces_85 pcsA
  rw [nv0]
  by_cases e : k = 0
  · rw [if_pos (peq e), if_pos e]
  · rw [if_neg (pne (by omega)), if_neg e, pop_of hx, Option.bind_some]
theorem c_pieL (h : Lv s P) (hH : PgH P) {w : Int} (hw : 0 ≤ w ∧ w ≤ 1) : ∀ (k n : Nat) (i c a : Int) (x : Int32), i + k = 128 → 0 ≤ i → -1 ≤ a ∧ a < 128 → inMk x → k < n → l_C_pieces_36 s n 1 (v w) (v c) x (v a) (v i) = some (pcsA w (pcs P k a c x)) := by
  obtain ⟨o1, o2, o3, o4, o5⟩ := h
  have hB := hH.1.1.1.1
  intro k
  induction k with
  | zero =>
    intro n i c a x hi h0 ha hx hn
    obtain ⟨n, rfl⟩ : ∃ m, n = m + 1 := ⟨n - 1, by omega⟩
    show b_C_pieces_36 _ _ _ _ _ _ _ _ = _
    unfold b_C_pieces_36 pcs
    rw [nv128, if_neg (nlt (by omega)), c_pie85 hw hx]
  | succ k ih =>
    intro n i c a x hi h0 ha hx hn
    obtain ⟨n, rfl⟩ : ∃ m, n = m + 1 := ⟨n - 1, by omega⟩
    show b_C_pieces_36 _ _ _ _ _ _ _ _ = _
    unfold b_C_pieces_36 pcs
    rw [nv128, nv1, nv0, v_neg, if_pos (plt (by omega))]
    by_cases e : a = -1
    · rw [if_pos (peq e), if_pos e, c_pie85 hw hx]
    · rw [if_neg (pne (by omega)), if_neg e, if_pos (show ¬ nI 16 = v 0 by decide), if_pos o1, o2, if_pos o3, o4, if_pos o5.1.1, s_followerOf o5 hB (by omega), Option.bind_some, v_add, v_add]
      exact ih n (i + 1) (c + 1) (nextP P a) (orM x a) (by omega) (by omega) (nextP_r a) (orM_in hx (by omega)) (by omega)
theorem pcsA_v (P : PG) {a k : Int} (hr : recP P a) (hk : 0 ≤ k ∧ k ≤ 1) : pcsA k (pcs P 128 a 0 (v 0)) = v (pieZ P a k) := by
  unfold pcsA pieZ
  rw [if_pos hr, if_pos hk]
  by_cases e : k = 0
  · rw [if_pos e, if_pos e]
  · rw [if_neg e, if_neg e]
    exact (Int32.ofInt_toInt _).symm
theorem c_pieces (h : Lv s P) (hH : PgH P) {a k : Int} (ha : r32 a) (hk : r32 k) : f_C_pieces s 1 (v a) (v k) = some (v (pieZ P a k)) := by
  have h' := h
  obtain ⟨o1, o2, o3, o4, o5⟩ := h
  have hB := hH.1.1.1.1
  unfold f_C_pieces
  rw [if_pos o1, o2, if_pos o3, o4, if_pos o5.1.1, s_isRecord o5 hB ha, Option.bind_some, nv0, nv1]
  by_cases c : recP P a
  · rw [bi_t c, if_neg (show ¬ v 1 = v 0 by decide)]
    by_cases c2 : k < 0
    · rw [if_pos (plt (by omega)), v_neg]
      unfold pieZ
      rw [if_pos c, if_neg (by omega)]
    rw [if_neg (nlt (by omega))]
    by_cases c3 : 1 < k
    · rw [if_pos (plt (by omega)), v_neg]
      unfold pieZ
      rw [if_pos c, if_neg (by omega)]
    rw [if_neg (nlt (by omega)), ← pcsA_v P c (by omega)]
    exact c_pieL h' hH (by omega) 128 fuel 0 0 a (v 0) (by omega) (by omega) (by omega) (show (v 0).toBitVec.toNat < 256 by decide) (by unfold fuel; omega)
  · rw [bi_f c, if_pos rfl, v_neg]
    unfold pieZ
    rw [if_neg c]
end PGH
section PGK
variable {s : AS} {tp : (Int → Int) × Int} {se : ST1} {P : PG} {LG : LGS} {IM : Nat → IMG} {ms : Int → Int} {vw : (Int → Int) × Int} {dr : DRW} {A : MA} {m : Nat}
theorem m_pie71 {w c : Int} {x : Int32} (hw : 0 ≤ w ∧ w ≤ 1) {K : Nat} (hK : 8 < K) : l_M_pieces_71 K (v w) (v c) x (v 0) (v 0) s = some (pcsA w (c, x), s) := by
  have one : ∀ (n : Nat) (i : Int) (y : Int32), 0 ≤ i ∧ i < 8 → l_M_pieces_71 (n + 1) (v w) (v c) x y (v i) s = l_M_pieces_71 n (v w) (v c) x (y + bit8 x i) (v (i + 1)) s := by
    intro n i y hi
    show b_M_pieces_71 _ _ _ _ _ _ _ = _
    unfold b_M_pieces_71 bit8
    rw [nv8, nv1, if_pos (plt (by omega)), v_add]
  obtain ⟨n, rfl⟩ : ∃ n, K = n + 1 + 1 + 1 + 1 + 1 + 1 + 1 + 1 + 1 := ⟨K - 9, by omega⟩
  rw [one _ 0 _ (by omega), one _ (0 + 1) _ (by omega), one _ (0 + 1 + 1) _ (by omega), one _ (0 + 1 + 1 + 1) _ (by omega), one _ (0 + 1 + 1 + 1 + 1) _ (by omega), one _ (0 + 1 + 1 + 1 + 1 + 1) _ (by omega), one _ (0 + 1 + 1 + 1 + 1 + 1 + 1) _ (by omega), one _ (0 + 1 + 1 + 1 + 1 + 1 + 1 + 1) _ (by omega)]
  show b_M_pieces_71 _ _ _ _ _ _ _ = _
  unfold b_M_pieces_71 pcsA
  rw [nv8, nv0, if_neg (nlt (by omega))]
  by_cases e : w = 0
  · rw [if_pos (peq e), if_pos e]
  · rw [if_neg (pne (by omega)), if_neg e]
    rfl
theorem m_pcsL (h : MR s m A) (hP : PgM (A 2) P) (hH : PgH P) {rk : Int → Int} (hL : PgLk P rk) {w : Int} (hw : 0 ≤ w ∧ w ≤ 1) : ∀ (k n : Nat) (c a : Int) (x : Int32), (a = -1 ∨ ((0 ≤ a ∧ a < 128) ∧ rk a < k)) → k < n → l_M_pieces_33 n m (v w) (v c) x (v a) s = some (pcsA w (pcs P k a c x), s) := by
  intro k
  induction k with
  | zero =>
    intro n c a x ha hn
    obtain ⟨n, rfl⟩ : ∃ m, n = m + 1 := ⟨n - 1, by omega⟩
    have e : a = -1 := by
      rcases ha with d | d
      · exact d
      · have := (hL a d.1).2.2.2.2; omega
    show b_M_pieces_33 _ _ _ _ _ _ _ = _
    unfold b_M_pieces_33
    rw [e, nv1, nv0, v_neg, if_pos rfl, m_pie71 hw (by unfold fuel; omega)]
    rfl
  | succ k ih =>
    intro n c a x ha hn
    obtain ⟨n, rfl⟩ : ∃ m, n = m + 1 := ⟨n - 1, by omega⟩
    show b_M_pieces_33 _ _ _ _ _ _ _ = _
    unfold b_M_pieces_33
    by_cases e : a = -1
    · rw [e, nv1, nv0, v_neg, if_pos rfl, m_pie71 hw (by unfold fuel; omega), pcs_end]
    · have ha' : (0 ≤ a ∧ a < 128) ∧ rk a < (k + 1 : Nat) := by omega
      have hr := nextP_r (P := P) a
      rw [nv1, v_neg, if_neg (pne (by omega)), if_pos (show ¬ nI 16 = nI 0 by decide), if_pos h.t, m_pointedBy h hP hH.1.1 hL ha'.1, Option.bind_some, v_add]
      unfold pcs
      rw [if_neg e]
      refine ih n (c + 1) (nextP P a) (orM x a) ?_ (by omega)
      by_cases f : nextP P a = -1
      · exact Or.inl f
      · have g := ((hL a ha'.1).2.2.1 f).2.1
        exact Or.inr ⟨by omega, by omega⟩
theorem r_pieces (h : MR s 78 A) (hR : RepA A tp se P LG IM ms vw dr) (hH : PgH P) {a k : Int} (ha : r32 a) (hk : r32 k) : RO s (f_M_pieces s 78 (v a) (v k)) (pieZ P a k) tp se P LG IM ms vw dr := by
  refine r_pure h hR (fun A1 k1 k2 => ?_)
  unfold f_M_pieces
  rw [if_pos h.t, nv0, nv1, lw0, lw1, m_isRecord k1 k2.pg hH.1.1.1 ha, Option.bind_some]
  by_cases c : recP P a
  · rw [bi_t c, if_neg (show ¬ v 1 = v 0 by decide), v_w hk, m_in (by omega) (by omega) (by omega), Option.bind_some]
    by_cases c2 : 0 ≤ k ∧ k ≤ 1
    · rw [bi_t c2, if_neg (show ¬ v 1 = v 0 by decide), ← pcsA_v P c c2]
      obtain ⟨rk, hL⟩ := hH.1.2
      have := (hL a c.1).2.2.2.2
      exact m_pcsL k1 k2.pg hH hL c2 128 fuel 0 a (v 0) (Or.inr ⟨c.1, by omega⟩) (by unfold fuel; omega)
    · rw [bi_f c2, if_pos rfl, v_neg]
      unfold pieZ
      rw [if_pos c, if_neg c2]
  · rw [bi_f c, if_pos rfl, v_neg]
    unfold pieZ
    rw [if_neg c]
end PGK
