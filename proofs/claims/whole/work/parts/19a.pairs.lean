/-! PAIRS OF METHODS: what is told; the plain ones -/
def rfI (x : Int) : Int := if x < -3 then -2 - x else -1 - x
def msT (ms : Int → Int) : Int → Int := bu ms 2 0
def msR (ms : Int → Int) (x : Int) : Int → Int := bu (bu ms 2 x) (3 + rfI x) (ms (3 + rfI x) + 1)
def tl (ms : Int → Int) (x : Int) : Int → Int := if x < 0 then msR ms x else msT ms
abbrev isRf (x : Int) : Prop := x = -1 ∨ x = -2 ∨ x = -3 ∨ x = -5 ∨ x = -6
theorem rfI_r {x : Int} (h : isRf x) : 0 ≤ rfI x ∧ rfI x < 5 := by
  unfold rfI
  rcases h with rfl | rfl | rfl | rfl | rfl <;> decide
/-- outside the class's places -/
def GrM (s s' : AS) : Prop := ∀ q, inM 78 q ∨ 900000 ≤ q → EqA s s' q
theorem GrM.rf (s : AS) : GrM s s := fun q _ => EqA.rf s q
theorem GrM.tr {a b c : AS} (h : GrM a b) (k : GrM b c) : GrM a c := fun q hq => (h q hq).tr (k q hq)
theorem Fr.grM {F : Nat → Prop} {s s' : AS} (h : Fr F s s') (hF : ∀ q, F q → q < 78) : GrM s s' := fun q hq => h.eqA (fun d => by
  have := hF q d
  rcases hq with e | e
  · have := e.1; omega
  · omega)
def TmC (s : AS) : Prop := sT s 1000000 = 30 ∧ sN s 1000000 = 3 ∧ ∀ z : Int, 0 ≤ z ∧ z < 3 → sI s 1000000 z.toNat = v (if z = 0 then 999 else if z = 1 then 10 else 9)
theorem TmC.eq {s s' : AS} (h : TmC s) (e : EqA s s' 1000000) : TmC s' := by
  unfold TmC
  rw [e.1, e.2.1, e.2.2.2.1]
  exact h
section TEL
variable {s : AS} {D : DYN} {tp : (Int → Int) × Int} {se : ST1} {P : PG} {LG : LGS} {IM : Nat → IMG} {ms : Int → Int} {vw : (Int → Int) × Int} {dr : DRW} {cn : Nat} {A : MA}
theorem d_told (h : RepD s D tp se P LG IM ms vw dr cn) {a : Int32} : ∃ s', f_C_told s 1 a = some (a, s') ∧ RepD s' D tp se P LG IM (msT ms) vw dr cn ∧ Fr (fun q => q = 1) s s' := by
  have hob := h.1
  have hit := h.2.1
  have f1 : Fr (fun q => q = 1) s (setI s 1 15 (v 0)) := Fr.si rfl
  refine ⟨setI s 1 15 (v 0), ?_, h.u_it (f1.mo (fun q hq => Or.inl hq)) (hob.st f1.1) ⟨?_, ?_⟩ ?_ (fun z hz => ?_), f1⟩
  · unfold f_C_told
    rw [if_pos hob.1, nv0]
  · rw [sI_setI, if_neg (by omega), hit.1]
    unfold msT
    rw [bu_ne (by decide)]
  · rw [sI_setI, if_pos ⟨rfl, rfl⟩]
    unfold msT
    rw [bu_eq]
  · unfold msT
    rw [bu_ne (by decide)]
  · rw [(f1.2 77 (by decide)).1, h.2.2.2.2.2.2.2.2.2.2.2.2.2.2.2.2.1.2.2 z hz]
    unfold msT
    rw [bu_ne (by omega)]
theorem d_refuse (h : RepD s D tp se P LG IM ms vw dr cn) {x : Int} (hx : isRf x) : ∃ s', f_C_refuse s 1 (v x) = some (v x, s') ∧ RepD s' D tp se P LG IM (msR ms x) vw dr cn ∧ Fr (fun q => q = 1 ∨ q = 77) s s' := by
  have hob := h.1
  have hit := h.2.1
  obtain ⟨r1, r2, r3⟩ := h.2.2.2.2.2.2.2.2.2.2.2.2.2.2.2.2.1
  have hr := rfI_r hx
  have hx2 : -6 ≤ x ∧ x < 0 := by rcases hx with rfl | rfl | rfl | rfl | rfl <;> decide
  obtain ⟨s2, e2⟩ : ∃ q, q = setI (setI s 1 15 (v x)) 77 (rfI x).toNat (v (ms (3 + rfI x) + 1)) := ⟨_, rfl⟩
  have f2 : Fr (fun q => q = 1 ∨ q = 77) s s2 := by rw [e2]; exact (Fr.si (Or.inl rfl)).tr (Fr.si (Or.inr rfl))
  have I2 : ∀ q k, sI s2 q k = if q = 77 ∧ k = (rfI x).toNat then v (ms (3 + rfI x) + 1) else if q = 1 ∧ k = 15 then v x else sI s q k := fun q k => by rw [e2, sI_setI, sI_setI]
  refine ⟨s2, ?_, h.u_it f2 (hob.st f2.1) ⟨?_, ?_⟩ ?_ (fun z hz => ?_), f2⟩
  · have e77 : sI (setI s 1 15 (v x)) 77 (rfI x).toNat = v (ms (3 + rfI x)) := by rw [sI_setI, if_neg (by omega), r3 _ (by omega)]
    unfold f_C_refuse b_C_refuse_21
    rw [if_pos hob.1, nv0, nv1, show nI 2 = v 2 from rfl, nv3, show nI 5 = v 5 from rfl, v_neg, v_neg, v_neg, v_sub, v_sub]
    have ew : (if v x < v (-3) then v (-2 - x) else v (-1 - x)) = v (rfI x) := by
      unfold rfI
      by_cases c : x < -3
      · rw [if_pos (plt (by omega)), if_pos c]
      · rw [if_neg (nlt (by omega)), if_neg c]
    rw [ew, if_neg (nlt (by omega)), if_pos (plt (by omega)), if_pos (show sT (setI s 1 15 (v x)) 1 = 1 from hob.1), show sR (setI s 1 15 (v x)) 1 13 = 77 from hob.2.2.2.2.2.2.2, show sT (setI s 1 15 (v x)) 77 = 20 from r1, show sN (setI s 1 15 (v x)) 77 = 5 from r2, if_pos ⟨rfl, v_inA (by omega) (by omega)⟩, v_ix (by omega), e77, v_add, e2]
  · rw [I2, if_neg (by omega), if_neg (by omega), hit.1]
    unfold msR
    rw [bu_ne (by omega), bu_ne (by omega)]
  · rw [I2, if_neg (by omega), if_pos ⟨rfl, rfl⟩]
    unfold msR
    rw [bu_ne (by omega), bu_eq]
  · unfold msR
    rw [bu_ne (by omega), bu_ne (by omega)]
  · rw [I2]
    unfold msR
    by_cases e : z = rfI x
    · rw [if_pos ⟨rfl, by rw [e]⟩, e, bu_eq]
    · rw [if_neg (fun c => e (by omega)), if_neg (by omega), bu_ne (by omega), bu_ne (by omega)]
      exact r3 z hz
theorem r_tell (h : MR s 78 A) (hR : RepA A tp se P LG IM ms vw dr) {x : Int} (hx : x < 2147483648 ∧ (isRf x ∨ 0 ≤ x)) : ∃ s' A', f_M_tell s 78 (v x) = some (v x, s') ∧ MR s' 78 A' ∧ RepA A' tp se P LG IM (tl ms x) vw dr ∧ Fr (inM 78) s s' := by
  have hx6 : -6 ≤ x := by
    rcases hx.2 with d | d
    · rcases d with rfl | rfl | rfl | rfl | rfl <;> decide
    · omega
  obtain ⟨s', A', q1, q2, q3, q4, q5, q6⟩ := m_tell (x := x) h ⟨hx6, hx.1⟩
  obtain ⟨i1, i2, i3⟩ := hR.2.2.2.2.2.2.2.1
  obtain ⟨j1, j2, j3, j4, j5⟩ := hR.2.2.2.2.2.2.2.2.1
  refine ⟨s', A', q1, q2, hR.v_it (q5.mo (fun j z hj => by omega)) ⟨?_, ?_, ?_⟩ ?_, q6⟩
  · rw [q5 0 17 (by omega), i1]
    unfold tl msR msT
    by_cases c : x < 0
    · have hr := rfI_r (x := x) (by rcases hx.2 with d | d; exact d; omega)
      rw [if_pos c, bu_ne (by omega), bu_ne (by omega)]
    · rw [if_neg c, bu_ne (by decide)]
  · rw [q5 0 52 (by omega), i2]
    unfold tl msR msT
    by_cases c : x < 0
    · have hr := rfI_r (x := x) (by rcases hx.2 with d | d; exact d; omega)
      rw [if_pos c, bu_ne (by omega), bu_ne (by omega)]
    · rw [if_neg c, bu_ne (by decide)]
  · rw [q3]
    unfold tl msR msT stOf
    by_cases c : x < 0
    · have hr := rfI_r (x := x) (by rcases hx.2 with d | d; exact d; omega)
      rw [if_pos c, if_pos c, bu_ne (by omega), bu_eq]
    · rw [if_neg c, if_neg c, bu_eq]
  · rw [q4, q4, q4, q4, q4, j1, j2, j3, j4, j5]
    by_cases c : x < 0
    · rcases hx.2 with d | d
      · rcases d with rfl | rfl | rfl | rfl | rfl <;> exact ⟨rfl, rfl, rfl, rfl, rfl⟩
      · omega
    · unfold tl msT
      rw [if_neg c, if_neg (show ¬(x < 0 ∧ _) from fun z => c z.1), if_neg (show ¬(x < 0 ∧ _) from fun z => c z.1), if_neg (show ¬(x < 0 ∧ _) from fun z => c z.1), if_neg (show ¬(x < 0 ∧ _) from fun z => c z.1), if_neg (show ¬(x < 0 ∧ _) from fun z => c z.1), bu_ne (by decide), bu_ne (by decide), bu_ne (by decide), bu_ne (by decide), bu_ne (by decide)]
      exact ⟨rfl, rfl, rfl, rfl, rfl⟩
/-- thrown is set back -/
theorem r_thr (h : MR s 78 A) (hR : RepA A tp se P LG IM ms vw dr) : MR (setI s 78 0 (v 0)) 78 (pu A 0 0 0) ∧ RepA (pu A 0 0 0) tp se P LG IM ms vw dr ∧ Fr (inM 78) s (setI s 78 0 (v 0)) :=
  ⟨h.s0 (z := 0) rfl (by decide), hR.v_s (AF.pu (Or.inl ⟨rfl, by decide, by decide, by decide, by decide, by decide, by decide, by decide, by decide, by decide, by decide⟩)), Fr.si (by omega)⟩
/-! fault, stopped, status, sign -/
theorem c_fault (h : RepD s D tp se P LG IM ms vw dr cn) : f_C_fault s 1 = some (v (ms 0)) := by
  unfold f_C_fault
  rw [if_pos h.1.1, h.1.2.1.2.2.2.1, if_pos h.2.2.2.2.2.1.1.1, h.2.2.2.2.2.1.2]
theorem r_fault (h : MR s 78 A) (hR : RepA A tp se P LG IM ms vw dr) : ∃ s' A', f_M_fault s 78 = some (v (ms 0), s') ∧ MR s' 78 A' ∧ RepA A' tp se P LG IM ms vw dr ∧ Fr (inM 78) s s' := by
  obtain ⟨k1, k2, k3⟩ := r_thr h hR
  refine ⟨_, _, ?_, k1, k2, k3⟩
  unfold f_M_fault
  rw [if_pos h.t, nv0, k1.i17, k2.2.2.2.2.2.2.2.1.1]
theorem c_stopped (h : RepD s D tp se P LG IM ms vw dr cn) : f_C_stopped s 1 = some (v (ms 1)) := by
  unfold f_C_stopped
  rw [if_pos h.1.1, h.2.1.1]
theorem r_stopped (h : MR s 78 A) (hR : RepA A tp se P LG IM ms vw dr) : ∃ s' A', f_M_stopped s 78 = some (v (ms 1), s') ∧ MR s' 78 A' ∧ RepA A' tp se P LG IM ms vw dr ∧ Fr (inM 78) s s' := by
  obtain ⟨k1, k2, k3⟩ := r_thr h hR
  refine ⟨_, _, ?_, k1, k2, k3⟩
  unfold f_M_stopped
  rw [if_pos h.t, nv0, k1.i52, k2.2.2.2.2.2.2.2.1.2.1]
theorem c_status (h : RepD s D tp se P LG IM ms vw dr cn) : f_C_status s 1 = some (v (ms 2)) := by
  unfold f_C_status
  rw [if_pos h.1.1, h.2.1.2]
theorem r_status (h : MR s 78 A) (hR : RepA A tp se P LG IM ms vw dr) : ∃ s' A', f_M_status s 78 = some (v (ms 2), s') ∧ MR s' 78 A' ∧ RepA A' tp se P LG IM ms vw dr ∧ Fr (inM 78) s s' := by
  obtain ⟨k1, k2, k3⟩ := r_thr h hR
  refine ⟨_, _, ?_, k1, k2, k3⟩
  unfold f_M_status
  rw [if_pos h.t, nv0, k1.i1, k2.2.2.2.2.2.2.2.1.2.2]
def signZ (vw : (Int → Int) × Int) (i : Int) : Int := if 0 ≤ i ∧ i < vw.2 then vw.1 i else -1
theorem c_sign (h : RepD s D tp se P LG IM ms vw dr cn) (hv : 0 ≤ vw.2 ∧ vw.2 ≤ 200) {i : Int} (hi : r32 i) : f_C_sign s 1 (v i) = some (v (signZ vw i)) := by
  obtain ⟨⟨w1, w2, w3, w4⟩, w5, w6⟩ := h.2.2.2.1
  unfold f_C_sign signZ
  rw [nv0, nv1, v_neg]
  by_cases c : i < 0
  · rw [if_pos (plt (by omega)), if_neg (by omega)]
  · rw [if_neg (nlt (by omega)), if_pos h.1.1, h.1.2.1.2.1, if_pos w1, w5]
    by_cases c2 : i < vw.2
    · rw [if_pos (plt (by omega)), w2, w3, w4, if_pos ⟨rfl, v_inA (by omega) (by omega)⟩, v_ix (by omega), w6 i (by omega), if_pos ⟨by omega, c2⟩]
    · rw [if_neg (nlt (by omega)), if_neg (by omega)]
theorem r_sign (h : MR s 78 A) (hR : RepA A tp se P LG IM ms vw dr) (hv : 0 ≤ vw.2 ∧ vw.2 ≤ 200) {i : Int} (hi : r32 i) : ∃ s' A', f_M_sign s 78 (v i) = some (v (signZ vw i), s') ∧ MR s' 78 A' ∧ RepA A' tp se P LG IM ms vw dr ∧ Fr (inM 78) s s' := by
  obtain ⟨k1, k2, k3⟩ := r_thr h hR
  have hvw := k2.2.2.2.2.2.2.2.2.2.1
  refine ⟨_, _, ?_, k1, k2, k3⟩
  unfold f_M_sign signZ
  rw [if_pos h.t, nv0, nv1, v_neg, k1.i46, hvw.1, v_w hi, v_w (by omega), lw0, lw1, w_sub, m_in (by omega) (by omega) (by omega), Option.bind_some]
  by_cases c : 0 ≤ i ∧ i ≤ vw.2 - 1
  · rw [bi_t c, if_neg (show ¬ v 1 = v 0 by decide), h.r45, h.t45, h.n45, if_pos ⟨rfl, v_inA (by omega) (by omega)⟩, v_ix (by omega), k1.a45 i (by omega), hvw.2 i c.1 (by omega), if_pos ⟨c.1, by omega⟩]
  · rw [bi_f c, if_pos rfl, if_neg (by omega)]
end TEL
