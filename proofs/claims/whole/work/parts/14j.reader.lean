/-! THE CLASS'S READER: tests -/
def aimC (cd : Int → Int) (j len : Int) : Int → Int := if j = -1 then cd else bu cd j (cd j % 16 + 16 * len)
theorem aimC_mod (cd : Int → Int) (j len z : Int) : aimC cd j len z % 16 = cd z % 16 := by
  unfold aimC
  split
  · rfl
  · unfold bu
    split
    · rename_i h; subst h; omega
    · rfl
theorem aimC_ne {cd : Int → Int} {j len z : Int} (h : z ≠ j) : aimC cd j len z = cd z := by
  unfold aimC
  split
  · rfl
  · unfold bu; rw [if_neg h]
theorem aimC_at {cd : Int → Int} {j len : Int} (h : j ≠ -1) : aimC cd j len j = cd j % 16 + 16 * len := by
  unfold aimC bu
  rw [if_neg h, if_pos rfl]
theorem CdI.add {cd : Int → Int} {len ct x : Int} (h : CdI cd len ct) (hx : 0 ≤ x ∧ x < 100000) (h2 : 2 ≤ x % 16) : CdI (bu cd len x) (len + 1) ct := by
  obtain ⟨c1, c2, c3, c4⟩ := h
  refine ⟨fun z z0 z1 => ?_, by omega, ?_, c4⟩
  · unfold bu
    by_cases e : z = len
    · rw [if_pos e]; omega
    · rw [if_neg e]; exact c1 z z0 (by omega)
  · rw [show (len + 1).toNat = len.toNat + 1 by omega]
    simp only [sumZ]
    rw [sumZ_ext (g := prtC cd) (fun k hk => by
      unfold prtC bu
      rw [if_neg (show ¬ (k : Int) = len by omega)]), c3]
    unfold prtC bu
    rw [if_pos (show ((len.toNat : Nat) : Int) = len by omega), if_neg (by omega)]
    omega
theorem CdI.aim {cd : Int → Int} {len ct j : Int} (h : CdI cd len ct) (hj : -1 ≤ j ∧ j < len) (h2 : 0 ≤ j → 2 ≤ cd j % 16) (hl : len ≤ 400) : CdI (aimC cd j len) len ct := by
  obtain ⟨c1, c2, c3, c4⟩ := h
  refine ⟨fun z z0 z1 => ?_, c2, ?_, c4⟩
  · by_cases e : z = j
    · subst e
      have := h2 z0
      rw [aimC_at (by omega)]
      omega
    · rw [aimC_ne e]; exact c1 z z0 z1
  · rw [sumZ_ext (g := prtC cd) (fun k hk => by
      unfold prtC
      rw [aimC_mod]), c3]
section RT
variable {s : AS} {rd tp : Nat} {B : Int → Int} {n : Int} {ord : Bool} {st : STK} {cd mk : Int → Int} {len cl ct : Int}
theorem s_aimS (h : RdC s rd tp B n ord st ct cd mk len cl) {j : Int} (hj : -1 ≤ j ∧ j < len) (h2 : 0 ≤ j → 2 ≤ cd j % 16) : ∃ s', f_Text_aim s (rd + 1) (v j) = some s' ∧ RdC s' rd tp B n ord st ct (aimC cd j len) mk len cl ∧ Fr (inRd rd) s s' := by
  obtain ⟨h1, h3, h7, h8, h9, h10, h11⟩ := h
  have hst := h8.1.1
  obtain ⟨s', q1, q2, q3⟩ := s_taim (j := j) h7 ⟨h10.2.1, by omega⟩ hj (fun c => (h10.1 j c (by omega)).1)
  have hrd : ¬ inTx (rd + 1) rd := by unfold inTx; omega
  exact ⟨s', q1, ⟨h1.fr q3 (by unfold inTx; omega) (by unfold inTx; have := h1.2.2.2.2.2; omega) (by unfold inTx; have := h1.2.2.2.2.2; omega), by rw [(q3.2 rd hrd).1]; exact h3, q2, h8, h9, h10.aim hj h2 (by omega), h11⟩, q3.mo (fun q hq => by unfold inTx at hq; unfold inRd; omega)⟩
/-- a jump comes, then the next token -/
theorem s_jumpN (h : RdC s rd tp B n ord st ct cd mk len cl) {step : Int} (hs : 2 ≤ step ∧ step < 16) (hlt : st.1 < st.2.1) : ∃ s1 s2, f_Text_addJump s (rd + 1) (v step) = some (v len, s1) ∧ sT s1 rd = 8 ∧ f_Reader_next s1 rd = some s2 ∧ RdC s2 rd tp B n ord (nxS B n st) ct (bu cd len step) mk (len + 1) cl ∧ Fr (inRd rd) s s2 := by
  obtain ⟨h1, h3, h7, h8, h9, h10, h11⟩ := h
  have hst := h8.1.1
  obtain ⟨t1, t2, t3⟩ := nxS_T (B := B) h8.1
  obtain ⟨s1, q1, q2, q3⟩ := s_taddJump (step := step) h7 ⟨h10.2.1, by omega⟩
  have hrd : ¬ inTx (rd + 1) rd := by unfold inTx; omega
  have k1 : RdK s1 rd tp B n := h1.fr q3 (by unfold inTx; omega) (by unfold inTx; have := h1.2.2.2.2.2; omega) (by unfold inTx; have := h1.2.2.2.2.2; omega)
  have k3 := h3
  rw [← (q3.2 rd hrd).1] at k3
  obtain ⟨e2, e3, e4, e5, e6⟩ := k3
  refine ⟨s1, _, q1, k1.1, s_next h9.1 k1 (by omega) e4, ⟨(k1.set 4 _).set 5 _, ⟨?_, ?_, ?_, ?_, ?_⟩, ?_, t1, h9, h10.add (by omega) (by omega), by omega⟩, (q3.mo (fun q hq => by unfold inTx at hq; unfold inRd; omega)).tr ((Fr.si (by unfold inRd; omega)).tr (Fr.si (by unfold inRd; omega)))⟩
  · rw [sI_setI, if_neg (by omega), sI_setI, if_neg (by omega)]; exact e2
  · rw [sI_setI, if_neg (by omega), sI_setI, if_pos ⟨rfl, rfl⟩]; rfl
  · rw [sI_setI, if_pos ⟨rfl, rfl⟩]; rfl
  · rw [sI_setI, if_neg (by omega), sI_setI, if_neg (by omega)]; exact e5
  · rw [sI_setI, if_neg (by omega), sI_setI, if_neg (by omega)]; exact e6
  · exact (q2.fr (Fr.si (F := fun q => q = rd) rfl) (by omega) (by omega) (by omega)).fr (Fr.si (F := fun q => q = rd) rfl) (by omega) (by omega) (by omega)
end RT
