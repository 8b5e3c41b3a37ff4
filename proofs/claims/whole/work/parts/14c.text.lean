/-! A TEXT THAT IS BEING READ -/
def TxF (s : AS) (t : Nat) (cd mk : Int → Int) (len cl : Int) : Prop := IsTx s t 400 72 ∧ (sI s t 2 = v len ∧ sI s t 3 = v cl) ∧ (∀ z : Int, 0 ≤ z ∧ z < 400 → sI s (t + 1) z.toNat = v (cd z)) ∧ (∀ z : Int, 0 ≤ z ∧ z < 72 → sI s (t + 2) z.toNat = v (mk z))
abbrev inTx (t : Nat) : Nat → Prop := fun q => t ≤ q ∧ q ≤ t + 2
theorem TxF.fr {F : Nat → Prop} {s s' : AS} {t : Nat} {cd mk : Int → Int} {len cl : Int} (h : TxF s t cd mk len cl) (hf : Fr F s s') (h0 : ¬ F t) (h1 : ¬ F (t + 1)) (h2 : ¬ F (t + 2)) : TxF s' t cd mk len cl := by
  obtain ⟨a, b, c, d⟩ := h
  obtain ⟨⟨t1, t2, t3, -, -⟩, hq⟩ := hf
  refine ⟨by unfold IsTx; rw [t1, t2, t3]; exact a, ?_, ?_, ?_⟩
  · rw [(hq t h0).1]; exact b
  · rw [(hq _ h1).1]; exact c
  · rw [(hq _ h2).1]; exact d
section TX
variable {s : AS} {t : Nat} {cd mk : Int → Int} {len cl : Int}
theorem TxF.code (h : TxF s t cd mk len cl) {z x : Int} (hz : 0 ≤ z ∧ z < 400) : TxF (setI s (t + 1) z.toNat (v x)) t (bu cd z x) mk len cl := by
  obtain ⟨a, b, c, d⟩ := h
  refine ⟨a, ?_, fun y hy => ?_, fun y hy => ?_⟩
  · rw [sI_setI, if_neg (by omega), sI_setI, if_neg (by omega)]; exact b
  · rw [sI_setI]
    unfold bu
    by_cases e : y = z
    · rw [if_pos ⟨rfl, by rw [e]⟩, if_pos e]
    · rw [if_neg (fun c => e (by omega)), if_neg e]; exact c y hy
  · rw [sI_setI, if_neg (by omega)]; exact d y hy
theorem TxF.mark (h : TxF s t cd mk len cl) {z x : Int} (hz : 0 ≤ z ∧ z < 72) : TxF (setI s (t + 2) z.toNat (v x)) t cd (bu mk z x) len cl := by
  obtain ⟨a, b, c, d⟩ := h
  refine ⟨a, ?_, fun y hy => ?_, fun y hy => ?_⟩
  · rw [sI_setI, if_neg (by omega), sI_setI, if_neg (by omega)]; exact b
  · rw [sI_setI, if_neg (by omega)]; exact c y hy
  · rw [sI_setI]
    unfold bu
    by_cases e : y = z
    · rw [if_pos ⟨rfl, by rw [e]⟩, if_pos e]
    · rw [if_neg (fun c => e (by omega)), if_neg e]; exact d y hy
theorem TxF.len' (h : TxF s t cd mk len cl) {x : Int} : TxF (setI s t 2 (v x)) t cd mk x cl := by
  obtain ⟨a, b, c, d⟩ := h
  refine ⟨a, ⟨by rw [sI_setI, if_pos ⟨rfl, rfl⟩], by rw [sI_setI, if_neg (by omega)]; exact b.2⟩, fun y hy => ?_, fun y hy => ?_⟩
  · rw [sI_setI, if_neg (by omega)]; exact c y hy
  · rw [sI_setI, if_neg (by omega)]; exact d y hy
theorem TxF.cl' (h : TxF s t cd mk len cl) {x : Int} : TxF (setI s t 3 (v x)) t cd mk len x := by
  obtain ⟨a, b, c, d⟩ := h
  refine ⟨a, ⟨by rw [sI_setI, if_neg (by omega)]; exact b.1, by rw [sI_setI, if_pos ⟨rfl, rfl⟩]⟩, fun y hy => ?_, fun y hy => ?_⟩
  · rw [sI_setI, if_neg (by omega)]; exact c y hy
  · rw [sI_setI, if_neg (by omega)]; exact d y hy
theorem s_tadd (h : TxF s t cd mk len cl) (hl : 0 ≤ len ∧ len < 400) {step wth : Int} : ∃ s', f_Text_add s t (v step) (v wth) = some s' ∧ TxF s' t (bu cd len (step + 16 * wth)) mk (len + 1) cl ∧ Fr (inTx t) s s' := by
  have h1 := (h.code (z := len) (x := step + 16 * wth) hl)
  have h2 := h1.len' (x := len + 1)
  obtain ⟨⟨a1, ⟨a2, a3, a4⟩, -⟩, ⟨b1, b2⟩, -⟩ := h
  refine ⟨_, ?_, h2, (Fr.si (by unfold inTx; omega)).tr (Fr.si (by unfold inTx; omega))⟩
  have hb1 : sI (setI s (t + 1) len.toNat (v (step + 16 * wth))) t 2 = v len := by rw [sI_setI, if_neg (by omega)]; exact b1
  unfold f_Text_add
  rw [if_pos a1, a2, a3, a4, if_pos (by decide), b1, nv400, if_pos (plt (by omega)), if_pos ⟨rfl, v_inA (by omega) (by omega)⟩, nv16, v_mul, v_add, v_ix (by omega), hb1, nv1, v_add]
theorem s_taddJump (h : TxF s t cd mk len cl) (hl : 0 ≤ len ∧ len < 400) {step : Int} : ∃ s', f_Text_addJump s t (v step) = some (v len, s') ∧ TxF s' t (bu cd len step) mk (len + 1) cl ∧ Fr (inTx t) s s' := by
  obtain ⟨s1, q1, q2, q3⟩ := s_tadd (step := step) (wth := 0) h hl
  rw [Int.mul_zero, Int.add_zero] at q2
  refine ⟨s1, ?_, q2, q3⟩
  unfold f_Text_addJump
  rw [if_pos h.1.1, nv0, q1, Option.bind_some, if_pos q2.1.1, q2.2.1.1, nv1, v_sub, show len + 1 - 1 = len by omega]
theorem s_taim (h : TxF s t cd mk len cl) (hl : 0 ≤ len ∧ len ≤ 400) {j : Int} (hj : -1 ≤ j ∧ j < len) (hc : 0 ≤ j → 0 ≤ cd j ∧ cd j < 100000) : ∃ s', f_Text_aim s t (v j) = some s' ∧ TxF s' t (if j = -1 then cd else bu cd j (cd j % 16 + 16 * len)) mk len cl ∧ Fr (inTx t) s s' := by
  unfold f_Text_aim
  rw [nv0]
  by_cases e : j = -1
  · rw [if_pos (plt (by omega)), if_pos e]
    exact ⟨s, rfl, h, Fr.rf _ _⟩
  · have hcj := hc (by omega)
    have h1 := h.code (z := j) (x := cd j % 16 + 16 * len) (by omega)
    have r := h.2.2.1 j (by omega)
    obtain ⟨⟨a1, ⟨a2, a3, a4⟩, -⟩, ⟨b1, b2⟩, -⟩ := h
    refine ⟨_, ?_, by rw [if_neg e]; exact h1, Fr.si (by unfold inTx; omega)⟩
    rw [if_neg (nlt (by omega)), if_pos a1, b1, if_pos (plt (by omega)), a2, a3, a4, if_pos ⟨rfl, v_inA (by omega) (by omega)⟩, if_pos (show ¬ nI 16 = v 0 by decide), v_ix (by omega), r, nv16, v_div (by omega) (by omega), v_mul, v_mul, v_sub, v_add, show cd j - cd j / 16 * 16 = cd j % 16 by omega]
theorem s_tmark (h : TxF s t cd mk len cl) (hc : 0 ≤ cl ∧ cl < 12) {what x : Int} (hw : 0 ≤ what ∧ what < 6) : ∃ s', f_Text_mark s t (v what) (v x) = some s' ∧ TxF s' t cd (bu mk (cl * 6 + what) x) len cl ∧ Fr (inTx t) s s' := by
  have h1 := h.mark (z := cl * 6 + what) (x := x) (by omega)
  obtain ⟨⟨a1, -, ⟨a2, a3, a4⟩⟩, ⟨b1, b2⟩, -⟩ := h
  refine ⟨_, ?_, h1, Fr.si (by unfold inTx; omega)⟩
  unfold f_Text_mark
  rw [if_pos a1, b2, nv6, v_mul, v_add, nv0, if_neg (nlt (by omega)), a2, a3, a4, if_pos (by decide), nv72, if_pos (plt (by omega)), if_pos ⟨rfl, v_inA (by omega) (by omega)⟩, v_ix (by omega)]
end TX
