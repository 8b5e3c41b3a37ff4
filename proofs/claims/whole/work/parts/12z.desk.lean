/-! A DESK: all of it -/
def DkS (s : AS) (d st mc : Nat) (o : LWS) (V : Int → Int) (kept : Int) (P Bf : PG) (B : Int → Int) (len : Int) : Prop := DkE s d st mc o V ∧ sI s d 6 = v kept ∧ PgR s (d + 1) P ∧ PgR s (d + 8) Bf ∧ RwR s (d + 15) 40 B len ∧ (-1 ≤ kept ∧ kept < 128)
section DS
variable {s s' : AS} {d st mc : Nat} {o : LWS} {V : Int → Int} {kept len : Int} {P Bf : PG} {B : Int → Int}
theorem DkS.pg (h : DkS s d st mc o V kept P Bf B len) {P' : PG} (hf : Fr (fun q => inP (d + 1) q ∨ q = d + 17) s s') (hP : PgR s' (d + 1) P') : DkS s' d st mc o V kept P' Bf B len := by
  obtain ⟨h1, h2, h3, h4, h5, h6⟩ := h
  exact ⟨h1.fr hf (fun q hq => by omega), by rw [(hf.2 d (by omega)).1]; exact h2, hP, h4.fr hf (fun i i1 i2 => by omega), h5.fr hf (by omega) (by omega), h6⟩
theorem DkS.row (h : DkS s d st mc o V kept P Bf B len) {B' : Int → Int} {len' : Int} (hf : Fr (inR (d + 15)) s s') (hR : RwR s' (d + 15) 40 B' len') : DkS s' d st mc o V kept P Bf B' len' := by
  obtain ⟨h1, h2, h3, h4, h5, h6⟩ := h
  have hz : ∀ q, q < d + 15 ∨ d + 16 < q → ¬ inR (d + 15) q := fun q hq => by unfold inR; omega
  exact ⟨h1.fr hf (fun q hq => by have : q = d + 15 ∨ q = d + 15 + 1 := hq; omega), by rw [(hf.2 d (hz _ (by omega))).1]; exact h2, h3.fr hf (fun i i1 i2 => hz _ (by omega)), h4.fr hf (fun i i1 i2 => hz _ (by omega)), hR, h6⟩
theorem DkS.mch (h : DkS s d st mc o V kept P Bf B len) (hf : Fr (fun q => q = mc + 1 ∨ q = mc + 2) s s') (hE : DkE s' d st mc o V) : DkS s' d st mc o V kept P Bf B len := by
  obtain ⟨h1, h2, h3, h4, h5, h6⟩ := h
  have hm := h1.2.2.2.2.2.1
  exact ⟨hE, by rw [(hf.2 d (by omega)).1]; exact h2, h3.fr hf (fun i i1 i2 => by omega), h4.fr hf (fun i i1 i2 => by omega), h5.fr hf (by omega) (by omega), h6⟩
theorem DkS.bf (h : DkS s d st mc o V kept P Bf B len) {Q : PG} (hf : Fr (inP (d + 8)) s s') (hP : PgR s' (d + 8) Q) : DkS s' d st mc o V kept P Q B len := by
  obtain ⟨h1, h2, h3, h4, h5, h6⟩ := h
  exact ⟨h1.fr hf (fun q hq => by omega), by rw [(hf.2 d (by omega)).1]; exact h2, h3.fr hf (fun i i1 i2 => by omega), hP, h5.fr hf (by omega) (by omega), h6⟩
theorem DkS.kp (h : DkS s d st mc o V kept P Bf B len) {k : Int} (hk : -1 ≤ k ∧ k < 128) : DkS (setI s d 6 (v k)) d st mc o V k P Bf B len := by
  obtain ⟨h1, h2, h3, h4, h5, h6⟩ := h
  have hf : Fr (fun q => q = d) s (setI s d 6 (v k)) := Fr.si rfl
  exact ⟨h1.fr hf (fun q hq => by omega), by rw [sI_setI, if_pos ⟨rfl, rfl⟩], h3.fr hf (fun i i1 i2 => by omega), h4.fr hf (fun i i1 i2 => by omega), h5.fr hf (by omega) (by omega), hk⟩
theorem inD_pg {q : Nat} (h : inP (d + 1) q ∨ q = d + 17) : inD d mc q := by unfold inD; omega
theorem inD_row {q : Nat} (h : inR (d + 15) q) : inD d mc q := by
  have : q = d + 15 ∨ q = d + 15 + 1 := h
  unfold inD; omega
theorem inD_bf {q : Nat} (h : inP (d + 8) q) : inD d mc q := by unfold inD; omega
theorem s_lay (h : DkS s d st mc o V kept P Bf B len) (hI : PgI P) {a kind : Int} (hc : canL P a kind B len) (hf : needL P a len ≤ freeP P (a / 16)) :
    ∃ s', f_Desk_lay s d (v a) (v kind) = some s' ∧ DkS s' d st mc o V kept (layP P a kind B len) Bf B len ∧ Fr (inD d mc) s s' := by
  have h' := h
  obtain ⟨hE, hkk, hP, hBf, hR, hkr⟩ := h
  have hD := hE.1
  have hp : 0 ≤ a / 16 ∧ a / 16 < 8 := by have := hc.1; omega
  obtain ⟨ha, ⟨hs, hs12⟩, h0, hk, hl, hbt⟩ := hc
  have hb := hI.1.1.2 (a / 16)
  have hl3 := hb.2.2.2.1
  have hIQ : ∃ Q s1, (∀ s2 : AS → Option AS, (if v (gapP P (a / 16)) < v (needL P a len) then (f_Desk_squeeze s d (v (a / 16))).bind s2 else s2 s) = s2 s1) ∧ DkS s1 d st mc o V kept Q Bf B len ∧ Fr (fun q => inP (d + 1) q ∨ q = d + 17) s s1 ∧ PgI Q ∧ needL Q a len ≤ gapP Q (a / 16) ∧ needL Q a len ≤ freeP Q (a / 16) ∧ Q = (if gapP P (a / 16) < needL P a len then squeezeP P (a / 16) else P) ∧ (∀ z, Q 3 z = P 3 z) ∧ canL Q a kind B len := by
    have hgr : -2000 ≤ gapP P (a / 16) ∧ gapP P (a / 16) ≤ 64 := by
      have := minL_r hI.1.1 (a / 16) (P 3 (a / 16)).toNat
      unfold gapP lowP; omega
    have hnr : 0 ≤ needL P a len ∧ needL P a len ≤ 100 := by unfold needL; omega
    by_cases c : gapP P (a / 16) < needL P a len
    · have ht : tailZ P (a / 16) (P 3 (a / 16)).toNat 0 ≤ 64 := by
        have := freeP_tail hI.1.2.1 (a / 16)
        have := hI.2.2.1 (a / 16) hp
        omega
      obtain ⟨s1, q1, q2, q3⟩ := s_squeeze hp hD hP hl3 (fun z => ⟨(hI.1.1.2 z).1, (hI.1.1.2 z).2.2.1⟩) (fun i i0 i1 hn => by
        have := hI.2.1 (a / 16) i hp (by omega) hn
        omega) ht
      have h3 : ∀ z, squeezeP P (a / 16) 3 z = P 3 z := fun z => sq_row (by decide) (by decide) z
      have hg := sq_gap (P := P) (p := a / 16) hI.1.2.1 (fun a => (hI.1.1.2 a).2.2.1.1) hl3.1
      have hn : needL (squeezeP P (a / 16)) a len = needL P a len := by unfold needL; rw [h3]
      refine ⟨squeezeP P (a / 16), s1, fun s2 => by rw [if_pos (plt (by omega)), q1, Option.bind_some], h'.pg q3 q2, q3, sq_I hI hp, by rw [hn, hg]; exact hf, by rw [hn, sq_free]; exact hf, by rw [if_pos c], h3, ?_⟩
      unfold canL
      rw [h3, sq_row (by decide) (by decide)]
      exact ⟨ha, ⟨hs, hs12⟩, h0, hk, hl, hbt⟩
    · exact ⟨P, s, fun s2 => by rw [if_neg (nlt (by omega))], h', Fr.rf _ _, hI, by omega, hf, by rw [if_neg c], fun _ => rfl, ⟨ha, ⟨hs, hs12⟩, h0, hk, hl, hbt⟩⟩
  obtain ⟨Q, s1, u1, u2, u3, u4, u5, u6, u7, u8, u9⟩ := hIQ
  obtain ⟨hE1, -, hP1, -, hR1, -⟩ := u2
  have hD1 := hE1.1
  have hmn := minL_r u4.1.1 (a / 16) (Q 3 (a / 16)).toNat
  have hl3Q := (u4.1.1.2 (a / 16)).2.2.2.1
  have hlow := s_lowestOf (p := a / 16) hP1 u4.1.1 hp
  have h5b : 2 * max (Q 3 (a / 16)) (a % 16 + 1) ≤ lowP Q (a / 16) - len := by
    unfold gapP needL at u5
    omega
  have h64 := low_64 Q (a / 16)
  -- the directory's length
  have g3 := pg_set3 (z := a / 16) (x := max (Q 3 (a / 16)) (a % 16 + 1)) hP1 hp
  have f3 : Fr (fun q => inP (d + 1) q ∨ q = d + 17) s1 (setI s1 (d + 1 + 4) (a / 16).toNat (v (max (Q 3 (a / 16)) (a % 16 + 1)))) := Fr.si (by omega)
  have hR3 := hR1.fr f3 (by omega) (by omega)
  obtain ⟨s2, w1, w2, w3⟩ := s_write (kind := kind) (begin_ := lowP Q (a / 16) - len) g3 hR3 ha ⟨by omega, by omega⟩ ⟨hl.1, hl.2, by omega⟩
  have hBw : PgB (writeP (pu Q 3 (a / 16) (max (Q 3 (a / 16)) (a % 16 + 1))) a kind (lowP Q (a / 16) - len) B len) := by
    have hIl := layQ_I u4 u9 u5 u6
    refine ⟨fun z hz h0 => ?_, fun z => ?_⟩
    · have := hIl.1.1.1 z hz
      unfold layQ promP at this
      rw [pu_row (j := 1) _ _ _ _ (by decide), pu_row (j := 2) _ _ _ _ (by decide)] at this
      exact this h0
    · have := hIl.1.1.2 z
      have h4z := (u4.1.1.2 z).2.2.2.2.1
      have h4w : writeP (pu Q 3 (a / 16) (max (Q 3 (a / 16)) (a % 16 + 1))) a kind (lowP Q (a / 16) - len) B len 4 z = Q 4 z := by
        unfold writeP
        rw [wrB_row (by decide), pu_row _ _ _ _ (by decide), pu_row _ _ _ _ (by decide), pu_row _ _ _ _ (by decide), pu_row _ _ _ _ (by decide)]
      unfold layQ promP at this
      rw [pu_row (j := 0) _ _ _ _ (by decide), pu_row (j := 1) _ _ _ _ (by decide), pu_row (j := 2) _ _ _ _ (by decide), pu_row (j := 3) _ _ _ _ (by decide), pu_row (j := 5) _ _ _ _ (by decide)] at this
      rw [h4w]
      exact ⟨this.1, this.2.1, this.2.2.1, this.2.2.2.1, h4z, this.2.2.2.2.2⟩
  have hfw : 0 ≤ freeP (writeP (pu Q 3 (a / 16) (max (Q 3 (a / 16)) (a % 16 + 1))) a kind (lowP Q (a / 16) - len) B len) (a / 16) := by
    have h1 : freeP (layQ Q a kind B len) (a / 16) = freeP (writeP (pu Q 3 (a / 16) (max (Q 3 (a / 16)) (a % 16 + 1))) a kind (lowP Q (a / 16) - len) B len) (a / 16) :=
      free_rows (by unfold layQ promP; rw [pu_row _ _ _ _ (by decide)]) (fun k _ _ => by unfold layQ promP; rw [pu_row _ _ _ _ (by decide)])
    rw [← h1]
    exact (layQ_I u4 u9 u5 u6).2.2.1 _ hp
  obtain ⟨s3, x1, x2, x3⟩ := s_promise w2 hBw hp hfw
  have hfr : Fr (fun q => inP (d + 1) q ∨ q = d + 17) s s3 := ((u3.tr f3).tr (w3.mo (fun q hq => Or.inl hq))).tr (x3.mo (fun q hq => Or.inl hq))
  refine ⟨s3, ?_, ?_, hfr.mo (fun q hq => inD_pg hq)⟩
  · have hgap := s_gapOf (p := a / 16) hP hI.1.1 hp
    have hD2 : IsD s2 d st mc := hD1.st (f3.1.tr w3.1)
    have hrow1 : sI s1 (d + 15) 1 = v len := hR1.2.1
    have e16 : a - a / 16 * 16 = a % 16 := by omega
    obtain ⟨⟨p7, -, -, -, ⟨p4, p5, p6⟩, -⟩, -, -, -, pd4, -⟩ := hP
    have hP1' := hP1
    obtain ⟨⟨z7, -, -, -, ⟨z4, z5, z6⟩, -⟩, -, -, -, zd4, -⟩ := hP1
    unfold f_Desk_lay
    rw [if_pos (show ¬ nI 16 = nI 0 by decide), if_pos hD.1, hD.2.1.2.2.1, if_pos p7, p4, p5, p6, nv16, v_div (by omega) (by omega), if_pos ⟨rfl, v_inA (by omega) (by omega)⟩, hgap, Option.bind_some, hD.2.1.2.2.2.2.1, if_pos hR.1.1, hR.2.1]
    have ev := v_ix (a := a / 16) (by omega)
    have ep4 := pd4 _ hp
    simp (disch := omega) only [ev, ep4, nv1, nv2, v_mul, v_sub, v_add, e16, v_lt, vif]
    have hmx : (if P 3 (a / 16) < a % 16 + 1 then a % 16 + 1 else P 3 (a / 16)) = max (P 3 (a / 16)) (a % 16 + 1) := by split <;> omega
    rw [hmx]
    refine (u1 (b_Desk_lay_67 d (v a) (v kind) (v (a / 16)) (v (max (P 3 (a / 16)) (a % 16 + 1))))).trans ?_
    unfold b_Desk_lay_67
    rw [if_pos hD1.1, hD1.2.1.2.2.1, if_pos z7, hlow, Option.bind_some, hD1.2.1.2.2.2.2.1, if_pos hR1.1.1, z4, z5, z6, if_pos ⟨rfl, v_inA (by omega) (by omega)⟩, ev, hrow1, v_sub, ← u8, w1, Option.bind_some, if_pos hD2.1, hD2.2.1.2.2.1, if_pos w2.1.1, x1]
    rfl
  · have hlp : layP P a kind B len = layQ Q a kind B len := by rw [u7]; rfl
    rw [hlp]
    exact h'.pg hfr x2
end DS
