/-! A DESK: writing anew -/
section DA
variable {s : AS} {d st mc : Nat} {o : LWS} {V : Int → Int} {kept len : Int} {P Bf : PG} {B : Int → Int}
theorem s_anew104 {how : Int} (h : DkS s d st mc o V kept P Bf B len) (ha : r32 how) : ∃ s1, b_Desk_writeAnew_104 d (v how) s = some (v how, s1) ∧ DkS s1 d st mc o V (-1) (if how = -1 then Bf else P) Bf B len ∧ Fr (inD d mc) s s1 := by
  have hk := h.kp (k := -1) (by omega)
  have hf : Fr (inD d mc) s (setI s d 6 (v (-1))) := Fr.si (by unfold inD; omega)
  unfold b_Desk_writeAnew_104
  rw [if_pos h.1.1.1, nv1, v_neg]
  by_cases e : how = -1
  · obtain ⟨s1, q1, q2, q3⟩ := s_backB hk
    rw [if_pos (peq e), h.1.1.2.1.2.2.1, if_pos h.2.2.1.1.1, h.1.1.2.1.2.2.2.1, q1, Option.bind_some, if_pos e]
    exact ⟨s1, rfl, q2, hf.tr q3⟩
  · rw [if_neg (pne (by omega)), if_neg e]
    exact ⟨_, rfl, hk, hf⟩
theorem s_linkD (h : DkS s d st mc o V kept P Bf B len) {to_ : Int} (ht : r32 to_) : ∃ s' B', f_Row_link s (d + 15) (v to_) = some s' ∧ DkS s' d st mc o V kept P Bf B' 2 ∧ (to_ ≠ 255 → ∀ z, 0 ≤ z → z < 2 → B' z = lnkB to_ z) ∧ Fr (inD d mc) s s' := by
  obtain ⟨s', q1, q2, q3⟩ := s_link (to_ := to_) h.2.2.2.2.1 (by decide) ht
  refine ⟨s', _, q1, h.row q3 q2, fun hne z z0 z1 => ?_, q3.mo (fun q hq => inD_row hq)⟩
  unfold bu lnkB
  by_cases e0 : z = 0
  · rw [if_neg (by omega), if_pos e0, if_neg hne, if_pos e0]
  · rw [if_pos (by omega), if_neg e0]
theorem s_layMoved {a n : Int} {R : Int → Int} (h : DkS s d st mc o V a P Bf B n) (hI : PgI P) (hK : KpI P a) (hL : ∃ rk, PgLk P rk) (ha : 0 ≤ a ∧ a < 128) (hB : ∀ z, 0 ≤ z → z < n → B z = celB (-1) R 0 z) (hRb : RecB R n) (hn : 0 ≤ n ∧ n ≤ 40) :
    ∃ s' B' len', f_Desk_layMoved s d = some (v (if placeA o V P a n = -1 then -1 else if freeP (layP P (placeA o V P a n) 3 (celB (-1) R 0) n) (a / 16) < 2 then -1 else 1), s') ∧
      DkS s' d st mc o V a (if placeA o V P a n = -1 then P else if freeP (layP P (placeA o V P a n) 3 (celB (-1) R 0) n) (a / 16) < 2 then layP P (placeA o V P a n) 3 (celB (-1) R 0) n else layP (layP P (placeA o V P a n) 3 (celB (-1) R 0) n) a 2 (lnkB (placeA o V P a n)) 2) Bf B' len' ∧ Fr (inD d mc) s s' := by
  obtain ⟨rk, hL⟩ := hL
  obtain ⟨t, s1, w1, w2, w3, w4⟩ := s_srch h hI.1.1 (by omega)
  obtain ⟨-, -, -, -, -, -, L, nn', fo, hS, -⟩ := h.1
  have hcan := fun ha => one_can (o := o) (V := V) (kept := a) (kind := 3) hI hK hL hRb hn (Or.inr rfl) ha
  obtain ⟨s2, u1, u2, u3⟩ := s_layOn (kind := 3) w3 hI hK hn (fun ha => canL_ext (hcan ha).1 hB)
  unfold f_Desk_layMoved
  rw [if_pos h.1.1.1, h.1.1.2.1.2.2.2.2.1, if_pos h.2.2.2.2.1.1.1, h.1.1.2.1.1, if_pos hS.1, w1, Option.bind_some, h.2.2.2.2.1.2.1, w2, Option.bind_some, if_pos w3.1.1.1, nv3, u1, Option.bind_some, if_pos u2.1.1.1, u2.1.1.2.1.2.2.2.2.1, if_pos u2.2.2.2.2.1.1.1]
  by_cases e : placeA o V P a n = -1
  · obtain ⟨s3, B3, x1, x2, x3, x4⟩ := s_linkD (to_ := placeA o V P a n) u2 (by rw [e]; omega)
    rw [x1, Option.bind_some, nv1, v_neg, if_pos (peq e), if_pos e, if_pos e]
    rw [if_pos e] at x2
    exact ⟨s3, B3, 2, rfl, x2, (w4.tr u3).tr x4⟩
  · obtain ⟨p1, p2, p3, p4, p5, -⟩ := placeA_r hI hK hn.1 e
    obtain ⟨s3, B3, x1, x2, x3, x4⟩ := s_linkD (to_ := placeA o V P a n) u2 (by omega)
    obtain ⟨q1, q2, q3, q4, rk', q5, q6, q7⟩ := hcan e
    rw [if_neg e, layP_ext (C := celB (-1) R 0) hB] at x2
    have hst := fun hf => stub_can q3 q5 q4 ha ⟨p1, by rw [layP_0 hI q1 q2, if_pos rfl], q6, q7⟩ hf
    obtain ⟨s4, y1, y2, y3⟩ := s_layKept (kind := 2) x2 q3 ha.1 (by decide) (fun hf => ⟨canL_ext (hst hf).1 (x3 (by omega)), (hst hf).2.1⟩)
    rw [x1, Option.bind_some, nv1, v_neg, if_neg (pne (by omega)), if_neg e, if_neg e, if_pos x2.1.1.1, nv2, y1, Option.bind_some]
    by_cases e2 : freeP (layP P (placeA o V P a n) 3 (celB (-1) R 0) n) (a / 16) < 2
    · rw [if_neg (by omega)] at y2
      rw [bi_f (by omega), if_pos (show v 0 = nI 0 by rfl), if_pos e2, if_pos e2]
      exact ⟨s4, _, _, rfl, y2, ((w4.tr u3).tr x4).tr y3⟩
    · rw [if_pos (by omega), layP_ext (C := lnkB (placeA o V P a n)) (x3 (by omega))] at y2
      rw [bi_t (by omega), if_neg (show ¬ v 1 = nI 0 by decide), if_neg e2, if_neg e2]
      exact ⟨s4, _, _, rfl, y2, ((w4.tr u3).tr x4).tr y3⟩
theorem s_writeAnew {c m : Nat} {R : Int → Int} {n a : Int} (h : DkT s d st mc o V P Bf) (hG : PgG P) (hr : recP P a) (hR : RwR s c m R n) (hc : ¬ inD d mc c ∧ ¬ inD d mc (c + 1)) (hm : 0 ≤ n ∧ n ≤ m ∧ m ≤ 400) (h2 : n ≤ 200) (hRb : RecB R n) :
    ∃ s', f_Desk_writeAnew s d (v a) c = some (v (anewP o V R n a P).1, s') ∧ DkT s' d st mc o V (anewP o V R n a P).2 P ∧ Fr (inD d mc) s s' := by
  obtain ⟨B, len, h⟩ := h
  have ha := hr.1
  obtain ⟨-, ⟨tI, rk, tL⟩, tK⟩ := takeP_I hG hr
  obtain ⟨s1, q1, q2, q3⟩ := s_keepB h
  have q2k := q2.kp (k := a) (by omega)
  have fk : Fr (inD d mc) s1 (setI s1 d 6 (v a)) := Fr.si (by unfold inD; omega)
  obtain ⟨s2, r1, r2, r3⟩ := s_takeOut (a := a) q2k hG.1 (by omega)
  have hR2 := ((hR.fr q3 hc.1 hc.2).fr fk hc.1 hc.2).fr r3 hc.1 hc.2
  unfold f_Desk_writeAnew
  rw [if_pos h.1.1.1, h.1.1.2.1.2.2.2.1, if_pos h.2.2.2.1.1.1, h.1.1.2.1.2.2.1, q1, Option.bind_some, if_pos q2.1.1.1, r1, Option.bind_some, if_pos hR2.1.1, hR2.2.1, show nI 40 = v 40 from rfl, if_pos r2.1.1.1]
  unfold anewP
  by_cases c40 : n ≤ 40
  · rw [if_neg (nlt (by omega)), if_pos c40, r2.1.1.2.1.2.2.2.2.1, if_pos r2.2.2.2.2.1.1.1, nv0, nv1, v_neg]
    have hlen : asmN (-1) (max 0 (min n n - 0)) = n := by
      unfold asmN
      rw [if_pos rfl]
      omega
    obtain ⟨s3, B3, w1, w2, w3, w4⟩ := s_asmD (next := -1) (from_ := 0) (to_ := n) r2 hR2 hc hm (by omega) (by omega) (by omega) (by rw [hlen]; exact c40)
    rw [hlen] at w2 w3
    have hown := fun hf => own_can tI tL tK ha hRb ⟨hm.1, c40⟩ hf
    obtain ⟨s4, u1, u2, u3⟩ := s_layKept (kind := 1) w2 tI ha.1 ⟨hm.1, c40⟩ (fun hf => ⟨canL_ext (hown hf).1 w3, (hown hf).2.1⟩)
    rw [w1, Option.bind_some, if_pos w2.1.1.1, u1, Option.bind_some]
    by_cases e : n ≤ freeP (takeP P a a) (a / 16)
    · rw [if_pos e, layP_ext (C := celB (-1) R 0) w3] at u2
      obtain ⟨s5, x1, x2, x3⟩ := s_anew104 (how := 0) u2 (by omega)
      rw [if_neg (by decide)] at x2
      rw [bi_t e, if_neg (show ¬ v 1 = v 0 by decide), if_pos e]
      exact ⟨s5, by rw [if_pos r2.1.1.1]; exact x1, ⟨_, _, x2⟩, ((((q3.tr fk).tr r3).tr w4).tr u3).tr x3⟩
    · rw [if_neg e] at u2
      obtain ⟨s5, B5, l5, y1, y2, y3⟩ := s_layMoved u2 tI tK ⟨rk, tL⟩ ha w3 hRb ⟨hm.1, c40⟩
      rw [bi_f e, if_pos (show v 0 = v 0 by rfl), if_neg e, if_pos u2.1.1.1, y1, Option.bind_some]
      by_cases e1 : placeA o V (takeP P a a) a n = -1
      · rw [if_pos e1] at y2 ⊢
        obtain ⟨s6, x1, x2, x3⟩ := s_anew104 (how := -1) y2 (by omega)
        rw [if_pos rfl] at x2
        rw [if_pos e1]
        exact ⟨s6, by rw [if_pos r2.1.1.1]; exact x1, ⟨_, _, x2⟩, (((((q3.tr fk).tr r3).tr w4).tr u3).tr y3).tr x3⟩
      · rw [if_neg e1] at y2 ⊢
        rw [if_neg e1]
        by_cases e2 : freeP (layP (takeP P a a) (placeA o V (takeP P a a) a n) 3 (celB (-1) R 0) n) (a / 16) < 2
        · rw [if_pos e2] at y2 ⊢
          obtain ⟨s6, x1, x2, x3⟩ := s_anew104 (how := -1) y2 (by omega)
          rw [if_pos rfl] at x2
          rw [if_pos e2]
          exact ⟨s6, by rw [if_pos r2.1.1.1]; exact x1, ⟨_, _, x2⟩, (((((q3.tr fk).tr r3).tr w4).tr u3).tr y3).tr x3⟩
        · rw [if_neg e2] at y2 ⊢
          obtain ⟨s6, x1, x2, x3⟩ := s_anew104 (how := 1) y2 (by omega)
          rw [if_neg (by decide)] at x2
          rw [if_neg e2]
          exact ⟨s6, by rw [if_pos r2.1.1.1]; exact x1, ⟨_, _, x2⟩, (((((q3.tr fk).tr r3).tr w4).tr u3).tr y3).tr x3⟩
  · rw [if_pos (plt (by omega)), if_neg c40]
    obtain ⟨s3, B3, len3, w1, w2, w4, hJ⟩ := s_layPieces r2 hR2 hc hm ⟨by omega, h2⟩ hRb tI tK ⟨rk, tL⟩
    have hR3 := hR2.fr w4 hc.1 hc.2
    generalize hpc : piecesP o V a R n (takeP P a a) = pc at *
    obtain ⟨next, P2⟩ := pc
    simp only [] at w1 w2 hJ ⊢
    have hnr : -1 ≤ next ∧ next ≤ 255 := by
      obtain ⟨-, -, rk, -, hx⟩ := hJ
      omega
    have hlen : asmN next (max 0 (min 38 n - 0)) ≤ 40 ∧ (next ≠ -1 → asmN next (max 0 (min 38 n - 0)) = 40) := by
      unfold asmN
      refine ⟨?_, fun e => ?_⟩
      · split <;> omega
      · rw [if_neg e]; omega
    obtain ⟨s4, B4, x1, x2, x3, x4⟩ := s_asmD (next := next) (from_ := 0) (to_ := 38) w2 hR3 hc hm (by omega) (by omega) (by omega) hlen.1
    rw [w1, Option.bind_some]
    simp only []
    rw [if_pos w2.1.1.1, w2.1.1.2.1.2.2.2.2.1, if_pos w2.2.2.2.2.1.1.1, nv0, nv38, x1, Option.bind_some, nv1, v_neg]
    by_cases e : next = -1
    · rw [if_pos (peq e), if_pos e]
      obtain ⟨s5, y1, y2, y3⟩ := s_anew104 (how := -1) x2 (by omega)
      rw [if_pos rfl] at y2
      refine ⟨s5, ?_, ⟨_, _, y2⟩, ((((q3.tr fk).tr r3).tr w4).tr x4).tr y3⟩
      show b_Desk_writeAnew_104 d (-(nI 1)) s4 = _
      rw [nv1, v_neg]
      exact y1
    · rw [if_neg (pne (by omega)), if_neg e, if_pos x2.1.1.1]
      rw [hlen.2 e] at x2 x3
      have hcan : 40 ≤ freeP P2 (a / 16) → canL P2 a 4 (celB next R 0) 40 ∧ needL P2 a 40 ≤ freeP P2 (a / 16) := fun hf => by
        rcases hJ.2.1 with hk | ⟨k1, k2, k3⟩
        · omega
        · have hl := (hJ.1.1.1.2 (a / 16)).2.2.2.1
          have hnd : needL P2 a 40 ≤ freeP P2 (a / 16) := by rw [own_need k2]; exact hf
          exact ⟨(head_can hJ hRb (by omega) e ⟨k1, ⟨by omega, by omega⟩, k3⟩ hnd).1, hnd⟩
      obtain ⟨s5, y1, y2, y3⟩ := s_layKept (kind := 4) x2 hJ.1 ha.1 (by decide) (fun hf => ⟨canL_ext (hcan hf).1 x3, (hcan hf).2⟩)
      rw [nv4, y1, Option.bind_some]
      by_cases e2 : freeP P2 (a / 16) < 40
      · rw [if_neg (by omega)] at y2
        obtain ⟨s6, z1, z2, z3⟩ := s_anew104 (how := -1) y2 (by omega)
        rw [if_pos rfl] at z2
        rw [bi_f (by omega), if_pos (show v 0 = v 0 by rfl), if_pos e2]
        exact ⟨s6, z1, ⟨_, _, z2⟩, (((((q3.tr fk).tr r3).tr w4).tr x4).tr y3).tr z3⟩
      · rw [if_pos (by omega), layP_ext (C := celB next R 0) x3] at y2
        obtain ⟨s6, z1, z2, z3⟩ := s_anew104 (how := 2) y2 (by omega)
        rw [if_neg (by decide)] at z2
        rw [bi_t (by omega), if_neg (show ¬ v 1 = v 0 by decide), if_neg e2]
        exact ⟨s6, z1, ⟨_, _, z2⟩, (((((q3.tr fk).tr r3).tr w4).tr x4).tr y3).tr z3⟩
end DA
