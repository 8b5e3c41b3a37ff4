/-! ORDERS: what is mended has no sum -/
theorem cls_all {Q : CLS → Prop} {B : Int → Int} {n : Int} {ord : Bool} (hQ : ∀ (cl : Int) (st st' : STK) (x : CLS), clauseP B n ord cl st = .ok (x, st') → Q x) : ∀ (k : Nat) (CL CL' : List CLS) (st st' : STK), (∀ x ∈ CL, Q x) → clsL B n ord k CL st = .ok (CL', st') → ∀ x ∈ CL', Q x := by
  intro k
  induction k with
  | zero => intro CL CL' st st' h e; cases e; exact h
  | succ k ih =>
    intro CL CL' st st' h e
    unfold clsL at e
    by_cases c : wd B st 17 = 0
    · rw [if_pos c] at e
      cases hr : clauseP B n ord CL.length (nxS B n st) with
      | error d => rw [hr] at e; cases e
      | ok y =>
        obtain ⟨x, st1⟩ := y
        rw [hr] at e
        refine ih (CL ++ [x]) CL' st1 st' (fun y hy => ?_) e
        rcases List.mem_append.mp hy with d | d
        · exact h y d
        · have : y = x := by simpa using d
          rw [this]
          exact hQ _ _ _ _ hr
    · rw [if_neg c] at e
      cases e
      exact h
theorem text_all {Q : CLS → Prop} {B : Int → Int} {n : Int} {ord : Bool} {CL : List CLS} (hQ : ∀ (cl : Int) (st st' : STK) (x : CLS), clauseP B n ord cl st = .ok (x, st') → Q x) (h : textP B n ord = .ok CL) : ∀ x ∈ CL, Q x := by
  unfold textP at h
  generalize 400 = N at h
  cases hr : clauseP B n ord 0 (nxS B n (0, 0, 0)) with
  | error e => rw [hr] at h; cases h
  | ok y =>
    obtain ⟨x, st⟩ := y
    rw [hr] at h
    have h' : endP n (clsL B n ord N [x] st) = .ok CL := h
    cases hq : clsL B n ord N [x] st with
    | error e => rw [hq] at h'; cases h'
    | ok z =>
      obtain ⟨CL', st'⟩ := z
      rw [hq] at h'
      have h'' : (if st'.1 < n then (Except.error st'.1 : Except Int (List CLS)) else .ok CL') = .ok CL := h'
      by_cases c : st'.1 < n
      · rw [if_pos c] at h''; cases h''
      · rw [if_neg c] at h''
        cases h''
        exact cls_all hQ N [x] CL st st' (fun y hy => by have : y = x := (by simpa using hy); rw [this]; exact hQ _ _ _ _ hr) hq
theorem cl_mend {B : Int → Int} {n cl : Int} {st st' : STK} {x : CLS} (h : clauseP B n true cl st = .ok (x, st')) (h4 : x.1 = 4) : x.2.2.1 = semE := by
  unfold clauseP at h
  by_cases c : 12 ≤ cl ∨ wd B st (hdK true) = -1
  · rw [if_pos c] at h; cases h
  · rw [if_neg c] at h
    unfold clsS at h
    generalize wd B st (hdK true) = W at *
    cases hr : sumsP B n true W (nxS B n st) with
    | error e => rw [hr] at h; cases h
    | ok y =>
      obtain ⟨⟨f, g⟩, st1⟩ := y
      rw [hr] at h
      have h' : clsT B n true W f g st1 = .ok (x, st') := h
      unfold clsT at h'
      cases ht : timesP B n true st1 with
      | error e => rw [ht] at h'; cases h'
      | ok z =>
        obtain ⟨tm, st2⟩ := z
        rw [ht] at h'
        have h'' : (match ifP B n true st2 with
          | .error e => (Except.error e : Except Int (CLS × STK))
          | .ok (k, st3) => .ok ((W, tm, f, g, k), st3)) = .ok (x, st') := h'
        cases hi : ifP B n true st2 with
        | error e => rw [hi] at h''; cases h''
        | ok u =>
          obtain ⟨k, st3⟩ := u
          rw [hi] at h''
          cases h''
          have hW : W = 4 := h4
          subst hW
          show f = semE
          unfold sumsP at hr
          rw [if_neg (show ¬ ownS true 4 by decide)] at hr
          unfold sums2P at hr
          rw [if_pos (Or.inr (by decide))] at hr
          cases hr
          rfl
theorem actO_b {se : ST1} {k a b b' : Int} {S : OST} (hk : 2 ≤ k) : actO se k a b S = actO se k a b' S := by
  unfold actO
  rw [if_neg (show ¬ k = 0 by omega), if_neg (show ¬ k = 1 by omega), if_neg (show ¬ k = 0 by omega), if_neg (show ¬ k = 1 by omega)]
theorem actO_a {se : ST1} {a a' b b' : Int} {S : OST} : actO se 4 a b S = actO se 4 a' b' S := by
  unfold actO
  rw [if_neg (show ¬ (4 : Int) = 0 by decide), if_neg (show ¬ (4 : Int) = 1 by decide), if_neg (show ¬ (4 : Int) = 2 by decide), if_neg (show ¬ (4 : Int) = 3 by decide), if_neg (show ¬ (4 : Int) = 0 by decide), if_neg (show ¬ (4 : Int) = 1 by decide), if_neg (show ¬ (4 : Int) = 2 by decide), if_neg (show ¬ (4 : Int) = 3 by decide)]
/-! ORDERS, on the reference: one is run -/
def ActM (r : Option OST) (k : Int) (S : OST) (o : Option (Int32 × AS)) (s0 : AS) (tp : (Int → Int) × Int) (se : ST1) (LG : LGS) (IM : Nat → IMG) (ms : Int → Int) (vw : (Int → Int) × Int) (dr : DRW) (A0 : MA) : Prop := match r with
  | none => ∃ s' A' P' L' y, o = some (v y, s') ∧ (r32 y ∧ y < 0) ∧ MR s' 78 A' ∧ RepA A' tp se P' L' IM ms vw dr ∧ AF scrA A0 A' ∧ Fr (inM 78) s0 s'
  | some S' => ∃ s' A' y, o = some (v y, s') ∧ (0 ≤ y ∧ y < 2147483648) ∧ (S'.2.2.2 = (if k = 0 then y else S.2.2.2) ∧ S'.2.2.1 = S.2.2.1 + 1) ∧ MR s' 78 A' ∧ RepA A' tp se S'.1 (las (LG ++ S'.2.1)) IM ms vw dr ∧ AF scrA A0 A' ∧ Fr (inM 78) s0 s'
section OMA
variable {s s0 : AS} {tp : (Int → Int) × Int} {se : ST1} {P P0 : PG} {LG : LGS} {IM : Nat → IMG} {ms : Int → Int} {vw : (Int → Int) × Int} {dr : DRW} {A A0 : MA} {a b d k : Int} {S : OST}
theorem las_nx (LG : LGS) (S : OST) (k lt : Int) (P : PG) : pushL (las (LG ++ S.2.1)) (k, S.1) = las (LG ++ (nxO S k lt P).2.1) := by
  rw [las_push (las_len _), las_app]
  show las (LG ++ S.2.1 ++ [(k, S.1)]) = las (LG ++ (S.2.1 ++ [(k, S.1)]))
  rw [List.append_assoc]
theorem m_act0 (h : MR s 78 A) (hR : RepA A tp se S.1 (las (LG ++ S.2.1)) IM ms vw dr) (hw : WfT se) (hS : WfO d S) (ha : stB a) (hb : stB b) : ActM (actO se 0 a b S) 0 S (f_M_act s 78 (v 0) (v a) (v b)) s tp se LG IM ms vw dr A := by
  have bad : ¬ ((0 ≤ a ∧ a ≤ 200) ∧ 0 ≤ b ∧ b ≤ 255) → f_M_putAlike s 78 (v a) (v b) = some (v (-3), s) → ActM (actO se 0 a b S) 0 S (some (v (-3), s)) s tp se LG IM ms vw dr A := fun c _ => by
    unfold actO
    rw [if_pos rfl, if_neg c]
    exact ⟨s, A, _, _, -3, rfl, by decide, h, hR, AF.rf _ _, Fr.rf _ _⟩
  unfold f_M_act
  rw [nv0, if_pos rfl, if_pos h.t]
  have e1 : f_M_putAlike s 78 (v a) (v b) = (if v (bi (0 ≤ a ∧ a ≤ 200)) = v 0 then some (v (-3), s) else if v (bi (0 ≤ b ∧ b ≤ 255)) = v 0 then some (v (-3), s) else (f_M_bringAlike s 78 (v a) (v b)).bind fun r3 => if sT r3 78 = 13 then (f_M_putNow r3 78).bind fun r4 => some (r4.1, r4.2) else none) := by
    unfold f_M_putAlike
    rw [nv0, nv3, v_neg, lw0, lw200, show lN 255 = w 255 from rfl, v_w (by omega), v_w (by omega), m_in (by omega) (by omega) (by omega), Option.bind_some, m_in (by omega) (by omega) (by omega), Option.bind_some, if_pos h.t]
  by_cases c1 : 0 ≤ a ∧ a ≤ 200
  · by_cases c2 : 0 ≤ b ∧ b ≤ 255
    · have c : (0 ≤ a ∧ a ≤ 200) ∧ 0 ≤ b ∧ b ≤ 255 := ⟨c1, c2⟩
      have hRb : RecB (fun _ => b) a := byte_all ⟨c2.1, by omega⟩
      have hr := bring_r (o := lwF se) (V := se.1) (P := S.1) hS.1.1 hRb c1
      obtain ⟨s1, A1, b1, b2, b3, b4, b5⟩ := m_alike (a := a) (x := b) h c1
      have h1 := hR.v_s (b3.mo (fun j z hj => by omega))
      obtain ⟨s2, A2, q1, q2, q3, q4, q5, q6⟩ := m_putNow b2 (h1.mk' hw) h1.2.2.2.2.2.1 b4 c1 hRb hS.1.1
      have aX : AF scrA A A2 := (b3.mo (fun j z hj => Or.inr hj)).tr (q5.mo (fun j z hj => Or.inl hj))
      have h2 := h1.now q3 q4 q5
      rw [e1, bi_t c1, if_neg (show ¬ v 1 = v 0 by decide), bi_t c2, if_neg (show ¬ v 1 = v 0 by decide), b1, Option.bind_some, if_pos b2.t, q1, Option.bind_some, Option.bind_some]
      unfold actO
      rw [if_pos rfl, if_pos c]
      by_cases e : (bringP (lwF se) se.1 (fun _ => b) a S.1).1 = -1
      · rw [if_pos e, if_pos e]
        rw [if_pos e] at h2
        exact ⟨s2, A2, _, _, -5, rfl, by decide, q2, h2, aX, b5.tr q6⟩
      · rw [if_neg e, if_neg e]
        rw [if_neg e, las_nx LG S 0 (bringP (lwF se) se.1 (fun _ => b) a S.1).1 (bringP (lwF se) se.1 (fun _ => b) a S.1).2] at h2
        exact ⟨s2, A2, _, rfl, by omega, ⟨(if_pos rfl).symm, rfl⟩, q2, h2, aX, b5.tr q6⟩
    · have e2 : f_M_putAlike s 78 (v a) (v b) = some (v (-3), s) := by
        rw [e1, bi_t c1, if_neg (show ¬ v 1 = v 0 by decide), bi_f c2, if_pos rfl]
      rw [e2, Option.bind_some]
      exact bad (fun e => c2 e.2) e2
  · have e2 : f_M_putAlike s 78 (v a) (v b) = some (v (-3), s) := by
      rw [e1, bi_f c1, if_pos rfl]
    rw [e2, Option.bind_some]
    exact bad (fun e => c1 e.1) e2
theorem m_act1 (h : MR s 78 A) (hR : RepA A tp se S.1 (las (LG ++ S.2.1)) IM ms vw dr) (hw : WfT se) (hS : WfO d S) (ha : stB a) (hb : stB b) : ActM (actO se 1 a b S) 1 S (f_M_act s 78 (v 1) (v a) (v b)) s tp se LG IM ms vw dr A := by
  have hI := hS.1.1.1.1
  have bad : ¬ (recP S.1 a ∧ 0 ≤ b ∧ b ≤ 200) → ActM (actO se 1 a b S) 1 S (some (v (-3), s)) s tp se LG IM ms vw dr A := fun c => by
    unfold actO
    rw [if_neg (show ¬ (1 : Int) = 0 by decide), if_pos rfl, if_neg c]
    exact ⟨s, A, _, _, -3, rfl, by decide, h, hR, AF.rf _ _, Fr.rf _ _⟩
  unfold f_M_act
  rw [nv0, nv1, if_neg (show ¬ v 1 = v 0 by decide), if_pos rfl, if_pos h.t]
  have e1 : f_M_growTo s 78 (v a) (v b) = (if v (bi (recP S.1 a)) = v 0 then some (v (-3), s) else if v (bi (0 ≤ b ∧ b ≤ 200)) = v 0 then some (v (-3), s) else (f_M_bringAlike s 78 (v b) (v 7)).bind fun r3 => if sT r3 78 = 13 then (f_M_rewriteNow r3 78 (v a)).bind fun r4 => some (r4.1, r4.2) else none) := by
    unfold f_M_growTo
    rw [if_pos h.t, m_isRecord h hR.pg hI (by omega), Option.bind_some, nv0, nv3, nv7, v_neg, lw0, lw200, v_w (by omega), m_in (by omega) (by omega) (by omega), Option.bind_some]
  by_cases c1 : recP S.1 a
  · by_cases c2 : 0 ≤ b ∧ b ≤ 200
    · have hRb : RecB (fun _ => (7 : Int)) b := byte_all (by decide)
      have hr := anew_r (lwF se) se.1 (fun _ => 7) b a S.1
      obtain ⟨s1, A1, b1, b2, b3, b4, b5⟩ := m_alike (a := b) (x := 7) h c2
      have h1 := hR.v_s (b3.mo (fun j z hj => by omega))
      obtain ⟨s2, A2, q1, q2, q3, q4, q5, q6⟩ := m_rewriteNow b2 (h1.mk' hw) h1.2.2.2.2.2.1 b4 c2 hRb hS.1.1 c1
      have aX : AF scrA A A2 := (b3.mo (fun j z hj => Or.inr hj)).tr (q5.mo (fun j z hj => Or.inl hj))
      have h2 := h1.now q3 q4 q5
      rw [e1, bi_t c1, if_neg (show ¬ v 1 = v 0 by decide), bi_t c2, if_neg (show ¬ v 1 = v 0 by decide), b1, Option.bind_some, if_pos b2.t, q1, Option.bind_some, Option.bind_some]
      unfold actO
      rw [if_neg (show ¬ (1 : Int) = 0 by decide), if_pos rfl, if_pos ⟨c1, c2⟩]
      by_cases e : (anewP (lwF se) se.1 (fun _ => 7) b a S.1).1 = -1
      · rw [if_pos e, if_pos e]
        rw [if_pos e] at h2
        exact ⟨s2, A2, _, _, -5, rfl, by decide, q2, h2, aX, b5.tr q6⟩
      · rw [if_neg e, if_neg e]
        rw [if_neg e, las_nx LG S 1 S.2.2.2 (anewP (lwF se) se.1 (fun _ => 7) b a S.1).2] at h2
        exact ⟨s2, A2, _, rfl, by omega, ⟨(if_neg (by decide)).symm, rfl⟩, q2, h2, aX, b5.tr q6⟩
    · rw [e1, bi_t c1, if_neg (show ¬ v 1 = v 0 by decide), bi_f c2, if_pos rfl, Option.bind_some]
      exact bad (fun e => c2 e.2)
  · rw [e1, bi_f c1, if_pos rfl, Option.bind_some]
    exact bad (fun e => c1 e.1)
theorem m_act2 (h : MR s 78 A) (hR : RepA A tp se S.1 (las (LG ++ S.2.1)) IM ms vw dr) (hw : WfT se) (hS : WfO d S) (ha : stB a) : ActM (actO se 2 a b S) 2 S (f_M_act s 78 (v 2) (v a) (v b)) s tp se LG IM ms vw dr A := by
  obtain ⟨s2, A2, q1, q2, q3, q4, q5, q6⟩ := m_dropNow h (hR.mk' hw) hR.2.2.2.2.2.1 hS.1 (a := a) (by omega)
  have aX : AF scrA A A2 := q5.mo (fun j z hj => Or.inl hj)
  have h2 := hR.now q3 q4 q5
  unfold f_M_act actO
  rw [nv0, nv1, nv2, if_neg (show ¬ v 2 = v 0 by decide), if_neg (show ¬ v 2 = v 1 by decide), if_pos rfl, if_pos h.t, q1, Option.bind_some, if_neg (show ¬ (2 : Int) = 0 by decide), if_neg (show ¬ (2 : Int) = 1 by decide), if_pos rfl]
  by_cases c : recP S.1 a
  · obtain ⟨⟨hI, rk, hL⟩, wt, hwt⟩ := hS.1
    have hs := size_rec hI.1.1 hL hwt c
    rw [if_pos c, if_pos c]
    rw [if_pos c, if_pos c, las_nx LG S 2 S.2.2.2 (takeP S.1 a (-1))] at h2
    exact ⟨s2, A2, _, rfl, by omega, ⟨(if_neg (by decide)).symm, rfl⟩, q2, h2, aX, q6⟩
  · rw [if_neg c, if_neg c]
    exact ⟨s2, A2, _, _, -2, rfl, by decide, q2, h2, aX, q6⟩
theorem m_act3 (h : MR s 78 A) (hR : RepA A tp se S.1 (las (LG ++ S.2.1)) IM ms vw dr) (hw : WfT se) (hS : WfO d S) (ha : stB a) : ActM (actO se 3 a b S) 3 S (f_M_act s 78 (v 3) (v a) (v b)) s tp se LG IM ms vw dr A := by
  obtain ⟨s2, A2, q1, q2, q3, q4, q5, q6⟩ := m_packNow h (hR.mk' hw) hR.2.2.2.2.2.1 hS.1.1.1 (p := a) (by omega)
  have aX : AF scrA A A2 := q5.mo (fun j z hj => Or.inl hj)
  have h2 := hR.now q3 q4 q5
  unfold f_M_act actO
  rw [nv0, nv1, nv2, nv3, if_neg (show ¬ v 3 = v 0 by decide), if_neg (show ¬ v 3 = v 1 by decide), if_neg (show ¬ v 3 = v 2 by decide), if_pos rfl, if_pos h.t, q1, Option.bind_some, if_neg (show ¬ (3 : Int) = 0 by decide), if_neg (show ¬ (3 : Int) = 1 by decide), if_neg (show ¬ (3 : Int) = 2 by decide), if_pos rfl]
  by_cases c : 0 ≤ a ∧ a < 8
  · have n1 := waste_nn hS.1.1.1 c
    have n2 := wasteP_r hS.1.1.1.1.1 a
    rw [if_pos c, if_pos c]
    rw [if_pos c, if_pos c, las_nx LG S 3 S.2.2.2 (packP S.1 a)] at h2
    exact ⟨s2, A2, _, rfl, by omega, ⟨(if_neg (by decide)).symm, rfl⟩, q2, h2, aX, q6⟩
  · rw [if_neg c, if_neg c]
    exact ⟨s2, A2, _, _, -1, rfl, by decide, q2, h2, aX, q6⟩
theorem m_act4 (h : MR s 78 A) (hR : RepA A tp se S.1 (las (LG ++ S.2.1)) IM ms vw dr) (hw : WfT se) (hS : WfO d S) : ActM (actO se 4 a b S) 4 S (f_M_act s 78 (v 4) (v a) (v b)) s tp se LG IM ms vw dr A := by
  obtain ⟨s2, A2, q1, q2, q3, q4, q5, q6⟩ := m_mendNow h (hR.mk' hw) hR.2.2.2.2.2.1 hS.1.1
  have aX : AF scrA A A2 := q5.mo (fun j z hj => Or.inl hj)
  have h2 := hR.now q3 q4 q5
  have hr := mendL_r S.1 8 0 0 S.1
  have hr' : 0 ≤ (mendP S.1).1 ∧ (mendP S.1).1 ≤ 8 := ⟨hr.1, by show (mendL S.1 8 0 0 S.1).1 ≤ 8; omega⟩
  unfold f_M_act actO
  rw [nv0, nv1, nv2, nv3, if_neg (show ¬ v 4 = v 0 by decide), if_neg (show ¬ v 4 = v 1 by decide), if_neg (show ¬ v 4 = v 2 by decide), if_neg (show ¬ v 4 = v 3 by decide), if_pos h.t, q1, Option.bind_some, if_neg (show ¬ (4 : Int) = 0 by decide), if_neg (show ¬ (4 : Int) = 1 by decide), if_neg (show ¬ (4 : Int) = 2 by decide), if_neg (show ¬ (4 : Int) = 3 by decide)]
  rw [las_nx LG S 4 S.2.2.2 (mendP S.1).2] at h2
  exact ⟨s2, A2, _, rfl, by omega, ⟨(if_neg (by decide)).symm, rfl⟩, q2, h2, aX, q6⟩
theorem m_act (h : MR s 78 A) (hR : RepA A tp se S.1 (las (LG ++ S.2.1)) IM ms vw dr) (hw : WfT se) (hS : WfO d S) (ha : stB a) (hb : stB b) (hk : 0 ≤ k ∧ k ≤ 4) : ActM (actO se k a b S) k S (f_M_act s 78 (v k) (v a) (v b)) s tp se LG IM ms vw dr A := by
  rcases (show k = 0 ∨ k = 1 ∨ k = 2 ∨ k = 3 ∨ k = 4 by omega) with e | e | e | e | e <;> subst e
  · exact m_act0 h hR hw hS ha hb
  · exact m_act1 h hR hw hS ha hb
  · exact m_act2 h hR hw hS ha
  · exact m_act3 h hR hw hS ha
  · exact m_act4 h hR hw hS
end OMA
