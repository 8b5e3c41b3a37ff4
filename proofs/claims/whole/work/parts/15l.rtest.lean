/-! THE REFERENCE'S READER: tests -/
section RTE
variable {m : Nat} {B : Int → Int} {n : Int} {ord : Bool} {st : STK} {s : AS} {A : MA} {len rm : Int} {L : PIL}
theorem m_isAnd (h : RfG s m A B n ord st len L rm) : f_M_isWord s m (lN 1476) = some (v (bi (wd B st 16 = 0))) := m_wdK h.1 h.2.1.1 h.2.1.2.1 h.2.1.2.2 (k := 16) (i := 0) (c := 1476) (x := [97, 110, 100]) (by decide) rfl (by decide)
theorem m_isOr (h : RfG s m A B n ord st len L rm) : f_M_isWord s m (lN 498) = some (v (bi (wd B st 16 = 1))) := m_wdK h.1 h.2.1.1 h.2.1.2.1 h.2.1.2.2 (k := 16) (i := 1) (c := 498) (x := [111, 114]) (by decide) rfl (by decide)
theorem wd_two (h : wd B st 16 ≠ -1) : st.1 + 2 ≤ st.2.1 := by
  have hw := wd_r B st 16
  have l16 : ((wrdZ 16).length : Int) = 2 := rfl
  by_cases c : wd B st 16 = 0
  · have := (wd_at (B := B) (st := st) (k := 16) (i := 0) (w := [97, 110, 100]) (by decide) rfl).mp c
    unfold isWd at this
    simp only [Bool.and_eq_true] at this
    have h2 : st.1 + 3 = st.2.1 := wdB_le _ _ this.2
    omega
  · have c1 : wd B st 16 = 1 := by omega
    have := (wd_at (B := B) (st := st) (k := 16) (i := 1) (w := [111, 114]) (by decide) rfl).mp c1
    unfold isWd at this
    simp only [Bool.and_eq_true] at this
    have h2 : st.1 + 2 = st.2.1 := wdB_le _ _ this.2
    omega
/-- "and", "or" come -/
theorem m_btJump {X Y : PIL} (h : RfS s m A B n ord st len (X ++ Y)) (c : wd B st 16 ≠ -1) (hX : ∀ x ∈ X, (2 - wd B st 16) ≤ bndO x.1) (hY : ∀ y, Y.head? = some y → bndO y.1 < 2 - wd B st 16) :
    ∃ s' A', f_M_behindTest s m = some (v 0, s') ∧ RfS s' m A' B n ord (nxS B n st) ((stl X (A 11, A 12, len)).2.2 + 1) ((29 + wd B st 16, (stl X (A 11, A 12, len)).2.2) :: Y) ∧ A' 11 = bu (stl X (A 11, A 12, len)).1 (stl X (A 11, A 12, len)).2.2 (29 + wd B st 16) ∧ A' 12 = bu (stl X (A 11, A 12, len)).2.1 (stl X (A 11, A 12, len)).2.2 0 ∧ AF scrR A A' ∧ Fr (inM m) s s' := by
  have hst : 0 ≤ st.1 ∧ st.1 ≤ st.2.1 ∧ st.2.1 ≤ n := h.2.1.2.2.1.1
  have hn := h.2.1.1.2.1
  have hw := wd_r B st 16
  have l16 : ((wrdZ 16).length : Int) = 2 := rfl
  have h2 := wd_two c
  have hT := nxS_T (B := B) (n := n) h.2.1.2.2.1
  have ge : st.2.1 ≤ (nxS B n st).1 := hT.2.1
  obtain ⟨s1, A1, q1, q2, q3, q4, q5, q6⟩ := m_settleG (least := 2 - wd B st 16) h (by omega) (by omega) hX hY
  obtain ⟨s2, s3, A3, p1, p2, p3, p4, p5, p6, p7, p8⟩ := m_jumpG (op := 29 + wd B st 16) q2 (by omega) (by omega)
  obtain ⟨s4, A4, g1, g2, g3, g4⟩ := m_next p4
  refine ⟨s4, A4, ?_, g2.mo (by omega), by rw [g3.row (j := 11) (fun z => by omega), p5, q3], by rw [g3.row (j := 12) (fun z => by omega), p6, q4], (q5.tr p7).tr (tok_R g3), (q6.tr p8).tr g4⟩
  have e22 : sI s1 m 22 = v (stl X (A 11, A 12, len)).2.2 := by rw [q2.1.i22, q2.2.2.2.1.1]
  unfold f_M_behindTest
  rw [if_pos h.1.t, m_isAnd h, Option.bind_some, nv0]
  by_cases c0 : wd B st 16 = 0
  · rw [c0] at q1 p1 p3
    rw [bi_t c0, if_neg (show ¬ v 1 = v 0 by decide)]
    unfold b_M_behindTest_22 b_M_behindTest_32 b_M_behindTest_47 b_M_behindTest_66
    rw [nv0, nv1, nv2, nv29, nv30, if_neg (show ¬ v 1 = v 0 by decide), if_neg (show ¬ v 1 = v 0 by decide), if_pos h.1.t, show v 2 = v (2 - 0) from rfl, q1, Option.bind_some, if_pos q2.1.t, if_pos q2.1.t, e22, show v 29 = v (29 + 0) from rfl, p1, Option.bind_some, if_pos p2, p3, Option.bind_some, if_pos p4.1.t, g1, Option.bind_some]
  · have c1 : wd B st 16 = 1 := by omega
    rw [c1] at q1 p1 p3
    rw [bi_f c0, if_pos rfl, m_isOr h, Option.bind_some, bi_t c1, if_neg (show ¬ v 1 = v 0 by decide)]
    unfold b_M_behindTest_22 b_M_behindTest_32 b_M_behindTest_47 b_M_behindTest_66
    rw [nv0, nv1, nv2, nv29, nv30, if_pos rfl, if_pos rfl, if_pos h.1.t, show v 1 = v (2 - 1) from rfl, q1, Option.bind_some, if_pos q2.1.t, if_pos q2.1.t, e22, show v 30 = v (29 + 1) from rfl, p1, Option.bind_some, if_pos p2, p3, Option.bind_some, if_pos p4.1.t, g1, Option.bind_some]
/-- the "or" that waits -/
def orL (q : Int) : PIL := if q = -1 then [] else [(30, q)]
def andL (a : Int) : PIL := if a = -1 then [] else [(29, a)]
theorem orL_1 {q : Int} (h : q ≠ -1) : orL q = [(30, q)] := if_neg h
theorem andL_1 {a : Int} (h : a ≠ -1) : andL a = [(29, a)] := if_neg h
theorem orL_m {q : Int} : ∀ x ∈ orL q, x = (30, q) ∧ q ≠ -1 := by
  intro x hx
  unfold orL at hx
  by_cases c : q = -1
  · rw [if_pos c] at hx; cases hx
  · rw [if_neg c] at hx; exact ⟨by simpa using hx, c⟩
theorem andL_m {a : Int} : ∀ x ∈ andL a, x = (29, a) ∧ a ≠ -1 := by
  intro x hx
  unfold andL at hx
  by_cases c : a = -1
  · rw [if_pos c] at hx; cases hx
  · rw [if_neg c] at hx; exact ⟨by simpa using hx, c⟩
theorem stl_or {q : Int} (O R : Int → Int) (l : Int) : stl (orL q) (O, R, l) = (O, if q = -1 then R else bu R q l, l) := by
  unfold orL
  by_cases c : q = -1
  · rw [if_pos c, if_pos c]; rfl
  · rw [if_neg c, if_neg c]; rfl
theorem stl_and {a : Int} (O R : Int → Int) (l : Int) : stl (andL a) (O, R, l) = (O, if a = -1 then R else bu R a l, l) := by
  unfold andL
  by_cases c : a = -1
  · rw [if_pos c, if_pos c]; rfl
  · rw [if_neg c, if_neg c]; rfl
theorem insM_and (ord : Bool) (x : Int) : insM ord 29 x = (11, x) := by
  unfold insM
  rw [if_neg (by decide), if_neg (by decide), if_neg (by decide), if_neg (by decide), if_pos rfl]
theorem insM_or (ord : Bool) (x : Int) : insM ord 30 x = (12, x) := by
  unfold insM
  rw [if_neg (by decide), if_neg (by decide), if_neg (by decide), if_neg (by decide), if_neg (by decide)]
theorem m_testLoop {b : Nat} {plain : STK → RSL} (hpl : PlainOK m B n ord b plain) {L : PIL} (hb : opnL L + b = 8) (hL : stopL L 1) (hi : innL L = 31 ∨ innL L = -1) {s0 : AS} {A0 : MA} {st0 : STK} {i0 : Int} (hi0 : 0 ≤ i0) :
    ∀ (k : Nat) (i a q : Int) (F G : SEM) (s : AS) (A : MA) (st : STK) (len : Int) (X : PIL) (kk : Nat), i + k = 400 → 0 ≤ i ∧ 2 * i ≤ st.1 → RfS s m A B n ord st len (X ++ (andL a ++ (orL q ++ L))) → (∀ x ∈ X, 3 ≤ bndO x.1 ∧ x.1 ≤ 28) → (a = -1 ∨ (i0 ≤ a ∧ a < len)) → (q = -1 ∨ (i0 ≤ q ∧ q < len)) → i0 < len →
    Ch (insF ord (stl (X ++ andL a) (A 11, A 12, len)).1 (stl (X ++ andL a) (A 11, A 12, len)).2.1) i0 (stl (X ++ andL a) (A 11, A 12, len)).2.2 q F G →
    Rch m 1 s0 0 s 2 kk → (kk : Int) ≤ 2 * (st.1 - st0.1) → st0.1 < st.1 → CodK A0 A i0 → AF scrR A0 A → Fr (inM m) s0 s →
    SpcW (testL B n plain k F G st) 1 m s0 A0 B n ord st0 i0 L := by
  intro k
  induction k with
  | zero =>
    intro i a q F G s A st len X kk hii hi2 h
    have hst : 0 ≤ st.1 ∧ st.1 ≤ st.2.1 ∧ st.2.1 ≤ n := h.2.1.2.2.1.1
    have hn := h.2.1.1.2.1
    omega
  | succ k ih =>
    intro i a q F G s A st len X kk hii hi2 h hX hA hQ h0l hch hr hkk hle hc ha hf
    have hst : 0 ≤ st.1 ∧ st.1 ≤ st.2.1 ∧ st.2.1 ≤ n := h.2.1.2.2.1.1
    have hn := h.2.1.1.2.1
    have hfl := h.2.2.2.2.2.2
    have hPl := h.2.2.2.2.2.1.2
    have hw := wd_r B st 16
    have l16 : ((wrdZ 16).length : Int) = 2 := rfl
    have hT := nxS_T (B := B) (n := n) h.2.1.2.2.1
    have ge : st.2.1 ≤ (nxS B n st).1 := hT.2.1
    have hsl := stl_len (X ++ andL a) (A 11) (A 12) len
    have hat : ∀ x ∈ X ++ andL a, (x.1 = 29 ∨ x.1 = 30) → i0 ≤ x.2 := fun x hx d => by
      rcases List.mem_append.mp hx with e | e
      · have := hX x e; omega
      · obtain ⟨e1, e2⟩ := andL_m x e
        rw [e1]; show i0 ≤ a; omega
    have hq30 : q ≠ -1 → (stl (X ++ andL a) (A 11, A 12, len)).1 q = 30 := fun d => by
      rw [stl_O _ _ _ _ _ (by omega)]
      have hm : (30, q) ∈ X ++ (andL a ++ (orL q ++ L)) := by
        refine List.mem_append_right _ (List.mem_append_right _ (List.mem_append_left _ ?_))
        unfold orL
        rw [if_neg d]
        exact List.mem_cons_self ..
      exact ((hPl _ hm).2 (Or.inr rfl)).2
    unfold testL
    by_cases c : wd B st 16 = -1
    · -- the test ends
      rw [if_pos c]
      refine ⟨s, A, len, X ++ (andL a ++ orL q), kk, hr, hkk, ?_, fun x hx => ?_, ?_, hc, ha, hf, hle, h0l, fun _ => c⟩
      · rw [List.append_assoc, List.append_assoc]; exact h
      · rcases List.mem_append.mp hx with e | e
        · have := hX x e; exact ⟨⟨by omega, by omega⟩, fun d => by omega⟩
        · rcases List.mem_append.mp e with e | e
          · obtain ⟨e1, e2⟩ := andL_m x e
            rw [e1]; exact ⟨⟨by show (1 : Int) ≤ bndO 29; decide, by show (29 : Int) ≤ 30; decide⟩, fun _ => by show i0 ≤ a; omega⟩
          · obtain ⟨e1, e2⟩ := orL_m x e
            rw [e1]; exact ⟨⟨by show (1 : Int) ≤ bndO 30; decide, by show (30 : Int) ≤ 30; decide⟩, fun _ => by show i0 ≤ q; omega⟩
      · unfold PdS
        rw [← List.append_assoc, stl_app]
        have e3 : stl (X ++ andL a) (A 11, A 12, len) = ((stl (X ++ andL a) (A 11, A 12, len)).1, (stl (X ++ andL a) (A 11, A 12, len)).2.1, (stl (X ++ andL a) (A 11, A 12, len)).2.2) := rfl
        rw [e3, stl_or]
        refine hch.fin (fun x x0 x1 xq => ?_) (fun d => ?_)
        · show insM ord _ ((if q = -1 then _ else bu _ q _) x) = insM ord _ _
          by_cases e : q = -1
          · rw [if_pos e]
          · rw [if_neg e, bu_ne xq]
        · show insM ord ((stl (X ++ andL a) (A 11, A 12, len)).1 q) ((if q = -1 then _ else bu _ q _) q) = _
          rw [if_neg d, hq30 d, bu_eq, insM_or]
    · rw [if_neg c]
      have h2 := wd_two c
      by_cases c0 : wd B st 16 = 0
      · -- "and"
        obtain ⟨s1, A1, q1, q2, q3, q4, q5, q6⟩ := m_btJump (X := X ++ andL a) (Y := orL q ++ L) (by rw [List.append_assoc]; exact h) c (fun x hx => by
          rw [c0]
          rcases List.mem_append.mp hx with e | e
          · have := hX x e; omega
          · rw [(andL_m x e).1]; show (2 : Int) - 0 ≤ bndO 29; decide) (fun y hy => by
          rw [c0]
          unfold orL at hy
          by_cases e : q = -1
          · rw [if_pos e] at hy; have := hL y hy; omega
          · rw [if_neg e] at hy
            have e2 : ((30 : Int), q) = y := (by simpa using hy)
            rw [← e2]; show bndO 30 < 2 - 0; decide)
        rw [c0, show (29 : Int) + 0 = 29 from rfl] at q2 q3
        have hsp := hpl s1 A1 (nxS B n st) _ _ q2 (by
          show (if (31 : Int) ≤ 29 then 1 else 0) + opnL (orL q ++ L) + (b : Int) = 8
          rw [if_neg (by decide), opnL_app _ _ (fun x hx => by rw [(orL_m x hx).1]; show (30 : Int) < 31; decide)]; omega) (fun y hy => by have e : ((29 : Int), _) = y := (by simpa using hy); rw [← e]; show (28 : Int) ≤ 29; decide) (by
          show (if (31 : Int) ≤ 29 then (29 : Int) else innL (orL q ++ L)) = 31 ∨ (if (31 : Int) ≤ 29 then (29 : Int) else innL (orL q ++ L)) = -1
          rw [if_neg (by decide), innL_app _ _ (fun x hx => by rw [(orL_m x hx).1]; show (30 : Int) < 31; decide)]; exact hi)
        have hk1 : CodK A A1 i0 := fun z w0 w1 => by
          rw [q3, q4, bu_ne (by omega), bu_ne (by omega), stl_O _ _ _ _ _ (by omega), stl_R _ _ _ _ _ (by omega) (fun x hx d => by have := hat x hx d; omega)]
          exact ⟨rfl, rfl⟩
        have hrr := hr.tr (rch_test h q1)
        cases hp : plain (nxS B n st) with
        | error e =>
          rw [hp] at hsp
          exact ErrR.pre hsp hrr (by omega) (ha.tr q5) (hf.tr q6)
        | ok x =>
          obtain ⟨g, st1⟩ := x
          rw [hp] at hsp
          obtain ⟨s2, A2, len2, X2, k2, z1, z2, z3, z4, z5, z6, z7, z8, z9, z10, z11⟩ := hsp
          show SpcW (if wd B st 16 = 0 then testL B n plain k F (andS G g) st1 else _) 1 m s0 A0 B n ord st0 i0 L
          rw [if_pos c0]
          have hst1 : 0 ≤ st1.1 ∧ st1.1 ≤ st1.2.1 ∧ st1.2.1 ≤ n := z3.2.1.2.2.1.1
          have hX2 : ∀ x ∈ X2, 3 ≤ bndO x.1 ∧ x.1 ≤ 28 := fun x hx => by
            have h3 := (z4 x hx).1
            refine ⟨h3.1, ?_⟩
            have h4 := h3.1
            unfold bndO at h4
            by_cases e : x.1 ≤ 28
            · exact e
            · exfalso
              by_cases e30 : x.1 = 30
              · rw [if_neg (by omega), if_pos e30] at h4; omega
              · rw [if_neg (by omega), if_neg e30, if_pos (by omega)] at h4; omega
          have haL : andL (stl (X ++ andL a) (A 11, A 12, len)).2.2 = [(29, (stl (X ++ andL a) (A 11, A 12, len)).2.2)] := andL_1 (by omega)
          have hsl2 := stl_len X2 (A2 11) (A2 12) len2
          have hz5 := z5.1
          refine ih (i + 1) (stl (X ++ andL a) (A 11, A 12, len)).2.2 q F (andS G g) s2 A2 st1 len2 X2 _ (by omega) (by omega) ?_ hX2 (Or.inr ⟨by omega, by omega⟩) (by omega) (by omega) ?_ (hrr.tr z1) (by omega) (by omega) ((hc.tr hk1).tr (z6.mo (by omega))) ((ha.tr q5).tr z7) ((hf.tr q6).tr z8)
          · rw [haL]; exact z3
          · rw [stl_app]
            have e3 : stl X2 (A2 11, A2 12, len2) = ((stl X2 (A2 11, A2 12, len2)).1, (stl X2 (A2 11, A2 12, len2)).2.1, (stl X2 (A2 11, A2 12, len2)).2.2) := rfl
            rw [e3, stl_and, if_neg (show ¬ (stl (X ++ andL a) (A 11, A 12, len)).2.2 = -1 by omega)]
            have hA2 : ∀ z, 0 ≤ z → z < (stl (X ++ andL a) (A 11, A 12, len)).2.2 + 1 → (stl X2 (A2 11, A2 12, len2)).1 z = A1 11 z ∧ (stl X2 (A2 11, A2 12, len2)).2.1 z = A1 12 z := fun z w0 w1 => by
              rw [stl_O X2 _ _ _ _ (by omega), stl_R X2 _ _ _ _ (by omega) (fun x hx d => by have := hX2 x hx; omega)]
              exact z6 z w0 w1
            refine Ch.and hi0 hch (z5.agr (fun z w0 w1 => ?_)) ?_ (fun x x0 x1 xq => ?_)
            · show insM ord _ (bu _ _ _ z) = insM ord _ _
              rw [bu_ne (by omega)]
            · show insM ord ((stl X2 (A2 11, A2 12, len2)).1 _) (bu _ _ _ _) = _
              rw [bu_eq, (hA2 _ (by omega) (by omega)).1, q3, bu_eq, insM_and]
            · show insM ord ((stl X2 (A2 11, A2 12, len2)).1 x) (bu _ _ _ x) = insM ord _ _
              rw [bu_ne (by omega), (hA2 x (by omega) (by omega)).1, (hA2 x (by omega) (by omega)).2, q3, q4, bu_ne (by omega), bu_ne (by omega)]
      · -- "or"
        have c1 : wd B st 16 = 1 := by omega
        obtain ⟨s1, A1, q1, q2, q3, q4, q5, q6⟩ := m_btJump (X := X ++ (andL a ++ orL q)) (Y := L) (by rw [List.append_assoc, List.append_assoc]; exact h) c (fun x hx => by
          rw [c1]
          rcases List.mem_append.mp hx with e | e
          · have := hX x e; omega
          · rcases List.mem_append.mp e with e | e
            · rw [(andL_m x e).1]; show (2 : Int) - 1 ≤ bndO 29; decide
            · rw [(orL_m x e).1]; show (2 : Int) - 1 ≤ bndO 30; decide) (fun y hy => by
          rw [c1]
          have := hL y hy
          omega)
        have e3 : stl (X ++ andL a) (A 11, A 12, len) = ((stl (X ++ andL a) (A 11, A 12, len)).1, (stl (X ++ andL a) (A 11, A 12, len)).2.1, (stl (X ++ andL a) (A 11, A 12, len)).2.2) := rfl
        have e4 : stl (X ++ (andL a ++ orL q)) (A 11, A 12, len) = ((stl (X ++ andL a) (A 11, A 12, len)).1, (if q = -1 then (stl (X ++ andL a) (A 11, A 12, len)).2.1 else bu (stl (X ++ andL a) (A 11, A 12, len)).2.1 q (stl (X ++ andL a) (A 11, A 12, len)).2.2), (stl (X ++ andL a) (A 11, A 12, len)).2.2) := by
          rw [← List.append_assoc, stl_app, e3, stl_or]
        have e41 : (stl (X ++ (andL a ++ orL q)) (A 11, A 12, len)).1 = (stl (X ++ andL a) (A 11, A 12, len)).1 := by rw [e4]
        have e42 : (stl (X ++ (andL a ++ orL q)) (A 11, A 12, len)).2.1 = (if q = -1 then (stl (X ++ andL a) (A 11, A 12, len)).2.1 else bu (stl (X ++ andL a) (A 11, A 12, len)).2.1 q (stl (X ++ andL a) (A 11, A 12, len)).2.2) := by rw [e4]
        have e43 : (stl (X ++ (andL a ++ orL q)) (A 11, A 12, len)).2.2 = (stl (X ++ andL a) (A 11, A 12, len)).2.2 := by rw [e4]
        rw [e43] at q2
        rw [e41, e43] at q3
        rw [e42, e43] at q4
        rw [c1, show (29 : Int) + 1 = 30 from rfl] at q2 q3
        have hsp := hpl s1 A1 (nxS B n st) _ _ q2 (by
          show (if (31 : Int) ≤ 30 then 1 else 0) + opnL L + (b : Int) = 8
          rw [if_neg (by decide)]; omega) (fun y hy => by have e : ((30 : Int), _) = y := (by simpa using hy); rw [← e]; show (28 : Int) ≤ 30; decide) (by
          show (if (31 : Int) ≤ 30 then (30 : Int) else innL L) = 31 ∨ (if (31 : Int) ≤ 30 then (30 : Int) else innL L) = -1
          rw [if_neg (by decide)]; exact hi)
        have hk1 : CodK A A1 i0 := fun z w0 w1 => by
          have e5 : (if q = -1 then (stl (X ++ andL a) (A 11, A 12, len)).2.1 else bu (stl (X ++ andL a) (A 11, A 12, len)).2.1 q (stl (X ++ andL a) (A 11, A 12, len)).2.2) z = (stl (X ++ andL a) (A 11, A 12, len)).2.1 z := by
            by_cases e : q = -1
            · rw [if_pos e]
            · rw [if_neg e, bu_ne (by omega)]
          rw [q3, q4, bu_ne (by omega), bu_ne (by omega), e5, stl_O _ _ _ _ _ (by omega), stl_R _ _ _ _ _ (by omega) (fun x hx d => by have := hat x hx d; omega)]
          exact ⟨rfl, rfl⟩
        have hrr := hr.tr (rch_test h q1)
        cases hp : plain (nxS B n st) with
        | error e =>
          rw [hp] at hsp
          exact ErrR.pre hsp hrr (by omega) (ha.tr q5) (hf.tr q6)
        | ok x =>
          obtain ⟨g, st1⟩ := x
          rw [hp] at hsp
          obtain ⟨s2, A2, len2, X2, k2, z1, z2, z3, z4, z5, z6, z7, z8, z9, z10, z11⟩ := hsp
          show SpcW (if wd B st 16 = 0 then _ else testL B n plain k (orS F G) g st1) 1 m s0 A0 B n ord st0 i0 L
          rw [if_neg c0]
          have hst1 : 0 ≤ st1.1 ∧ st1.1 ≤ st1.2.1 ∧ st1.2.1 ≤ n := z3.2.1.2.2.1.1
          have hX2 : ∀ x ∈ X2, 3 ≤ bndO x.1 ∧ x.1 ≤ 28 := fun x hx => by
            have h3 := (z4 x hx).1
            refine ⟨h3.1, ?_⟩
            have h4 := h3.1
            unfold bndO at h4
            by_cases e : x.1 ≤ 28
            · exact e
            · exfalso
              by_cases e30 : x.1 = 30
              · rw [if_neg (by omega), if_pos e30] at h4; omega
              · rw [if_neg (by omega), if_neg e30, if_pos (by omega)] at h4; omega
          have hoL : orL (stl (X ++ andL a) (A 11, A 12, len)).2.2 = [(30, (stl (X ++ andL a) (A 11, A 12, len)).2.2)] := orL_1 (by omega)
          have haL : andL (-1) = [] := rfl
          have hsl2 := stl_len X2 (A2 11) (A2 12) len2
          have hz5 := z5.1
          refine ih (i + 1) (-1) (stl (X ++ andL a) (A 11, A 12, len)).2.2 (orS F G) g s2 A2 st1 len2 X2 _ (by omega) (by omega) ?_ hX2 (Or.inl rfl) (Or.inr ⟨by omega, by omega⟩) (by omega) ?_ (hrr.tr z1) (by omega) (by omega) ((hc.tr hk1).tr (z6.mo (by omega))) ((ha.tr q5).tr z7) ((hf.tr q6).tr z8)
          · rw [hoL, haL]; exact z3
          · rw [haL, List.append_nil]
            have hA2 : ∀ z, 0 ≤ z → z < (stl (X ++ andL a) (A 11, A 12, len)).2.2 + 1 → (stl X2 (A2 11, A2 12, len2)).1 z = A1 11 z ∧ (stl X2 (A2 11, A2 12, len2)).2.1 z = A1 12 z := fun z w0 w1 => by
              rw [stl_O X2 _ _ _ _ (by omega), stl_R X2 _ _ _ _ (by omega) (fun x hx d => by have := hX2 x hx; omega)]
              exact z6 z w0 w1
            refine Ch.or (a := 0) hi0 hch z5 ?_ (fun x x0 x1 xq => ?_) (fun d => ?_)
            · show insM ord ((stl X2 (A2 11, A2 12, len2)).1 _) ((stl X2 (A2 11, A2 12, len2)).2.1 _) = _
              rw [(hA2 _ (by omega) (by omega)).1, (hA2 _ (by omega) (by omega)).2, q3, q4, bu_eq, bu_eq, insM_or]
            · show insM ord ((stl X2 (A2 11, A2 12, len2)).1 x) ((stl X2 (A2 11, A2 12, len2)).2.1 x) = insM ord _ _
              rw [(hA2 x (by omega) (by omega)).1, (hA2 x (by omega) (by omega)).2, q3, q4, bu_ne (by omega), bu_ne (by omega)]
              by_cases e : q = -1
              · rw [if_pos e]
              · rw [if_neg e, bu_ne xq]
            · show insM ord ((stl X2 (A2 11, A2 12, len2)).1 q) ((stl X2 (A2 11, A2 12, len2)).2.1 q) = _
              rw [(hA2 q (by omega) (by omega)).1, (hA2 q (by omega) (by omega)).2, q3, q4, bu_ne (by omega), bu_ne (by omega), if_neg d, bu_eq, hq30 d, insM_or]
theorem m_testOf {b : Nat} {plain : STK → RSL} (hpl : PlainOK m B n ord b plain) : TestOK m B n ord b (testP B n plain) := by
  intro s A st len L h hb hL hi
  have hst : 0 ≤ st.1 ∧ st.1 ≤ st.2.1 ∧ st.2.1 ≤ n := h.2.1.2.2.1.1
  have hfl := h.2.2.2.2.2.2
  have hPl := h.2.2.2.2.2.1.2
  have hsp := hpl s A st len L h hb (fun y hy => by
    have h1 := hL y hy
    have h2 := (hPl y (List.mem_of_mem_head? hy)).1
    unfold bndO at h1
    by_cases e : 28 ≤ y.1
    · exact e
    · exfalso
      rw [if_neg (by omega), if_neg (by omega), if_neg (by omega), if_neg (by omega)] at h1
      repeat' split at h1
      all_goals omega) hi
  unfold testP
  cases hp : plain st with
  | error e =>
    rw [hp] at hsp
    exact hsp
  | ok x =>
    obtain ⟨g, st1⟩ := x
    rw [hp] at hsp
    obtain ⟨s2, A2, len2, X2, k2, z1, z2, z3, z4, z5, z6, z7, z8, z9, z10, z11⟩ := hsp
    have hst1 : 0 ≤ st1.1 ∧ st1.1 ≤ st1.2.1 ∧ st1.2.1 ≤ n := z3.2.1.2.2.1.1
    have hX2 : ∀ x ∈ X2, 3 ≤ bndO x.1 ∧ x.1 ≤ 28 := fun x hx => by
      have h3 := (z4 x hx).1
      refine ⟨h3.1, ?_⟩
      have h4 := h3.1
      unfold bndO at h4
      by_cases e : x.1 ≤ 28
      · exact e
      · exfalso
        by_cases e30 : x.1 = 30
        · rw [if_neg (by omega), if_pos e30] at h4; omega
        · rw [if_neg (by omega), if_neg e30, if_pos (by omega)] at h4; omega
    refine m_testLoop hpl hb hL hi hfl.1 400 0 (-1) (-1) (fun _ => some 0) g s2 A2 st1 len2 X2 k2 (by omega) (by omega) (by rw [show andL (-1) = [] from rfl, show orL (-1) = [] from rfl]; exact z3) hX2 (Or.inl rfl) (Or.inl rfl) z10 ?_ z1 z2 z9 z6 z7 z8
    rw [show andL (-1) = [] from rfl, List.append_nil]
    exact Ch.start z5 hfl.1
theorem m_testD : ∀ b : Nat, TestOK m B n ord b (testD B n ord b) := by
  intro b
  induction b with
  | zero => exact m_testOf (m_plainD (fun d => absurd rfl d))
  | succ b ih => exact m_testOf (m_plainD (fun _ => ih))
end RTE
