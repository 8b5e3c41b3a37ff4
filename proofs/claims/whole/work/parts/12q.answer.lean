/-! THE STACK MACHINE: the class runs it -/
def IsMc (s : AS) (mc : Nat) : Prop := sT s mc = 6 ∧ (sR s mc 0 = mc + 1 ∧ sT s (mc + 1) = 21 ∧ sN s (mc + 1) = 20) ∧ (sR s mc 1 = mc + 2 ∧ sT s (mc + 2) = 21 ∧ sN s (mc + 2) = 64)
def WdR (s : AS) (mc : Nat) (W : Int → Int) : Prop := ∀ z : Int, 0 ≤ z ∧ z < 20 → sL s (mc + 1) z.toNat = w (W z)
def IsTx (s : AS) (t nc nm : Nat) : Prop := sT s t = 12 ∧ (sR s t 0 = t + 1 ∧ sT s (t + 1) = 20 ∧ sN s (t + 1) = nc) ∧ (sR s t 1 = t + 2 ∧ sT s (t + 2) = 20 ∧ sN s (t + 2) = nm)
def TxR (s : AS) (t nc nm : Nat) (cd mk : Int → Int) (len cl : Int) : Prop := IsTx s t nc nm ∧ (sI s t 2 = v len ∧ sI s t 3 = v cl) ∧ (∀ z : Int, 0 ≤ z ∧ z < len → sI s (t + 1) z.toNat = v (cd z)) ∧ (∀ z : Int, 0 ≤ z ∧ z < 6 * cl → sI s (t + 2) z.toNat = v (mk z))
def StkR (g : Nat → Int64) : List Int → Prop
  | [] => True
  | x :: r => g r.length = w x ∧ StkR g r
theorem StkR.fr {g g' : Nat → Int64} : ∀ {st : List Int}, StkR g st → (∀ j, j < st.length → g' j = g j) → StkR g' st := by
  intro st
  induction st with
  | nil => intro _ _; trivial
  | cons x r ih =>
    intro h k
    exact ⟨by rw [k r.length (by simp)]; exact h.1, ih h.2 (fun j hj => k j (by simp; omega))⟩
theorem TxR.fr {F : Nat → Prop} {s s' : AS} {t nc nm : Nat} {cd mk : Int → Int} {len cl : Int} (h : TxR s t nc nm cd mk len cl) (hf : Fr F s s') (h0 : ¬ F t) (h1 : ¬ F (t + 1)) (h2 : ¬ F (t + 2)) : TxR s' t nc nm cd mk len cl := by
  obtain ⟨a, b, c, d⟩ := h
  obtain ⟨⟨t1, t2, t3, -, -⟩, hq⟩ := hf
  refine ⟨by unfold IsTx; rw [t1, t2, t3]; exact a, ?_, ?_, ?_⟩
  · rw [(hq t h0).1]; exact b
  · rw [(hq _ h1).1]; exact c
  · rw [(hq _ h2).1]; exact d
theorem IsMc.st {s s' : AS} {mc : Nat} (h : IsMc s mc) (k : St s s') : IsMc s' mc := by
  unfold IsMc
  rw [k.1, k.2.1, k.2.2.1]
  exact h
theorem WdR.fr {F : Nat → Prop} {s s' : AS} {mc : Nat} {W : Int → Int} (h : WdR s mc W) (hf : Fr F s s') (h0 : ¬ F (mc + 1)) : WdR s' mc W := by
  intro z hz
  rw [(hf.2 _ h0).2]
  exact h z hz
abbrev insC (cd : Int → Int) : Int → Int × Int := fun z => (cd z % 16, cd z / 16)
def resC (r : Option (List Int)) : Int := match r with
  | none => -9000000000000000000
  | some l => l.headD 1
theorem sL_setJ_eq (s : AS) (p j : Nat) (x : Int64) : sL (setJ s p j x) p j = x := by rw [sL_setJ, if_pos ⟨rfl, rfl⟩]
theorem stk_push {s : AS} {p : Nat} {x : Int} {st : List Int} (h : StkR (sL s p) st) {k : Nat} (hk : k = st.length) : StkR (sL (setJ s p k (w x)) p) (x :: st) := by
  subst hk
  exact ⟨sL_setJ_eq _ _ _ _, h.fr (fun j hj => by rw [sL_setJ, if_neg (by omega)])⟩
theorem s_ansL {mc t nc nm : Nat} {cd mk : Int → Int} {len cl b : Int} {W cn : Int → Int}
    (hcd : ∀ z, 0 ≤ z → z < b → (0 ≤ cd z ∧ cd z < 100000) ∧ (cd z % 16 = 1 → cd z / 16 < 20)) (hb : (0 ≤ b ∧ b ≤ len) ∧ len ≤ nc ∧ nc ≤ 400)
    (hc : ∀ z, 0 ≤ z → z < b → cn z + (if cd z % 16 ≤ 1 then 1 else 0) ≤ cn (z + 1)) (hm : ∀ x y, x ≤ y → cn x ≤ cn y) (h60 : ∀ x, cn x ≤ 60) (hW : ∀ z, 0 ≤ z → z < 20 → stB (W z)) :
    ∀ (n : Nat) (i : Int) (st : List Int) (s : AS) (r : Option (List Int)), runP (insC cd) W b n i st = some r → 0 ≤ i ∧ i ≤ 10000 → (st.length : Int) ≤ cn i → (∀ x ∈ st, stB x) → IsMc s mc → WdR s mc W → StkR (sL s (mc + 2)) st → TxR s t nc nm cd mk len cl →
    ∃ s', l_Machine_answer_35 n mc t (v b) (v ((st.length : Int) - 1)) (v i) s = some (w (resC r), s') ∧ Fr (fun q => q = mc + 2) s s' := by
  intro n
  induction n with
  | zero => intro i st s r h; cases h
  | succ n ih =>
    intro i st s r h hi hl hst hM hWd hS hT
    have hM' := hM
    have hWd' := hWd
    have hT' := hT
    have hl60 := h60 i
    obtain ⟨m1, ⟨m2, m3, m4⟩, ⟨m5, m6, m7⟩⟩ := hM
    obtain ⟨⟨t1, ⟨t2, t3, t4⟩, -⟩, -, tc, -⟩ := hT
    have hne : ∀ q : Nat, q = t ∨ q = t + 1 ∨ q = t + 2 → ¬ q = mc + 2 := by
      obtain ⟨⟨t1, ⟨t2, t3, t4⟩, ⟨t5, t6, t7⟩⟩, -⟩ := hT'
      intro q hq e
      have h21 : sT s q = 21 := by rw [e]; exact m6
      rcases hq with hq | hq | hq
      · rw [hq, t1] at h21; omega
      · rw [hq, t3] at h21; omega
      · rw [hq, t6] at h21; omega
    -- a write on the stack
    have wr : ∀ (k : Nat) (x : Int64), Fr (fun q => q = mc + 2) s (setJ s (mc + 2) k x) := fun k x => Fr.sj rfl
    have fT : ∀ s', Fr (fun q => q = mc + 2) s s' → TxR s' t nc nm cd mk len cl := fun s' f => hT'.fr f (hne t (Or.inl rfl)) (hne _ (Or.inr (Or.inl rfl))) (hne _ (Or.inr (Or.inr rfl)))
    rw [runP_s] at h
    unfold runB at h
    by_cases hbi : b ≤ i
    · rw [if_pos hbi] at h
      cases h
      refine ⟨s, ?_, Fr.rf _ _⟩
      simp (disch := omega) only [l_Machine_answer_35, b_Machine_answer_35, v_lt, nv0]
      rw [if_neg (by omega)]
      cases st with
      | nil => rw [if_pos (by simp)]; rfl
      | cons x r =>
        rw [if_neg (by simp)]
        have : (v (((x :: r).length : Int) - 1)).toNatClampNeg = r.length := by rw [v_ix (by simp; simp at hl; omega)]; simp
        rw [m5, if_pos m1, if_pos ⟨m6, by rw [m7]; exact v_inA (by simp at hl ⊢; omega) (by simp at hl ⊢; omega)⟩, this]
        show some (sL s (mc + 2) r.length, s) = _
        rw [hS.1]
        rfl
    · rw [if_neg hbi] at h
      obtain ⟨⟨c1, c2⟩, c3⟩ := hcd i hi.1 (by omega)
      have hcn := hc i hi.1 (by omega)
      have h61 := h60 (i + 1)
      have e16 : cd i - cd i / 16 * 16 = cd i % 16 := by omega
      simp (disch := omega) only [l_Machine_answer_35, b_Machine_answer_35, v_lt, t1, t2, t3, t4, v_inT, and_self, if_true, v_ix, tc, nv16, nv0, nv1, v_inj, v_div, v_mul, v_sub]
      rw [if_pos (by omega), if_pos (by omega), e16]
      simp only [] at h
      by_cases o0 : cd i % 16 = 0
      · rw [if_pos o0] at h
        rw [if_pos (by omega)] at hcn
        rw [o0, if_pos rfl]
        unfold b_Machine_answer_82 b_Machine_answer_105
        rw [if_neg (show ¬ v 1 = nI 0 by decide), nv1, nv64, v_neg, v_add, if_neg (nlt (by omega)), if_pos (plt (by omega)), if_neg (show ¬ v 1 = nI 0 by decide), if_pos m1, if_pos nv0.symm, m5, m6, m7, if_pos ⟨rfl, v_inA (by omega) (by omega)⟩, v_ix (by omega), v_w (by omega), v_add]
        obtain ⟨s', q1, q2⟩ := ih (i + 1) (cd i / 16 :: st) (setJ s (mc + 2) st.length (w (cd i / 16))) r h (by omega) (by simp; omega) (fun x hx => by
          rcases List.mem_cons.mp hx with e | e
          · rw [e]; constructor <;> omega
          · exact hst x e) (hM'.st (wr _ _).1) (hWd'.fr (wr _ _) (by omega)) (stk_push hS rfl) (fT _ (wr _ _))
        refine ⟨s', ?_, (wr _ _).tr q2⟩
        rw [show ((st.length : Int) - 1 + 1).toNat = st.length by omega, show ((st.length : Int) - 1 + 1) = (((cd i / 16 :: st).length : Nat) : Int) - 1 by simp]
        exact q1
      · rw [if_neg o0] at h
        by_cases o1 : cd i % 16 = 1
        · rw [if_pos o1] at h
          rw [if_pos (by omega)] at hcn
          have hwz := c3 o1
          have hws := hWd (cd i / 16) (by omega)
          have hwb := hW (cd i / 16) (by omega) (by omega)
          rw [o1, if_neg (show ¬ (1 : Int) = 0 by decide), if_pos rfl]
          unfold b_Machine_answer_82 b_Machine_answer_105
          rw [if_neg (show ¬ v 1 = nI 0 by decide), nv1, nv64, v_neg, v_add, if_neg (nlt (by omega)), if_pos (plt (by omega)), if_neg (show ¬ v 1 = nI 0 by decide), if_pos m1, if_neg (show ¬ v 1 = nI 0 by decide), m2, m3, m4, m5, m6, m7, if_pos ⟨rfl, v_inA (by omega) (by omega)⟩, if_pos ⟨rfl, v_inA (by omega) (by omega)⟩, v_ix (a := cd i / 16) (by omega), hws, v_ix (by omega), v_add]
          obtain ⟨s', q1, q2⟩ := ih (i + 1) (W (cd i / 16) :: st) (setJ s (mc + 2) st.length (w (W (cd i / 16)))) r h (by omega) (by simp; omega) (fun x hx => by
            rcases List.mem_cons.mp hx with e | e
            · rw [e]; exact hwb
            · exact hst x e) (hM'.st (wr _ _).1) (hWd'.fr (wr _ _) (by omega)) (stk_push hS rfl) (fT _ (wr _ _))
          refine ⟨s', ?_, (wr _ _).tr q2⟩
          rw [show ((st.length : Int) - 1 + 1).toNat = st.length by omega, show ((st.length : Int) - 1 + 1) = (((W (cd i / 16) :: st).length : Nat) : Int) - 1 by simp]
          exact q1
        · rw [if_neg o1] at h
          rw [if_neg (by omega)] at hcn
          have hmc := hm i (i + 1) (by omega)
          cases st with
          | nil => cases h
          | cons y r0 =>
            simp only [] at h
            have hy := hst y (List.mem_cons_self ..)
            have hr0 : ∀ x ∈ r0, stB x := fun x hx => hst x (List.mem_cons_of_mem _ hx)
            have hlen : ((y :: r0).length : Int) = r0.length + 1 := by simp
            rw [hlen] at hl ⊢
            rw [show (r0.length : Int) + 1 - 1 = r0.length by omega]
            rw [if_neg o0, if_neg o1]
            unfold b_Machine_answer_82 b_Machine_answer_105
            rw [if_pos (show v 0 = nI 0 by rfl), if_pos (show v 0 = nI 0 by rfl), nv10, nv0, nv1, nv64, v_add]
            by_cases o10 : cd i % 16 = 10
            · rw [if_pos o10] at h
              rw [o10, if_neg (nlt (by omega)), if_neg (nlt (by omega)), if_pos (plt (by omega)), if_pos rfl, if_pos m1, m5, m6, m7, if_pos ⟨rfl, v_inA (by omega) (by omega)⟩, v_ix (by omega), v_add]
              obtain ⟨s', q1, q2⟩ := ih (i + 1) ((1 - y) :: r0) (setJ s (mc + 2) r0.length (w (1 - y))) r h (by omega) (by simp; omega) (fun x hx => by
                rcases List.mem_cons.mp hx with e | e
                · rw [e]; constructor <;> omega
                · exact hr0 x e) (hM'.st (wr _ _).1) (hWd'.fr (wr _ _) (by omega)) (stk_push hS.2 rfl) (fT _ (wr _ _))
              refine ⟨s', ?_, (wr _ _).tr q2⟩
              rw [show ((r0.length : Int)).toNat = r0.length by omega, hS.1, lw1, w_sub]
              rw [show (((1 - y) :: r0).length : Int) - 1 = r0.length by simp] at q1
              exact q1
            · rw [if_neg o10] at h
              rw [if_neg (c := v (cd i % 16) = v 10) (pne (by omega))]
              by_cases o9 : cd i % 16 < 10
              · rw [if_pos o9] at h
                cases r0 with
                | nil => cases h
                | cons x r1 =>
                  simp only [] at h
                  have hx := hr0 x (List.mem_cons_self ..)
                  have hr1 : ∀ x ∈ r1, stB x := fun z hz => hr0 z (List.mem_cons_of_mem _ hz)
                  have hlen1 : ((x :: r1).length : Int) = r1.length + 1 := by simp
                  rw [hlen1] at hl ⊢
                  have hj := s_joined (s := s) (op := cd i % 16) (x := x) (y := y) (by omega) hx hy
                  rw [if_pos (c := v (cd i % 16) < v 10) (plt (by omega)), if_pos (c := v (cd i % 16) < v 10) (plt (by omega)), if_neg (nlt (by omega)), if_pos (plt (by omega)), if_pos m1, m5, m6, m7, v_neg, v_add, v_add, if_pos ⟨rfl, v_inA (by omega) (by omega)⟩, if_pos ⟨rfl, v_inA (by omega) (by omega)⟩, v_ix (a := (r1.length : Int) + 1 + -1) (by omega), v_ix (a := (r1.length : Int) + 1 + -1 + 1) (by omega), v_add]
                  rw [show ((r1.length : Int) + 1 + -1).toNat = r1.length by omega, show ((r1.length : Int) + 1 + -1 + 1).toNat = r1.length + 1 by omega]
                  rw [hS.2.1, show sL s (mc + 2) (r1.length + 1) = w y from hS.1, hj, Option.bind_some, sL_setJ_eq, wBrk]
                  cases hjp : joinP (cd i % 16) x y with
                  | none =>
                    rw [hjp] at h
                    cases h
                    rw [if_pos (by rfl)]
                    exact ⟨_, rfl, wr _ _⟩
                  | some z =>
                    rw [hjp] at h
                    have hz := joinP_b hjp
                    show ∃ s', (if lg_cmp (w z) (w (-9000000000000000000)) = v 0 then _ else _) = _ ∧ _
                    rw [if_neg (by rw [wc_eq (by omega) (by omega)]; omega)]
                    obtain ⟨s', q1, q2⟩ := ih (i + 1) (z :: r1) (setJ s (mc + 2) r1.length (w z)) r h (by omega) (by simp; omega) (fun x hx => by
                      rcases List.mem_cons.mp hx with e | e
                      · rw [e]; constructor <;> omega
                      · exact hr1 x e) (hM'.st (wr _ _).1) (hWd'.fr (wr _ _) (by omega)) (stk_push hS.2.2 rfl) (fT _ (wr _ _))
                    refine ⟨s', ?_, (wr _ _).tr q2⟩
                    rw [show ((z :: r1).length : Int) - 1 = (r1.length : Int) + 1 + -1 by simp; omega] at q1
                    exact q1
              · rw [if_neg o9] at h
                rw [if_neg (c := v (cd i % 16) < v 10) (nlt (by omega)), if_neg (c := v (cd i % 16) < v 10) (nlt (by omega)), if_neg (nlt (by omega)), if_pos (plt (by omega)), if_pos m1, m5, m6, m7, if_pos ⟨rfl, v_inA (by omega) (by omega)⟩, nv11, v_ix (by omega)]
                unfold b_Machine_answer_264
                rw [nv1, nv0, v_sub]
                simp (disch := omega) only [v_lt, v_inj, vif, v_add, v_neg]
                rw [show ((r0.length : Int)).toNat = r0.length by omega, hS.1]
                rw [v_w (by split <;> omega)]
                by_cases hy1 : y = (if cd i % 16 = 11 then 0 else 1)
                · rw [if_pos hy1] at h
                  rw [if_pos (by rw [wc_eq (by omega) (by split <;> omega)]; exact hy1)]
                  obtain ⟨s', q1, q2⟩ := ih (max (i + 1) (cd i / 16)) (y :: r0) s r h (by omega) (by rw [hlen]; have := hm i (max (i + 1) (cd i / 16)) (by omega); omega) hst hM' hWd' hS hT'
                  refine ⟨s', ?_, q2⟩
                  rw [hlen, show (r0.length : Int) + 1 - 1 = r0.length by omega] at q1
                  rw [show (if i < cd i / 16 - 1 then cd i / 16 - 1 else i) + 1 = max (i + 1) (cd i / 16) by split <;> omega]
                  exact q1
                · rw [if_neg hy1] at h
                  rw [if_neg (by rw [wc_eq (by omega) (by split <;> omega)]; exact hy1)]
                  obtain ⟨s', q1, q2⟩ := ih (i + 1) r0 s r h (by omega) (by omega) hr0 hM' hWd' hS.2 hT'
                  refine ⟨s', ?_, q2⟩
                  rw [show (r0.length : Int) + -1 = r0.length - 1 by omega]
                  exact q1
theorem runP_mo {I : Int → Int × Int} {W : Int → Int} {b : Int} : ∀ (n k : Nat) (i : Int) (st : List Int) (x : Option (List Int)), runP I W b n i st = some x → runP I W b (n + k) i st = some x := by
  intro n
  induction n with
  | zero => intro k i st x h; cases h
  | succ n ih =>
    intro k i st x h
    rw [show n + 1 + k = (n + k) + 1 by omega]
    rw [runP_s] at h ⊢
    unfold runB at h ⊢
    by_cases c1 : b ≤ i
    · rw [if_pos c1] at h ⊢; exact h
    rw [if_neg c1] at h ⊢
    by_cases c2 : (I i).1 = 0
    · rw [if_pos c2] at h ⊢; exact ih _ _ _ _ h
    rw [if_neg c2] at h ⊢
    by_cases c3 : (I i).1 = 1
    · rw [if_pos c3] at h ⊢; exact ih _ _ _ _ h
    rw [if_neg c3] at h ⊢
    cases st with
    | nil => cases h
    | cons y r =>
      simp only [] at h ⊢
      by_cases c4 : (I i).1 = 10
      · rw [if_pos c4] at h ⊢; exact ih _ _ _ _ h
      rw [if_neg c4] at h ⊢
      by_cases c5 : (I i).1 < 10
      · rw [if_pos c5] at h ⊢
        cases r with
        | nil => cases h
        | cons z r' =>
          simp only [] at h ⊢
          cases hj : joinP (I i).1 z y with
          | none => rw [hj] at h; exact h
          | some q => rw [hj] at h; exact ih _ _ _ _ h
      rw [if_neg c5] at h ⊢
      by_cases c6 : y = (if (I i).1 = 11 then 0 else 1)
      · rw [if_pos c6] at h ⊢; exact ih _ _ _ _ h
      · rw [if_neg c6] at h ⊢; exact ih _ _ _ _ h
/-- an answer, by what the pure machine tells -/
theorem s_answer {s : AS} {mc t nc nm : Nat} {cd mk : Int → Int} {len cl : Int} {W : Int → Int} {c what : Int} {r : Option (List Int)} {n : Nat} (hn : n ≤ 900000)
    (hr : runP (insC cd) W (mk (c * 6 + what + 1)) n (mk (c * 6 + what)) [] = some r) (hx : 0 ≤ c ∧ c < cl ∧ 0 ≤ what ∧ what ≤ 4) (hcl : 6 * cl ≤ nm ∧ nm ≤ 100)
    (hcd : ∀ z, 0 ≤ z → z < mk (c * 6 + what + 1) → (0 ≤ cd z ∧ cd z < 100000) ∧ (cd z % 16 = 1 → cd z / 16 < 20)) (hb : (0 ≤ mk (c * 6 + what + 1) ∧ mk (c * 6 + what + 1) ≤ len) ∧ len ≤ nc ∧ nc ≤ 400) (h0 : 0 ≤ mk (c * 6 + what) ∧ mk (c * 6 + what) ≤ 10000)
    {cn : Int → Int} (hc : ∀ z, 0 ≤ z → z < mk (c * 6 + what + 1) → cn z + (if cd z % 16 ≤ 1 then 1 else 0) ≤ cn (z + 1)) (hm : ∀ x y, x ≤ y → cn x ≤ cn y) (h60 : ∀ x, 0 ≤ cn x ∧ cn x ≤ 60) (hW : ∀ z, 0 ≤ z → z < 20 → stB (W z))
    (hM : IsMc s mc) (hWd : WdR s mc W) (hT : TxR s t nc nm cd mk len cl) : ∃ s', f_Machine_answer s mc t (v c) (v what) = some (w (resC r), s') ∧ Fr (fun q => q = mc + 2) s s' := by
  have h1 := runP_mo n (fuel - n) _ _ _ hr
  rw [show n + (fuel - n) = fuel by unfold fuel; omega] at h1
  have hT' := hT
  obtain ⟨⟨t1, -, ⟨t5, t6, t7⟩⟩, -, -, tm⟩ := hT
  obtain ⟨s', q1, q2⟩ := s_ansL (t := t) (nc := nc) (nm := nm) (mk := mk) (len := len) (cl := cl) (mc := mc) hcd hb hc hm (fun x => (h60 x).2) hW fuel _ [] s r h1 h0 (by have := (h60 (mk (c * 6 + what))).1; simpa using this) (fun x hx => by cases hx) hM hWd trivial hT'
  refine ⟨s', ?_, q2⟩
  unfold f_Machine_answer
  simp (disch := omega) only [t1, t5, t6, t7, v_inT, v_ix, tm, nv6, nv1, v_mul, v_add, v_neg, and_self, if_true]
  exact q1
