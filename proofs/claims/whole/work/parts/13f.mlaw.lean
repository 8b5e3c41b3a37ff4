/-! THE REFERENCE: where SEARCH tells -/
theorem scrT_H {A B : MA} (h : AF scrT A B) : AF scrH A B := h.mo (fun j z hj => by omega)
theorem m_tellL {m : Nat} {A0 : MA} {o : LWS} {V : Int → Int} {kept : Int} {P : PG} {T : TXS} {cl at_ : Int} {W : Int → Int} {head : Int} (hE : MkE A0 o V kept P) (hK : PgK P) (hT : TxM (A0 2) at_ T cl) (hL : LawS T cl) (hat : 0 ≤ at_ ∧ at_ ≤ 5321) (hw : MkW A0 at_ W) (hW : ∀ z, 0 ≤ z → z < 20 → stB (W z)) (hh : head = 0 ∨ head = 1) :
    ∀ (k n : Nat) (c t : Int) (s : AS) (A : MA), c + k = cl → 0 ≤ c → k < n → stB t → MR s m A → AF scrT A0 A →
    ∃ s' A', l_M_tells_130 n m (v head) (w t) (v c) s = some (w (tellL T W head k c t), s') ∧ MR s' m A' ∧ AF scrT A0 A' ∧ Fr (inM m) s s' ∧ stB (tellL T W head k c t) := by
  intro k
  induction k with
  | zero =>
    intro n c t s A hc h0 hn ht h ha
    obtain ⟨n, rfl⟩ : ∃ m, n = m + 1 := ⟨n - 1, by omega⟩
    obtain ⟨g0, g00, -⟩ := hT
    have e33 := h.i33
    rw [ha 0 33 (by omega), hw.1] at e33
    have r1 := h.a3 (at_ + 1) (by omega)
    rw [ha 2 _ (by omega), g0] at r1
    refine ⟨s, A, ?_, h, ha, Fr.rf _ _, ht⟩
    show b_M_tells_130 _ _ _ _ _ _ = _
    unfold b_M_tells_130
    rw [if_pos h.t, h.r3, h.t3, h.n3, e33, nv1, v_add, if_pos ⟨rfl, v_inA (by omega) (by omega)⟩, v_ix (by omega), r1, if_neg (nlt (by omega))]
    rfl
  | succ k ih =>
    intro n c t s A hc h0 hn ht h ha
    obtain ⟨n, rfl⟩ : ∃ m, n = m + 1 := ⟨n - 1, by omega⟩
    have hT' := hT
    obtain ⟨g0, g00, hTc⟩ := hT
    obtain ⟨g1, -⟩ := hTc c h0 (by omega)
    obtain ⟨⟨hb1, hb2, hb3⟩, -⟩ := hL c h0 (by omega)
    have e33 := h.i33
    rw [ha 0 33 (by omega), hw.1] at e33
    have r1 := h.a3 (at_ + 1) (by omega)
    rw [ha 2 _ (by omega), g0] at r1
    have rk := h.a3 (at_ + 2 + 8 * c) (by omega)
    rw [ha 2 _ (by omega), g1] at rk
    have e2 : A 2 = A0 2 := funext (fun y => ha 2 y (by omega))
    have hEA := hE.fr (scrT_H ha)
    have hwA : MkW A at_ W := ⟨by rw [ha 0 33 (by omega)]; exact hw.1, fun op ho => by rw [ha 18 op (by omega)]; exact hw.2 op ho⟩
    obtain ⟨s1, A1, q1, q2, q3, q4, q5⟩ := m_isSo h hEA hK (by rw [e2]; exact hT') hL hat hwA hW ⟨h0, by omega⟩
    have go : ∀ (s2 : AS) (A2 : MA) (t' : Int), stB t' → MR s2 m A2 → AF scrT A0 A2 → Fr (inM m) s s2 → stpT T W head c t = t' → ∃ s' A', l_M_tells_130 n m (v head) (w t') (v (c + 1)) s2 = some (w (tellL T W head (k + 1) c t), s') ∧ MR s' m A' ∧ AF scrT A0 A' ∧ Fr (inM m) s s' ∧ stB (tellL T W head (k + 1) c t) := by
      intro s2 A2 t' k1 k2 k3 k4 k5
      obtain ⟨s', A', u1, u2, u3, u4, u5⟩ := ih n (c + 1) t' s2 A2 (by omega) (by omega) (by omega) k1 k2 k3
      have hx : tellL T W head (k + 1) c t = tellL T W head k (c + 1) t' := by
        show tellL T W head k (c + 1) (stpT T W head c t) = _
        rw [k5]
      rw [hx]
      exact ⟨s', A', u1, u2, u3, k4.tr u4, u5⟩
    show ∃ s' A', b_M_tells_130 _ _ _ _ _ _ = _ ∧ _
    unfold b_M_tells_130
    rw [if_pos h.t, h.r3, h.t3, h.n3, e33, nv1, nv2, nv8, v_add, v_add, v_mul, v_add, v_add, if_pos ⟨rfl, v_inA (by omega) (by omega)⟩, v_ix (a := at_ + 1) (by omega), r1, if_pos (plt (by omega)), if_pos ⟨rfl, v_inA (by omega) (by omega)⟩, v_ix (a := at_ + 2 + 8 * c) (by omega), rk]
    by_cases hk : T.1 c = head
    · rw [if_pos (peq hk), q1, Option.bind_some]
      by_cases hs : T.2.2.2.2 c W = some 1 ∧ (T.1 c = 0 → T.2.2.1 c W ≠ none)
      · rw [bi_t hs, if_neg (show ¬ v 1 = nI 0 by decide), nv0, lw1]
        by_cases h00 : head = 0
        · rw [if_pos (peq h00), if_pos q2.t]
          cases hf : T.2.2.1 c W with
          | none => exact absurd hf (hs.2 (by omega))
          | some z =>
            have hz := q5 (by omega) z hs.1 hf
            have i39 := q2.i39
            rw [hz] at i39
            rw [i39]
            exact go s1 A1 z (hb2 W hW z hf) q2 (ha.tr q3) q4 (by unfold stpT; rw [if_pos ⟨hk, hs.1, fun _ => by rw [hf]; simp⟩, if_pos h00, hf]; rfl)
        · rw [if_neg (pne (by omega))]
          exact go s1 A1 1 (by constructor <;> omega) q2 (ha.tr q3) q4 (by unfold stpT; rw [if_pos ⟨hk, hs.1, fun e => absurd e h00⟩, if_neg h00])
      · rw [bi_f hs, if_pos (show v 0 = nI 0 by rfl)]
        exact go s1 A1 t ht q2 (ha.tr q3) q4 (by unfold stpT; rw [if_neg (fun e => hs ⟨e.2.1, fun e0 => e.2.2 (by omega)⟩)])
    · rw [if_neg (pne (by omega))]
      exact go s A t ht h ha (Fr.rf _ _) (by unfold stpT; rw [if_neg (fun e => hk e.1)])
theorem pu_f {P : PG} {i j : Nat} {z x : Int} (h : j ≠ i) : pu P i z x j = P j := funext (fun y => pu_row P i z x h y)
def tellO (o : LWS) (V : Int → Int) (P : PG) (p sz head : Int) : Int := match o with
  | none => 0
  | some (T, cl) => tellL T (lawW P V p sz) head cl.toNat 0 0
theorem m_tells {s : AS} {m : Nat} {A : MA} {o : LWS} {V : Int → Int} {kept : Int} {P : PG} {p sz head : Int} (h : MR s m A) (hE : MkE A o V kept P) (hK : PgK P) (hp : 0 ≤ p ∧ p < 8) (hs : 0 ≤ sz ∧ sz ≤ 1000) (hh : head = 0 ∨ head = 1) :
    ∃ s' A', f_M_tells s m (v head) (v p) (v sz) (w 0) = some (w (tellO o V P p sz head), s') ∧ MR s' m A' ∧ AF scrH A A' ∧ Fr (inM m) s s' ∧ stB (tellO o V P p sz head) := by
  have hE' := hE
  obtain ⟨hP, h19, hKp, hLw, ⟨v0, v2⟩, hV⟩ := hE
  have rf := h.a3 1 (by omega)
  have hb := hK.1.2 p
  have hfr := freeP_r hK.1 p
  unfold f_M_tells
  rcases hLw with ⟨l1, l2⟩ | ⟨l1, T, cl, l2, l3, l4⟩
  · subst l2
    rw [if_pos h.t, h.r3, h.t3, h.n3]
    rw [if_pos (show 20 = 20 ∧ inA (nI 1) 6221 from ⟨rfl, v_inA (a := 1) (by decide) (by decide)⟩), if_pos (show sI s (m + 2) (nI 1).toNatClampNeg = -(nI 1) by rw [nv1, v_ix (by decide), v_neg, rf, l1])]
    exact ⟨s, A, rfl, h, AF.rf _ _, Fr.rf _ _, by show stB 0; constructor <;> omega⟩
  · subst l2
    have hv0 := hV 0
    have hv2 := hV 2
    have g33 := h.s0 (k := 33) (z := 33) (x := 821 + 900 * A 2 1) rfl (by decide)
    have g1 := g33.sj 18 (by decide) rfl (z := 1) (x := p) (by decide)
    have g2 := g1.sj 18 (by decide) rfl (z := 2) (x := sz) (by decide)
    have g3 := g2.sj 18 (by decide) rfl (z := 3) (x := freeP P p) (by decide)
    have g4 := g3.sj 18 (by decide) rfl (z := 4) (x := P 3 p) (by decide)
    have g5 := g4.sj 18 (by decide) rfl (z := 5) (x := P 4 p) (by decide)
    have g6 := g5.sj 18 (by decide) rfl (z := 6) (x := V 0) (by decide)
    have g7 := g6.sj 18 (by decide) rfl (z := 7) (x := V 2) (by decide)
    have hfree := m_freeOf g2 (P := P) (by rw [pu_f (by decide), pu_f (by decide), pu_f (by decide)]; exact hP) hK hp
    have ha : AF scrH A (pu (pu (pu (pu (pu (pu (pu (pu A 0 33 (821 + 900 * A 2 1)) 18 1 p) 18 2 sz) 18 3 (freeP P p)) 18 4 (P 3 p)) 18 5 (P 4 p)) 18 6 (V 0)) 18 7 (V 2)) := ((((((((AF.pu (Or.inr (Or.inr (Or.inr ⟨rfl, Or.inr rfl⟩)))).tr (AF.pu (Or.inr (Or.inl rfl)))).tr (AF.pu (Or.inr (Or.inl rfl)))).tr (AF.pu (Or.inr (Or.inl rfl)))).tr (AF.pu (Or.inr (Or.inl rfl)))).tr (AF.pu (Or.inr (Or.inl rfl)))).tr (AF.pu (Or.inr (Or.inl rfl)))).tr (AF.pu (Or.inr (Or.inl rfl))))
    have hE7 := hE'.fr ha
    have hw7 : MkW (pu (pu (pu (pu (pu (pu (pu (pu A 0 33 (821 + 900 * A 2 1)) 18 1 p) 18 2 sz) 18 3 (freeP P p)) 18 4 (P 3 p)) 18 5 (P 4 p)) 18 6 (V 0)) 18 7 (V 2)) (821 + 900 * A 2 1) (lawW P V p sz) := by
      refine ⟨rfl, fun op ho => ?_⟩
      rcases (by omega : op = 1 ∨ op = 2 ∨ op = 3 ∨ op = 4 ∨ op = 5 ∨ op = 6 ∨ op = 7) with e | e | e | e | e | e | e <;> subst e <;> rfl
    have hW : ∀ z, 0 ≤ z → z < 20 → stB (lawW P V p sz z) := by
      intro z _ _
      unfold lawW
      repeat' split
      all_goals constructor <;> omega
    have hcl := l3.2.1
    obtain ⟨s', A', q1, q2, q3, q4, q5⟩ := m_tellL (m := m) hE7 hK (T := T) (cl := cl) (at_ := 821 + 900 * A 2 1) (W := lawW P V p sz) (head := head) (by
      rw [show (pu (pu (pu (pu (pu (pu (pu (pu A 0 33 (821 + 900 * A 2 1)) 18 1 p) 18 2 sz) 18 3 (freeP P p)) 18 4 (P 3 p)) 18 5 (P 4 p)) 18 6 (V 0)) 18 7 (V 2)) 2 = A 2 from funext (fun y => ha 2 y (by omega))]
      exact l3) l4 (by omega) hw7 hW hh cl.toNat fuel 0 0 _ _ (by omega) (by omega) (by unfold fuel; omega) (by constructor <;> omega) g7 (AF.rf _ _)
    refine ⟨s', A', ?_, q2, ha.tr (scrT_H q3), ?_, q5⟩
    · have rl := hP.1 p hp
      have rp := hP.2.1 p hp
      have a0 := g33.a3 (5 + 102 * p) (by omega)
      have a1 := g33.a3 (5 + 102 * p + 1) (by omega)
      have a2 := g33.a3 2 (by omega)
      have a4 := g33.a3 4 (by omega)
      rw [pu_row _ _ _ _ (by decide), rl] at a0
      rw [pu_row _ _ _ _ (by decide), rp] at a1
      rw [pu_row _ _ _ _ (by decide), v0] at a2
      rw [pu_row _ _ _ _ (by decide), v2] at a4
      rw [if_pos h.t, h.r3, h.t3, h.n3, h.r34, h.t34, h.n34]
      rw [if_pos (show 20 = 20 ∧ inA (nI 1) 6221 from ⟨rfl, v_inA (a := 1) (by decide) (by decide)⟩), if_neg (show ¬ sI s (m + 2) (nI 1).toNatClampNeg = -(nI 1) by rw [nv1, v_ix (by decide), v_neg, rf]; exact pne (by omega))]
      simp (disch := omega) only [nv0, nv1, nv2, nv3, nv4, nv5, nv6, nv7, nv821, nv900, v_neg, v_inT, v_ix, and_self, if_true, rf, v_mul, v_add, v_w, m_pageAt, Option.bind_some, Int.add_zero, a0, a1, a2, a4, hfree]
      exact q1
    · exact (((((((((Fr.si (p := m) (F := inM m) ⟨by omega, by omega⟩).tr (inM_j (by decide))).tr (inM_j (by decide))).tr (inM_j (by decide))).tr (inM_j (by decide))).tr (inM_j (by decide))).tr (inM_j (by decide))).tr (inM_j (by decide))).tr q4)
