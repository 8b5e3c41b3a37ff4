/-! TEXTS AND WHAT THEY TELL -/
abbrev TXS : Type := (Int → Int) × (Int → Int) × (Int → SEM) × (Int → SEM) × (Int → SEM)
def SegE (I : Int → Int × Int) (i j : Int) (f : SEM) : Prop := (i = j ∧ f = fun _ => some 1) ∨ Seg I i j f
def prtC (cd : Int → Int) : Int → Int := fun z => if cd z % 16 ≤ 1 then 1 else 0
def TxOK (cd : Int → Int) (len : Int) : Prop := (∀ z, 0 ≤ z → z < len → (0 ≤ cd z ∧ cd z < 100000) ∧ (cd z % 16 = 1 → cd z / 16 < 20)) ∧ (0 ≤ len ∧ len ≤ 400) ∧ sumZ (prtC cd) len.toNat ≤ 50
def TxS (cd mk : Int → Int) (len cl : Int) (T : TXS) : Prop := TxOK cd len ∧ (0 ≤ cl ∧ cl ≤ 12) ∧ ∀ c, 0 ≤ c → c < cl → (mk (c * 6) = T.1 c ∧ mk (c * 6 + 1) = T.2.1 c) ∧ ((0 ≤ mk (c * 6 + 2) ∧ mk (c * 6 + 2) ≤ mk (c * 6 + 3)) ∧ mk (c * 6 + 3) ≤ mk (c * 6 + 4) ∧ mk (c * 6 + 4) ≤ mk (c * 6 + 5) ∧ mk (c * 6 + 5) ≤ len) ∧
  SegE (insC cd) (mk (c * 6 + 2)) (mk (c * 6 + 3)) (T.2.2.1 c) ∧ SegE (insC cd) (mk (c * 6 + 3)) (mk (c * 6 + 4)) (T.2.2.2.1 c) ∧ SegE (insC cd) (mk (c * 6 + 4)) (mk (c * 6 + 5)) (T.2.2.2.2 c)
theorem sumZ_mo {f : Int → Int} (h : ∀ z, 0 ≤ f z) : ∀ {a b : Nat}, a ≤ b → sumZ f a ≤ sumZ f b := by
  intro a b hab
  induction b with
  | zero => rw [show a = 0 by omega]; exact Int.le_refl _
  | succ b ih =>
    have := h b
    by_cases e : a = b + 1
    · rw [e]; exact Int.le_refl _
    · have := ih (by omega)
      simp only [sumZ]
      omega
theorem s_ansS {s : AS} {mc t nc nm : Nat} {cd mk : Int → Int} {len cl : Int} {W : Int → Int} {c what : Int} {f : SEM} (hOK : TxOK cd len)
    (hx : 0 ≤ c ∧ c < cl ∧ 0 ≤ what ∧ what ≤ 4) (hcl : 6 * cl ≤ nm ∧ nm ≤ 100) (hl : len ≤ nc ∧ nc ≤ 400) (hmk : 0 ≤ mk (c * 6 + what) ∧ mk (c * 6 + what) ≤ mk (c * 6 + what + 1) ∧ mk (c * 6 + what + 1) ≤ len) (hS : SegE (insC cd) (mk (c * 6 + what)) (mk (c * 6 + what + 1)) f) (hW : ∀ z, 0 ≤ z → z < 20 → stB (W z))
    (hM : IsMc s mc) (hWd : WdR s mc W) (hT : TxR s t nc nm cd mk len cl) : ∃ s', f_Machine_answer s mc t (v c) (v what) = some (w (brk (f W)), s') ∧ Fr (fun q => q = mc + 2) s s' := by
  have hp0 : ∀ z, 0 ≤ prtC cd z := fun z => by unfold prtC; split <;> decide
  have key : ∀ r, runP (insC cd) W (mk (c * 6 + what + 1)) 1000 (mk (c * 6 + what)) [] = some r → ∃ s', f_Machine_answer s mc t (v c) (v what) = some (w (resC r), s') ∧ Fr (fun q => q = mc + 2) s s' := by
    intro r hr
    refine s_answer (cn := fun x => sumZ (prtC cd) (min (max x 0) len).toNat) (n := 1000) (by omega) hr hx hcl (fun z h1 h2 => hOK.1 z h1 (by omega)) ⟨⟨by omega, hmk.2.2⟩, hl⟩ ⟨hmk.1, by have := hOK.2.1; omega⟩ (fun z h1 h2 => ?_) (fun x y hxy => sumZ_mo hp0 (by omega)) (fun x => ⟨?_, ?_⟩) hW hM hWd hT
    · show sumZ (prtC cd) (min (max z 0) len).toNat + _ ≤ sumZ (prtC cd) (min (max (z + 1) 0) len).toNat
      rw [show (min (max (z + 1) 0) len).toNat = (min (max z 0) len).toNat + 1 by omega]
      simp only [sumZ]
      rw [show (((min (max z 0) len).toNat : Nat) : Int) = z by omega]
      unfold prtC
      exact Int.le_refl _
    · exact sumZ_mo hp0 (Nat.zero_le _)
    · have := sumZ_mo hp0 (show (min (max x 0) len).toNat ≤ len.toNat by omega)
      have := hOK.2.2
      omega
  rcases hS with ⟨h1, h2⟩ | hS
  · rw [← h1] at key
    have := key (some []) (by
      show runP _ _ _ (999 + 1) _ _ = _
      rw [runP_s]
      unfold runB
      rw [if_pos (Int.le_refl _)])
    rw [h2]
    exact this
  · have h1 := hS.run W (n := 1000) (by have := hOK.2.1; omega)
    have := key _ h1
    cases hf : f W with
    | none => rw [hf] at this; exact this
    | some z => rw [hf] at this; exact this
/-- what a law leaves of a page, clause by clause; 65 if it is barred -/
def leftL (T : TXS) (W : Int → Int) : Nat → Int → Int → Int
  | 0, _, l => l
  | k + 1, c, l => if T.2.2.2.2 c W = some 1 then (if T.1 c = 1 then 65 else leftL T W k (c + 1) (match T.2.2.1 c W with | none => l | some z => max 0 (min 64 z))) else leftL T W k (c + 1) l
def BolS (f : SEM) : Prop := ∀ W z, f W = some z → z = 0 ∨ z = 1
def SumS (f : SEM) : Prop := ∀ W, (∀ z, 0 ≤ z → z < 20 → stB (W z)) → ∀ z, f W = some z → stB z
theorem s_leftL {d st mc t nc nm : Nat} {cd mk : Int → Int} {len cl : Int} {T : TXS} {W : Int → Int} (hT : TxS cd mk len cl T) (hcl : 6 * cl ≤ nm ∧ nm ≤ 100) (hl : len ≤ nc ∧ nc ≤ 400) (hW : ∀ z, 0 ≤ z → z < 20 → stB (W z)) (hb : ∀ c, 0 ≤ c → c < cl → BolS (T.2.2.2.2 c) ∧ SumS (T.2.2.1 c) ∧ (T.1 c = 0 ∨ T.1 c = 1)) :
    ∀ (k n : Nat) (c l : Int) (s : AS), c + k = cl → 0 ≤ c → k < n → 0 ≤ l ∧ l ≤ 64 → IsD s d st mc → IsMc s mc → WdR s mc W → TxR s t nc nm cd mk len cl →
    ∃ s', l_Desk_leftOn_129 n d t (w l) (v c) s = some (v (leftL T W k c l), s') ∧ Fr (fun q => q = mc + 2) s s' := by
  intro k
  induction k with
  | zero =>
    intro n c l s hc h0 hn hl0 hD hM hWd hx
    obtain ⟨n, rfl⟩ : ∃ m, n = m + 1 := ⟨n - 1, by omega⟩
    refine ⟨s, ?_, Fr.rf _ _⟩
    have hc12 := hT.2.1
    show b_Desk_leftOn_129 _ _ _ _ _ _ = _
    unfold b_Desk_leftOn_129
    rw [if_pos hx.1.1, hx.2.1.2, if_neg (nlt (by omega)), w_v]
    rfl
  | succ k ih =>
    intro n c l s hc h0 hn hl0 hD hM hWd hx
    obtain ⟨n, rfl⟩ : ∃ m, n = m + 1 := ⟨n - 1, by omega⟩
    have hc12 := hT.2.1
    obtain ⟨⟨g1, g2⟩, ⟨g3, g4, g5, g6⟩, g7, g8, g9⟩ := hT.2.2 c h0 (by omega)
    obtain ⟨b1, b2, b3⟩ := hb c h0 (by omega)
    have ne : ∀ s', Fr (fun q => q = mc + 2) s s' → IsD s' d st mc ∧ IsMc s' mc ∧ WdR s' mc W ∧ TxR s' t nc nm cd mk len cl := by
      intro s' hf
      have q0 : ∀ q, q = t ∨ q = t + 1 ∨ q = t + 2 → ¬ q = mc + 2 := by
        intro q hq e
        have h21 : sT s q = 21 := by rw [e]; exact hM.2.2.2.1
        rcases hq with hq | hq | hq
        · rw [hq, hx.1.1] at h21; omega
        · rw [hq, hx.1.2.1.2.1] at h21; omega
        · rw [hq, hx.1.2.2.2.1] at h21; omega
      exact ⟨hD.st hf.1, hM.st hf.1, hWd.fr hf (by omega), hx.fr hf (q0 _ (Or.inl rfl)) (q0 _ (Or.inr (Or.inl rfl))) (q0 _ (Or.inr (Or.inr rfl)))⟩
    obtain ⟨s1, q1, q2⟩ := s_ansS (what := 4) (f := T.2.2.2.2 c) hT.1 ⟨h0, by omega, by omega, by omega⟩ hcl hl ⟨by omega, by rw [show c * 6 + 4 + 1 = c * 6 + 5 by omega]; omega, by rw [show c * 6 + 4 + 1 = c * 6 + 5 by omega]; omega⟩ (by rw [show c * 6 + 4 + 1 = c * 6 + 5 by omega]; exact g9) hW hM hWd hx
    obtain ⟨d1, d2, d3, d4⟩ := ne s1 q2
    show ∃ s', b_Desk_leftOn_129 _ _ _ _ _ _ = _ ∧ _
    unfold b_Desk_leftOn_129
    rw [if_pos hx.1.1, hx.2.1.2, if_pos (plt (by omega)), if_pos hD.1, hD.2.1.2.1, if_pos hM.1, nv4, q1, Option.bind_some]
    simp only []
    have hbr : r64 (brk (T.2.2.2.2 c W)) ∧ (brk (T.2.2.2.2 c W) = 1 ↔ T.2.2.2.2 c W = some 1) := by
      cases hf : T.2.2.2.2 c W with
      | none => exact ⟨by show r64 (-9000000000000000000); omega, by show (-9000000000000000000 : Int) = 1 ↔ _; simp⟩
      | some z =>
        have := b1 W z hf
        refine ⟨?_, ?_⟩
        · show r64 z
          omega
        · show z = 1 ↔ some z = some 1
          simp
    unfold leftL
    by_cases ht : T.2.2.2.2 c W = some 1
    · rw [if_pos (by rw [lw1, nv0, wc_eq hbr.1 (by omega)]; exact hbr.2.mpr ht), if_pos ht]
      have tm := d4.2.2.2 (c * 6) (by omega)
      rw [g1] at tm
      rw [if_pos d4.1.1, nv6, nv0, v_mul, v_add, Int.add_zero, d4.1.2.2.1, d4.1.2.2.2.1, d4.1.2.2.2.2, if_pos ⟨rfl, v_inA (by omega) (by omega)⟩, v_ix (by omega), tm, nv1]
      by_cases hk : T.1 c = 1
      · rw [if_pos (peq hk), if_pos hk]
        exact ⟨s1, rfl, q2⟩
      · rw [if_neg (pne (by omega)), if_neg hk, if_pos d1.1, d1.2.1.2.1, if_pos d2.1]
        obtain ⟨s2, p1, p2⟩ := s_ansS (what := 2) (f := T.2.2.1 c) hT.1 ⟨h0, by omega, by omega, by omega⟩ hcl hl ⟨by omega, by rw [show c * 6 + 2 + 1 = c * 6 + 3 by omega]; omega, by rw [show c * 6 + 2 + 1 = c * 6 + 3 by omega]; omega⟩ (by rw [show c * 6 + 2 + 1 = c * 6 + 3 by omega]; exact g7) hW d2 d3 d4
        obtain ⟨e1, e2, e3, e4⟩ := ne s2 (q2.tr p2)
        rw [nv2, p1, Option.bind_some]
        simp only [wBrk]
        cases hf : T.2.2.1 c W with
        | none =>
          rw [if_pos (show lg_cmp (w (brk none)) (w (-9000000000000000000)) = v 0 by rw [wc_eq (by show r64 (-9000000000000000000); omega) (by omega)]; rfl), v_add]
          obtain ⟨s', r1, r2⟩ := ih n (c + 1) l s2 (by omega) (by omega) (by omega) hl0 e1 e2 e3 e4
          exact ⟨s', r1, (q2.tr p2).tr r2⟩
        | some z =>
          have hz := b2 W hW z hf
          rw [if_neg (show ¬ lg_cmp (w (brk (some z))) (w (-9000000000000000000)) = v 0 by rw [wc_eq (by show r64 z; omega) (by omega)]; show ¬ z = _; omega), v_add]
          obtain ⟨s', r1, r2⟩ := ih n (c + 1) (max 0 (min 64 z)) s2 (by omega) (by omega) (by omega) (by omega) e1 e2 e3 e4
          refine ⟨s', ?_, (q2.tr p2).tr r2⟩
          rw [show brk (some z) = z from rfl]
          simp (disch := first | omega | (split <;> omega)) only [lw64, lw0, w_lt, wif]
          rw [show (if (if z < 64 then z else 64) < 0 then 0 else if z < 64 then z else 64) = max 0 (min 64 z) by split <;> split <;> omega]
          exact r1
    · rw [if_neg (by rw [lw1, nv0, wc_eq hbr.1 (by omega)]; exact fun e => ht (hbr.2.mp e)), if_neg ht, nv1, v_add]
      obtain ⟨s', r1, r2⟩ := ih n (c + 1) l s1 (by omega) (by omega) (by omega) hl0 d1 d2 d3 d4
      exact ⟨s', r1, q2.tr r2⟩
