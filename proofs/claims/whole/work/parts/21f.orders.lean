/-! ORDERS, on the reference: sums -/
theorem insA_R {A : MA} (h : A 0 19 ≠ 0) : insA A = insR true A := by
  funext z
  show insM (decide (A 0 19 ≠ 0)) (opM A z) (agM A z) = insM true (A 11 z) (A 12 z)
  unfold opM agM
  rw [if_neg h, if_neg h, decide_eq_true h]
/-- what reckoning a sum touches -/
abbrev scrE : Nat → Int → Prop := fun j z => scrM j z ∨ (j = 0 ∧ z = 53)
/-- the words of orders -/
def OwM (A : MA) (P : PG) (W : Int → Int) : Prop := (∀ op : Int, 1 ≤ op ∧ op ≤ 4 → A 19 op = W (op - 1)) ∧ (∀ p : Int, 0 ≤ p ∧ p < 8 → freeP P p = W (4 + p) ∧ P 4 p = W (12 + p))
/-- the text of orders -/
def OtM (A : MA) (CL : List CLS) : Prop := A 0 20 = CL.length ∧ ∃ len : Int, CodO (A 11) (A 12) true len [] ∧ len ≤ 400 ∧ ClsLO (A 26) (insR true A) CL len
theorem OtM.fr {A B : MA} {CL : List CLS} {F : Nat → Int → Prop} (h : OtM A CL) (ha : AF F A B) (hF : ∀ j z, j = 11 ∨ j = 12 ∨ j = 26 ∨ (j = 0 ∧ z = 20) → ¬ F j z) : OtM B CL := by
  obtain ⟨h1, len, h2, h3, h4⟩ := h
  have r11 := ha.row (j := 11) (fun z => hF 11 z (Or.inl rfl))
  have r12 := ha.row (j := 12) (fun z => hF 12 z (Or.inr (Or.inl rfl)))
  have r26 := ha.row (j := 26) (fun z => hF 26 z (Or.inr (Or.inr (Or.inl rfl))))
  refine ⟨by rw [ha 0 20 (hF 0 20 (Or.inr (Or.inr (Or.inr ⟨rfl, rfl⟩))))]; exact h1, len, by rw [r11, r12]; exact h2, h3, ?_⟩
  have e : insR true B = insR true A := by
    funext z
    unfold insR
    rw [r11, r12]
  rw [r26, e]
  exact h4
section OSM
variable {s s0 : AS} {A A0 : MA} {P : PG} {W : Int → Int} {CL : List CLS} {f : SEM} {i j a b : Int}
/-- a sum that is there, none broken ahead of it -/
theorem m_oSum (h : MR s 78 A) (hK : PgK P) (hP : PgM (A 2) P) (h19 : A 0 19 = 0) (hOw : OwM A P W) (hW : ∀ z, 0 ≤ z → z < 20 → stB (W z)) {len : Int} (hC : CodO (A 11) (A 12) true len [] ∧ len ≤ 400) (hi : 0 ≤ i ∧ i + 1 < 96) (ha : A 26 i = a ∧ A 26 (i + 1) = b) (hab : 0 ≤ a ∧ b ≤ len) (hS : Seg (insR true A) a b f) (h53 : A 0 53 = 0) :
    ∃ s' A', MR s' 78 A' ∧ AF scrE A A' ∧ Fr (inM 78) s s' ∧ (match f W with
      | none => (∃ y, f_M_sumOf s 78 (v i) = some (y, s')) ∧ A' 0 53 = 1
      | some z => f_M_sumOf s 78 (v i) = some (v z, s') ∧ A' 0 53 = 0) := by
  have hlt := hS.1
  have k1 := h.s0 (x := 1) (k := 19) (z := 19) rfl (by decide)
  have a1 : AF (fun j z => j = 0 ∧ z = 19) A (pu A 0 19 1) := AF.pu ⟨rfl, rfl⟩
  have e19 : pu A 0 19 1 0 19 = 1 := pu_eq _ _ _ _
  have n19 : pu A 0 19 1 0 19 ≠ 0 := by rw [e19]; decide
  have r11 := a1.row (j := 11) (fun z => by omega)
  have r12 := a1.row (j := 12) (fun z => by omega)
  have r2 := a1.row (j := 2) (fun z => by omega)
  have r18 := a1.row (j := 19) (fun z => by omega)
  have eI : insA (pu A 0 19 1) = insR true A := by
    rw [insA_R n19]
    funext z
    unfold insR
    rw [r11, r12]
  have hop : ∀ z, 0 ≤ z → z < b → opOK (pu A 0 19 1) z := fun z z0 z1 => by
    obtain ⟨d1, d2, d3, d4⟩ := hC.1 z z0 (by omega)
    have o1 : opM (pu A 0 19 1) z = A 11 z := by unfold opM; rw [if_neg n19, r11]
    have o2 : agM (pu A 0 19 1) z = A 12 z := by unfold agM; rw [if_neg n19, r12]
    unfold opOK
    rw [o1, o2]
    refine ⟨d1, d2, fun e => ?_, fun e => ?_⟩
    · rcases d3 e with g | ⟨g, -⟩ | ⟨-, g⟩
      · exact Or.inl g
      · cases g
      · exact Or.inr (Or.inr ⟨n19, g⟩)
    · rcases d4 e with g | ⟨y, hy, -⟩
      · exact g
      · cases hy
  obtain ⟨s2, A2, q1, q2, q3, q4, q5⟩ := m_reckonAll (P := P) (W := W) (a := a) (b := b) (f := f) k1 hK (by rw [r2]; exact hP) ⟨fun e => absurd e n19, fun _ => ⟨fun op ho => by rw [r18]; exact hOw.1 op ho, hOw.2⟩⟩ (by omega) hop (fun e => absurd e n19) (by rw [e19]; omega) hW (by rw [eI]; exact hS)
  have k3 := q2.s0 (x := 0) (k := 19) (z := 19) rfl (by decide)
  have e37 : sI (setI s2 78 19 (v 0)) 78 37 = v (A2 0 37) := by rw [k3.i37, pu_ne _ _ _ _ (by decide)]
  have k4 := k3.s0 (x := A2 0 37) (k := 53) (z := 53) rfl (by decide)
  have hA : AF scrE A (pu (pu A2 0 19 0) 0 53 (A2 0 37)) := fun j z hn => by
    by_cases c53 : j = 0 ∧ z = 53
    · exact absurd (Or.inr c53) hn
    rw [pu_ne _ _ _ _ c53]
    by_cases c19 : j = 0 ∧ z = 19
    · rw [c19.1, c19.2, pu_eq, h19]
    · rw [pu_ne _ _ _ _ c19, q3 j z (fun e => hn (Or.inl e)), a1 j z c19]
  have i0 := h.a49 i (by omega)
  have i1 := h.a49 (i + 1) (by omega)
  rw [ha.1] at i0
  rw [ha.2] at i1
  have key : f_M_sumOf s 78 (v i) = (if sT s2 78 = 13 ∧ (v (A2 0 37) = v 0 ∨ v (A2 0 37) = v 1) then some ((w (A2 28 38)).toInt32, setI (setI s2 78 19 (v 0)) 78 53 (v (A2 0 37))) else none) := by
    have j0 : sI (setI s 78 19 (v 1)) (78 + 26) i.toNat = v a := by rw [sI_setI, if_neg (by omega)]; exact i0
    have j1 : sI (setI s 78 19 (v 1)) (78 + 26) (i + 1).toNat = v b := by rw [sI_setI, if_neg (by omega)]; exact i1
    unfold f_M_sumOf
    rw [nv0, nv1, v_neg, v_add, if_pos h.t, h.i53, h53, if_pos rfl, h.r49, h.t49, h.n49, if_pos ⟨rfl, v_inA (by omega) (by omega)⟩, if_pos ⟨rfl, v_inA (by omega) (by omega)⟩, v_ix (by omega), v_ix (by omega), i0, i1, j0, j1, if_neg (pne (by omega)), if_pos ⟨h.t, Or.inr rfl⟩, q1, Option.bind_some, if_pos (show sT s2 78 = 13 ∧ (v 0 = v 0 ∨ v 0 = v 1) from ⟨q2.t, Or.inl rfl⟩), if_pos q2.t, e37, q2.i38]
  refine ⟨_, _, k4, hA, (((Fr.si (by omega)).tr q4).tr (Fr.si (by omega))).tr (Fr.si (by omega)), ?_⟩
  cases hf : f W with
  | none =>
    rw [hf] at q5
    have q5' : A2 0 37 = 1 := q5
    refine ⟨⟨(w (A2 28 38)).toInt32, ?_⟩, by rw [pu_eq]; exact q5'⟩
    rw [key, q5', if_pos ⟨q2.t, Or.inr rfl⟩]
  | some z =>
    rw [hf] at q5
    obtain ⟨q6, q7⟩ : A2 0 37 = 0 ∧ A2 28 38 = z := q5
    refine ⟨?_, by rw [pu_eq]; exact q6⟩
    rw [key, q6, if_pos ⟨q2.t, Or.inl rfl⟩, q7, w_v]
/-- one is broken already -/
theorem m_oSumB (h : MR s 78 A) (h53 : A 0 53 = 1) : f_M_sumOf s 78 (v i) = some (v (-1), s) := by
  unfold f_M_sumOf
  rw [nv0, nv1, v_neg, if_pos h.t, h.i53, h53, if_neg (show ¬ v 1 = v 0 by decide)]
/-- none is there -/
theorem m_oSumN (h : MR s 78 A) (h53 : A 0 53 = 0) (hi : 0 ≤ i ∧ i + 1 < 96) (ha : A 26 i = A 26 (i + 1)) : f_M_sumOf s 78 (v i) = some (v (-1), s) := by
  have i0 := h.a49 i (by omega)
  have i1 := h.a49 (i + 1) (by omega)
  rw [ha] at i0
  unfold f_M_sumOf
  rw [nv0, nv1, v_neg, v_add, if_pos h.t, h.i53, h53, if_pos rfl, h.r49, h.t49, h.n49, if_pos ⟨rfl, v_inA (by omega) (by omega)⟩, if_pos ⟨rfl, v_inA (by omega) (by omega)⟩, v_ix (by omega), v_ix (by omega), i0, i1, if_pos rfl]
end OSM
