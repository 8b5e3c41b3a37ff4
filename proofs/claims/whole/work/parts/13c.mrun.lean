/-! THE STACK MACHINE: the reference runs it -/
theorem m_reckon {s : AS} {m : Nat} {A : MA} (h : MR s m A) {op x y : Int} (ho : 20 ≤ op ∧ op ≤ 27) (hx : stB x) (hy : stB y) (hb0 : A 0 37 = 0) :
    ∃ s' e z, f_M_reckon s m (v op) (w x) (w y) = some (w z, s') ∧ MR s' m (pu A 0 37 e) ∧ Fr (inM m) s s' ∧ r64 z ∧ ((joinR (op - 18) x y = none ∧ e = 1) ∨ (joinR (op - 18) x y = some z ∧ e = 0)) := by
  have hm := mul_bound hx hy
  have ht := tdiv_bound x y hx
  have hr := tmod_bound x y hx
  have b1 := @bi_r (x < y) _
  have b2 := @bi_r (y < x) _
  have b3 := @bi_r (x = y) _
  have h0 : MR s m (pu A 0 37 0) := by rw [← hb0, pu_same]; exact h
  have w1 : ∀ e : Int, MR (setI s m 37 (v e)) m (pu A 0 37 e) := fun e => h.s0 (k := 37) (z := 37) rfl (by decide)
  have wf : ∀ e : Int, Fr (inM m) s (setI s m 37 (v e)) := fun e => Fr.si ⟨by omega, by omega⟩
  have g37 : ∀ e : Int, sI (setI s m 37 (v e)) m 37 = v e := fun e => by rw [sI_setI, if_pos ⟨rfl, rfl⟩]
  unfold f_M_reckon
  simp (disch := omega) only [show nI 20 = v 20 from rfl, show nI 21 = v 21 from rfl, show nI 22 = v 22 from rfl, nv23, nv24, nv25, nv26, v_inj]
  by_cases e2 : op = 20
  · rw [if_pos e2, w_add]
    exact ⟨s, 0, _, rfl, h0, Fr.rf _ _, by omega, Or.inr ⟨by unfold joinR; rw [if_pos (by omega)], rfl⟩⟩
  rw [if_neg e2]
  by_cases e3 : op = 21
  · rw [if_pos e3, w_sub]
    exact ⟨s, 0, _, rfl, h0, Fr.rf _ _, by omega, Or.inr ⟨by unfold joinR; rw [if_neg (by omega), if_pos (by omega)], rfl⟩⟩
  rw [if_neg e3]
  by_cases e4 : op = 22
  · rw [if_pos e4, w_mul]
    exact ⟨s, 0, _, rfl, h0, Fr.rf _ _, by omega, Or.inr ⟨by unfold joinR; rw [if_neg (by omega), if_neg (by omega), if_pos (by omega)], rfl⟩⟩
  rw [if_neg e4]
  by_cases e5 : op = 23
  · rw [if_pos e5]
    simp (disch := omega) only [nv0, nv1, lw0, wc_eq, vif]
    unfold b_M_reckon_72
    by_cases ey : y = 0
    · rw [if_pos ey, if_pos ⟨h.t, Or.inr nv1.symm⟩, if_pos h.t, g37, nv0, if_neg (by decide)]
      exact ⟨_, 1, 0, rfl, w1 1, wf 1, by omega, Or.inl ⟨by unfold joinR; rw [if_neg (by omega), if_neg (by omega), if_neg (by omega), if_pos (by omega), if_pos ey], rfl⟩⟩
    · rw [if_neg ey, if_pos ⟨h.t, Or.inl nv0.symm⟩, if_pos h.t, g37, nv0, if_pos rfl, if_pos (by rw [lw0, w_inj (by omega) (by omega)]; exact ey), w_div (by omega) (by omega)]
      exact ⟨_, 0, _, rfl, w1 0, wf 0, by omega, Or.inr ⟨by unfold joinR; rw [if_neg (by omega), if_neg (by omega), if_neg (by omega), if_pos (by omega), if_neg ey], rfl⟩⟩
  rw [if_neg e5]
  by_cases e6 : op = 24
  · rw [if_pos e6]
    simp (disch := omega) only [nv0, nv1, lw0, wc_eq, vif]
    unfold b_M_reckon_104
    by_cases ey : y = 0
    · rw [if_pos ey, if_pos ⟨h.t, Or.inr nv1.symm⟩, if_pos h.t, g37, nv0, if_neg (by decide)]
      exact ⟨_, 1, 0, rfl, w1 1, wf 1, by omega, Or.inl ⟨by unfold joinR; rw [if_neg (by omega), if_neg (by omega), if_neg (by omega), if_neg (by omega), if_pos (by omega), if_pos ey], rfl⟩⟩
    · rw [if_neg ey, if_pos ⟨h.t, Or.inl nv0.symm⟩, if_pos h.t, g37, nv0, if_pos rfl, if_pos (by rw [lw0, w_inj (by omega) (by omega)]; exact ey), w_div (by omega) (by omega), w_mul, w_sub]
      exact ⟨_, 0, _, rfl, w1 0, wf 0, by omega, Or.inr ⟨by unfold joinR; rw [if_neg (by omega), if_neg (by omega), if_neg (by omega), if_neg (by omega), if_pos (by omega), if_neg ey], rfl⟩⟩
  rw [if_neg e6]
  by_cases e7 : op = 25
  · rw [if_pos e7]
    simp (disch := omega) only [nv0, lw1, lw0, wc_lt, wif]
    exact ⟨s, 0, _, rfl, h0, Fr.rf _ _, by omega, Or.inr ⟨by unfold joinR; rw [if_neg (by omega), if_neg (by omega), if_neg (by omega), if_neg (by omega), if_neg (by omega), if_pos (by omega)]; rfl, rfl⟩⟩
  rw [if_neg e7]
  by_cases e8 : op = 26
  · rw [if_pos e8]
    simp (disch := omega) only [nv0, lw1, lw0, wc_gt, wif]
    exact ⟨s, 0, _, rfl, h0, Fr.rf _ _, by omega, Or.inr ⟨by unfold joinR; rw [if_neg (by omega), if_neg (by omega), if_neg (by omega), if_neg (by omega), if_neg (by omega), if_neg (by omega), if_pos (by omega)]; rfl, rfl⟩⟩
  rw [if_neg e8]
  simp (disch := omega) only [nv0, lw1, lw0, wc_eq, wif]
  exact ⟨s, 0, _, rfl, h0, Fr.rf _ _, by omega, Or.inr ⟨by unfold joinR; rw [if_neg (by omega), if_neg (by omega), if_neg (by omega), if_neg (by omega), if_neg (by omega), if_neg (by omega), if_neg (by omega)]; rfl, rfl⟩⟩
/-- the reference's instructions by the common numbers -/
def insM (ordered : Bool) (op arg : Int) : Int × Int :=
  if op = 0 then (0, arg) else if op < 20 then (1, if ordered then (if op < 5 then op - 1 else if op = 5 then 4 + arg else 12 + arg) else op - 1) else
  if op < 28 then (op - 18, arg) else if op = 28 then (10, arg) else if op = 29 then (11, arg) else (12, arg)
def codM (A : MA) (z : Int) : Int × Int := if A 0 19 = 0 then insM false (A 2 (A 0 33 + 98 + 2 * z)) (A 2 (A 0 33 + 98 + 2 * z + 1)) else insM true (A 11 z) (A 12 z)
def opM (A : MA) (z : Int) : Int := if A 0 19 = 0 then A 2 (A 0 33 + 98 + 2 * z) else A 11 z
def agM (A : MA) (z : Int) : Int := if A 0 19 = 0 then A 2 (A 0 33 + 98 + 2 * z + 1) else A 12 z
def insA (A : MA) (z : Int) : Int × Int := insM (A 0 19 ≠ 0) (opM A z) (agM A z)
/-- what its words are -/
def wrdM (A : MA) (P : PG) (W : Int → Int) : Prop := (A 0 19 = 0 → ∀ op : Int, 1 ≤ op ∧ op ≤ 7 → A 18 op = W (op - 1)) ∧ (A 0 19 ≠ 0 → (∀ op : Int, 1 ≤ op ∧ op ≤ 4 → A 19 op = W (op - 1)) ∧ (∀ p : Int, 0 ≤ p ∧ p < 8 → freeP P p = W (4 + p) ∧ P 4 p = W (12 + p)))
def opOK (A : MA) (z : Int) : Prop := (0 ≤ opM A z ∧ opM A z ≤ 30) ∧ (0 ≤ agM A z ∧ agM A z ≤ 1000) ∧ (opM A z < 20 → opM A z = 0 ∨ (A 0 19 = 0 ∧ opM A z ≤ 7) ∨ (A 0 19 ≠ 0 ∧ opM A z ≤ 6 ∧ (5 ≤ opM A z → agM A z < 8))) ∧ (28 < opM A z → z < agM A z)
def StkM (g : Int → Int) : List Int → Prop
  | [] => True
  | x :: r => g r.length = x ∧ StkM g r
theorem StkM.fr {g g' : Int → Int} : ∀ {st : List Int}, StkM g st → (∀ j : Nat, j < st.length → g' j = g j) → StkM g' st := by
  intro st
  induction st with
  | nil => intro _ _; trivial
  | cons x r ih =>
    intro h k
    exact ⟨by rw [k r.length (by simp)]; exact h.1, ih h.2 (fun j hj => k j (by simp; omega))⟩
theorem stkm_push {A : MA} {x : Int} {st : List Int} (h : StkM (A 20) st) {k : Int} (hk : k = st.length) : StkM (pu A 20 k x 20) (x :: st) := by
  subst hk
  exact ⟨pu_eq _ _ _ _, h.fr (fun j hj => pu_ne _ _ _ _ (by omega))⟩
abbrev scrM : Nat → Int → Prop := fun j z => j = 20 ∨ (j = 0 ∧ z = 37) ∨ (j = 28 ∧ z = 38)
theorem StkM.last {g : Int → Int} : ∀ {st : List Int}, StkM g st → 0 < st.length → g 0 = st.getLastD 0 := by
  intro st
  induction st with
  | nil => intro _ h; exact absurd h (by decide)
  | cons x r ih =>
    intro h _
    cases r with
    | nil => exact h.1
    | cons y r' =>
      rw [ih h.2 (by simp)]
      simp [List.getLastD]
