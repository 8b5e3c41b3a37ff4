/-! THE REFERENCE: bytes of a cell; pieces; a record is put -/
abbrev scrQ : Nat → Int → Prop := fun j z => j = 2 ∧ 5 ≤ z ∧ z < 821
theorem scrQ_P {A B : MA} (h : AF scrQ A B) : AF scrP A B := h.mo (fun j z hj => Or.inr (Or.inr hj))
section MB
variable {m : Nat} {P : PG}
theorem m_copyL {a skip from_ n : Int} (ha : 0 ≤ a ∧ a < 128) (hs : a % 16 < 12) (hb : (0 ≤ from_ ∧ from_ + n ≤ 200) ∧ 0 ≤ skip) : ∀ (k nn : Nat) (i : Int) (s : AS) (A A0 : MA), i + k = n → 0 ≤ i → k < nn → MR s m A → AF scrQ A0 A → P 0 a ≠ 0 → (0 ≤ P 1 a ∧ P 1 a + skip + n ≤ 64) → PgM (A 2) (wrB P (a / 16 * 64 + P 1 a + skip) (fun z => A0 22 (from_ + z)) i) →
    ∃ s' A', l_M_copyTo_3 nn m (v a) (v skip) (v from_) (v n) (v i) s = some s' ∧ MR s' m A' ∧ PgM (A' 2) (wrB P (a / 16 * 64 + P 1 a + skip) (fun z => A0 22 (from_ + z)) n) ∧ AF scrQ A0 A' ∧ Fr (inM m) s s' := by
  intro k
  induction k with
  | zero =>
    intro nn i s A A0 hi h0 hn h hA hk hp hP
    obtain ⟨nn, rfl⟩ : ∃ m, nn = m + 1 := ⟨nn - 1, by omega⟩
    refine ⟨s, A, ?_, h, by rw [show n = i by omega]; exact hP, hA, Fr.rf _ _⟩
    show b_M_copyTo_3 _ _ _ _ _ _ _ _ = _
    unfold b_M_copyTo_3
    rw [if_neg (nlt (by omega))]
  | succ k ih =>
    intro nn i s A A0 hi h0 hn h hA hk hp hP
    obtain ⟨nn, rfl⟩ : ∃ m, nn = m + 1 := ⟨nn - 1, by omega⟩
    have hbt := m_byteAt (k := skip + i) h hP ha hs (by rw [wrB_row (by decide)]; exact hk)
    rw [wrB_row (by decide)] at hbt
    have r := h.a43 (from_ + i) (by omega)
    rw [hA 22 _ (by omega)] at r
    have hw := h.si 2 (by decide) (by decide) (z := 5 + 102 * (a / 16) + 38 + P 1 a + (skip + i)) (x := A0 22 (from_ + i)) ⟨by omega, by show 5 + 102 * (a / 16) + 38 + P 1 a + (skip + i) < 6221; omega⟩
    have hP' := hP.s5 (p := a / 16) (k := P 1 a + (skip + i)) (x := A0 22 (from_ + i)) (by omega) (by omega)
    rw [show a / 16 * 64 + (P 1 a + (skip + i)) = a / 16 * 64 + P 1 a + skip + i by omega, wrB_s h0, show 5 + 102 * (a / 16) + 38 + (P 1 a + (skip + i)) = 5 + 102 * (a / 16) + 38 + P 1 a + (skip + i) by omega, ← pu_b] at hP'
    obtain ⟨s', A', q1, q2, q3, q4, q5⟩ := ih nn (i + 1) _ _ A0 (by omega) (by omega) (by omega) hw (hA.tr (AF.pu ⟨rfl, by omega, by omega⟩)) hk hp hP'
    refine ⟨s', A', ?_, q2, q3, q4, (inM_s (by decide)).tr q5⟩
    show b_M_copyTo_3 _ _ _ _ _ _ _ _ = _
    unfold b_M_copyTo_3
    rw [if_pos (plt (by omega)), if_pos h.t, v_add, hbt, Option.bind_some, h.r43, h.t43, h.n43, v_add, if_pos ⟨rfl, v_inA (by omega) (by omega)⟩, h.r3, h.t3, h.n3, if_pos ⟨rfl, v_inA (by omega) (by omega)⟩, v_ix (by omega), v_ix (by omega), r, nv1, v_add]
    exact q1
theorem m_copyTo {s : AS} {A : MA} {a skip from_ n : Int} (h : MR s m A) (hP : PgM (A 2) P) (ha : 0 ≤ a ∧ a < 128) (hs : a % 16 < 12) (hb : (0 ≤ from_ ∧ from_ + n ≤ 200) ∧ 0 ≤ skip ∧ 0 ≤ n) (hk : P 0 a ≠ 0) (hp : 0 ≤ P 1 a ∧ P 1 a + skip + n ≤ 64) :
    ∃ s' A', f_M_copyTo s m (v a) (v skip) (v from_) (v n) = some s' ∧ MR s' m A' ∧ PgM (A' 2) (wrB P (a / 16 * 64 + P 1 a + skip) (fun z => A 22 (from_ + z)) n) ∧ AF scrQ A A' ∧ Fr (inM m) s s' :=
  m_copyL ha hs ⟨hb.1, hb.2.1⟩ n.toNat fuel 0 s A A (by omega) (by omega) (by unfold fuel; omega) h (AF.rf _ _) hk hp (by rw [wrB_0]; exact hP)
theorem m_point {s : AS} {A : MA} {a to_ : Int} (h : MR s m A) (hP : PgM (A 2) P) (ha : 0 ≤ a ∧ a < 128) (hs : a % 16 < 12) (ht : r32 to_) (hk : P 0 a ≠ 0) (hp : 0 ≤ P 1 a ∧ P 1 a + 2 ≤ 64) :
    ∃ s' A', f_M_point s m (v a) (v to_) = some s' ∧ MR s' m A' ∧ PgM (A' 2) (wrB P (a / 16 * 64 + P 1 a) (fun z => if z = 0 then (if to_ = -1 then 255 else 0) else (if to_ = -1 then 255 else to_)) 2) ∧ AF scrQ A A' ∧ Fr (inM m) s s' := by
  have e0 := m_byteAt (k := 0) h hP ha hs hk
  have w0 := h.si 2 (by decide) (by decide) (z := 5 + 102 * (a / 16) + 38 + P 1 a + 0) (x := if to_ = -1 then 255 else 0) ⟨by omega, by show 5 + 102 * (a / 16) + 38 + P 1 a + 0 < 6221; omega⟩
  have hP0 := hP.s5 (p := a / 16) (k := P 1 a + 0) (x := if to_ = -1 then 255 else 0) (by omega) (by omega)
  rw [show 5 + 102 * (a / 16) + 38 + (P 1 a + 0) = 5 + 102 * (a / 16) + 38 + P 1 a + 0 by omega, ← pu_b] at hP0
  have e1 := m_byteAt (k := 1) w0 hP0 ha hs (by rw [pu_row _ _ _ _ (by decide)]; exact hk)
  rw [pu_row _ _ _ _ (by decide)] at e1
  have w1 := w0.si 2 (by decide) (by decide) (z := 5 + 102 * (a / 16) + 38 + P 1 a + 1) (x := if to_ = -1 then 255 else to_) ⟨by omega, by show 5 + 102 * (a / 16) + 38 + P 1 a + 1 < 6221; omega⟩
  have hP1 := hP0.s5 (p := a / 16) (k := P 1 a + 1) (x := if to_ = -1 then 255 else to_) (by omega) (by omega)
  rw [show 5 + 102 * (a / 16) + 38 + (P 1 a + 1) = 5 + 102 * (a / 16) + 38 + P 1 a + 1 by omega, ← pu_b] at hP1
  refine ⟨_, _, ?_, w1, ?_, (AF.pu ⟨rfl, by omega, by omega⟩).tr (AF.pu ⟨rfl, by omega, by omega⟩), (inM_s (by decide)).tr (inM_s (by decide))⟩
  · unfold f_M_point b_M_point_22
    rw [if_pos h.t, nv0, nv1, v_neg, nv255, e0, Option.bind_some, h.r3, h.t3, h.n3, if_pos ⟨rfl, v_inA (by omega) (by omega)⟩, if_pos h.t, v_ix (a := 5 + 102 * (a / 16) + 38 + P 1 a + 0) (by omega)]
    have hc : ∀ x y : Int, (if v to_ = v (-1) then v x else v y) = v (if to_ = -1 then x else y) := fun x y => by
      by_cases e : to_ = -1
      · rw [if_pos (peq e), if_pos e]
      · rw [if_neg (pne (by omega)), if_neg e]
    rw [hc 255 0, e1, Option.bind_some, if_pos ⟨rfl, v_inA (by omega) (by omega)⟩, v_ix (a := 5 + 102 * (a / 16) + 38 + P 1 a + 1) (by omega), hc 255 to_]
  · have hx : pu (pu P 5 (a / 16 * 64 + (P 1 a + 0)) (if to_ = -1 then 255 else 0)) 5 (a / 16 * 64 + (P 1 a + 1)) (if to_ = -1 then 255 else to_) = wrB P (a / 16 * 64 + P 1 a) (fun z => if z = 0 then (if to_ = -1 then 255 else 0) else (if to_ = -1 then 255 else to_)) 2 := by
      have key : ∀ (B : Int → Int) (base : Int), pu (pu P 5 (base + 0) (B 0)) 5 (base + 1) (B 1) = wrB P base B 2 := by
        intro B base
        have s0 := wrB_s (P := P) (base := base) (B := B) (i := 0) (by omega)
        have s1 := wrB_s (P := P) (base := base) (B := B) (i := 1) (by omega)
        rw [wrB_0, show (0 : Int) + 1 = 1 by rfl] at s0
        rw [show (1 : Int) + 1 = 2 by rfl] at s1
        rw [s0]
        exact s1
      rw [← key, ← Int.add_assoc, ← Int.add_assoc]
      rfl
    rw [← hx]
    exact hP1
theorem layP_C {P : PG} {a kind len : Int} {B C : Int → Int} {j : Nat} (h : j ≠ 5) (z : Int) : layP P a kind C len j z = layP P a kind B len j z := by
  rw [← layP_wr (C := C) (B := B), wrB_row h]
/-- what was brought -/
def BrM (A : MA) (R : Int → Int) (n : Int) : Prop := A 0 44 = n ∧ ∀ z, 0 ≤ z → z < n → A 22 z = R z
theorem BrM.fr {A B : MA} {R : Int → Int} {n : Int} (h : BrM A R n) (ha : AF scrP A B) : BrM B R n := ⟨by rw [ha 0 44 (by omega)]; exact h.1, fun z z0 z1 => by rw [ha 22 z (by omega)]; exact h.2 z z0 z1⟩
theorem wrB_ext {P : PG} {base n : Int} {B C : Int → Int} (h : ∀ z, 0 ≤ z → z < n → B z = C z) : wrB P base B n = wrB P base C n := by
  funext j y
  unfold wrB
  by_cases e : j = 5 ∧ base ≤ y ∧ y < base + n
  · rw [if_pos e, if_pos e]; exact h _ (by omega) (by omega)
  · rw [if_neg e, if_neg e]
/-- a record's bytes come into a cell that has none ahead of them -/
theorem m_by1 {s : AS} {A : MA} {a kind len n : Int} {C R : Int → Int} (h : MR s m A) (hP : PgM (A 2) (layP P a kind C len)) (hI : PgI P) (hc : canL P a kind (celB (-1) R 0) len) (hf : needL P a len ≤ freeP P (a / 16)) (hb : BrM A R n) (hn : len ≤ n) :
    ∃ s' A', f_M_copyTo s m (v a) (v 0) (v 0) (v len) = some s' ∧ MR s' m A' ∧ PgM (A' 2) (layP P a kind (celB (-1) R 0) len) ∧ AF scrQ A A' ∧ Fr (inM m) s s' := by
  have hL := layP_I hI hc hf
  have k0 : layP P a kind C len 0 a = kind := by rw [layP_C (B := celB (-1) R 0) (by decide), layP_0 hI hc hf, if_pos rfl]
  have hin := hL.2.1 (a / 16) (a % 16) (by have := hc.1; omega) (by omega) (by rw [show a / 16 * 16 + a % 16 = a by omega, layP_0 hI hc hf, if_pos rfl]; have := hc.2.2.2.1; omega)
  rw [show a / 16 * 16 + a % 16 = a by omega, layP_2 hI hc hf, if_pos rfl, ← layP_C (C := C) (by decide) a] at hin
  have hl3 := (hL.1.1.2 (a / 16)).2.2.2.1
  obtain ⟨s', A', q1, q2, q3, q4, q5⟩ := m_copyTo (skip := 0) (from_ := 0) (n := len) h hP hc.1 hc.2.1.2 (by have := hc.2.2.2.2.1; omega) (by rw [k0]; have := hc.2.2.2.1; omega) (by omega)
  refine ⟨s', A', q1, q2, ?_, q4, q5⟩
  rw [Int.add_zero, wrB_ext (C := celB (-1) R 0) (fun z z0 z1 => by
    show A 22 (0 + z) = celB (-1) R 0 z
    rw [Int.zero_add, hb.2 z z0 (by omega)]
    unfold celB
    rw [if_pos rfl, Int.zero_add]), layP_wr] at q3
  exact q3
/-- the next cell's address and a record's bytes -/
theorem m_by2 {s : AS} {A : MA} {a kind len n next from_ : Int} {C R : Int → Int} (h : MR s m A) (hP : PgM (A 2) (layP P a kind C len)) (hI : PgI P) (hc : canL P a kind (celB next R from_) len) (hf : needL P a len ≤ freeP P (a / 16)) (hb : BrM A R n) (hn : (0 ≤ from_ ∧ from_ + (len - 2) ≤ n) ∧ n ≤ 200) (h2 : 2 ≤ len) (hx : 0 ≤ next ∧ next ≤ 255) :
    ∃ s1 A1 s' A', f_M_point s m (v a) (v (if next = 255 then -1 else next)) = some s1 ∧ MR s1 m A1 ∧ f_M_copyTo s1 m (v a) (v 2) (v from_) (v (len - 2)) = some s' ∧ MR s' m A' ∧ PgM (A' 2) (layP P a kind (celB next R from_) len) ∧ AF scrQ A A' ∧ Fr (inM m) s s' := by
  have hL := layP_I hI hc hf
  have k0 : layP P a kind C len 0 a = kind := by rw [layP_C (B := celB next R from_) (by decide), layP_0 hI hc hf, if_pos rfl]
  have hin := hL.2.1 (a / 16) (a % 16) (by have := hc.1; omega) (by omega) (by rw [show a / 16 * 16 + a % 16 = a by omega, layP_0 hI hc hf, if_pos rfl]; have := hc.2.2.2.1; omega)
  rw [show a / 16 * 16 + a % 16 = a by omega, layP_2 hI hc hf, if_pos rfl, ← layP_C (C := C) (by decide) a] at hin
  have hl3 := (hL.1.1.2 (a / 16)).2.2.2.1
  obtain ⟨s1, A1, q1, q2, q3, q4, q5⟩ := m_point (to_ := if next = 255 then -1 else next) h hP hc.1 hc.2.1.2 (by split <;> omega) (by rw [k0]; have := hc.2.2.2.1; omega) (by omega)
  obtain ⟨s', A', r1, r2, r3, r4, r5⟩ := m_copyTo (skip := 2) (from_ := from_) (n := len - 2) q2 q3 hc.1 hc.2.1.2 (by omega) (by rw [wrB_row (by decide), k0]; have := hc.2.2.2.1; omega) (by rw [wrB_row (by decide)]; omega)
  refine ⟨s1, A1, s', A', q1, q2, r1, r2, ?_, q4.tr r4, q5.tr r5⟩
  rw [wrB_row (by decide)] at r3
  have hcomb : wrB (wrB (layP P a kind C len) (a / 16 * 64 + layP P a kind C len 1 a) (fun z => if z = 0 then (if (if next = 255 then -1 else next) = -1 then 255 else 0) else (if (if next = 255 then -1 else next) = -1 then 255 else (if next = 255 then -1 else next))) 2) (a / 16 * 64 + layP P a kind C len 1 a + 2) (fun z => A1 22 (from_ + z)) (len - 2) = wrB (layP P a kind C len) (a / 16 * 64 + layP P a kind C len 1 a) (celB next R from_) len := by
    funext j y
    generalize a / 16 * 64 + layP P a kind C len 1 a = base
    unfold wrB celB
    rw [if_neg (show ¬ next = -1 by omega)]
    by_cases e5 : j = 5
    · by_cases eh : base + 2 ≤ y ∧ y < base + len
      · rw [if_pos ⟨e5, by omega, by omega⟩, if_pos ⟨e5, by omega, by omega⟩]
        show A1 22 (from_ + (y - (base + 2))) = if y - base = 0 then _ else if y - base = 1 then _ else _
        rw [if_neg (by omega), if_neg (by omega), q4 22 _ (by omega), hb.2 _ (by omega) (by omega), show from_ + (y - (base + 2)) = from_ + (y - base - 2) by omega]
      · rw [if_neg (by omega)]
        by_cases el : base ≤ y ∧ y < base + 2
        · rw [if_pos (c := j = 5 ∧ base ≤ y ∧ y < base + 2) ⟨e5, by omega, by omega⟩, if_pos (c := j = 5 ∧ base ≤ y ∧ y < base + len) ⟨e5, by omega, by omega⟩]
          show (if y - base = 0 then _ else _) = if y - base = 0 then _ else if y - base = 1 then _ else _
          by_cases e0 : y - base = 0
          · rw [if_pos e0, if_pos e0]
            by_cases e255 : next = 255
            · rw [if_pos e255, if_pos rfl, if_pos e255]
            · rw [if_neg e255, if_neg (by omega), if_neg e255]
          · rw [if_neg e0, if_neg e0, if_pos (c := y - base = 1) (by omega)]
            by_cases e255 : next = 255
            · rw [if_pos (c := next = 255) e255, if_pos (show (-1 : Int) = -1 from rfl), e255]
            · rw [if_neg (c := next = 255) e255, if_neg (show ¬ next = -1 by omega)]
        · rw [if_neg (by omega), if_neg (by omega)]
    · rw [if_neg (fun c => e5 c.1), if_neg (fun c => e5 c.1), if_neg (fun c => e5 c.1)]
  rw [hcomb, layP_wr] at r3
  exact r3
end MB
