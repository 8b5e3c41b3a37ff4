/-! PAGES, PURELY: squeezing -/
abbrev szZ (P : PG) (a : Int) : Int := if P 0 a = 0 then 0 else P 2 a
theorem tailZ_app {P : PG} {p : Int} : ∀ (k : Nat) (i : Int), tailZ P p (k + 1) i = tailZ P p k i + szZ P (p * 16 + (i + k)) := by
  intro k
  induction k with
  | zero =>
    intro i
    show szZ P (p * 16 + i) + 0 = 0 + szZ P (p * 16 + (i + 0))
    rw [Int.add_zero, Int.add_zero, Int.zero_add]
  | succ k ih =>
    intro i
    have h1 : tailZ P p (k + 1 + 1) i = szZ P (p * 16 + i) + tailZ P p (k + 1) (i + 1) := rfl
    have h2 : tailZ P p (k + 1) i = szZ P (p * 16 + i) + tailZ P p k (i + 1) := rfl
    rw [h1, h2, ih (i + 1), show i + 1 + (k : Int) = i + ((k + 1 : Nat) : Int) by omega]
    omega
theorem tailZ_sum {P : PG} (hs : ∀ a, P 0 a = 0 → P 2 a = 0) {p : Int} : ∀ n : Nat, tailZ P p n 0 = sumZ (fun k => P 2 (p * 16 + k)) n := by
  intro n
  induction n with
  | zero => rfl
  | succ n ih =>
    rw [tailZ_app, ih]
    simp only [sumZ]
    rw [Int.zero_add]
    congr 1
    show (if _ then _ else _) = _
    split
    · rename_i h; rw [hs _ h]
    · rfl
theorem freeP_tail {P : PG} (hs : ∀ a, P 0 a = 0 → P 2 a = 0) (p : Int) : freeP P p = 64 - 2 * P 3 p - tailZ P p (P 3 p).toNat 0 := by
  rw [tailZ_sum hs]
  rfl
theorem sqz_row {sp : Int → Int} {p : Int} {j : Nat} (h1 : j ≠ 1) (h5 : j ≠ 5) : ∀ (k : Nat) (i e : Int) (P : PG) (z : Int), sqz sp p k i e P j z = P j z := by
  intro k
  induction k with
  | zero => intro i e P z; rfl
  | succ k ih =>
    intro i e P z
    unfold sqz
    split
    · exact ih _ _ _ _
    · rw [ih, pu_row _ _ _ _ h1, wrB_row h5]
theorem sqz_1o {sp : Int → Int} {p : Int} : ∀ (k : Nat) (i e : Int) (P : PG) (z : Int), (z < p * 16 + i ∨ p * 16 + i + k ≤ z ∨ P 0 z = 0) → sqz sp p k i e P 1 z = P 1 z := by
  intro k
  induction k with
  | zero => intro i e P z _; rfl
  | succ k ih =>
    intro i e P z hz
    unfold sqz
    split
    · exact ih _ _ _ _ (by omega)
    · rename_i h0
      have hne : z ≠ p * 16 + i := by
        intro e
        subst e
        omega
      rw [ih _ _ _ _ (by rw [pu_row _ _ _ _ (by decide), wrB_row (by decide)]; omega), pu_ne _ _ _ _ (by omega), wrB_row (by decide)]
theorem sqz_1i {sp : Int → Int} {p : Int} : ∀ (k : Nat) (i e : Int) (P : PG) (j : Nat), j < k → P 0 (p * 16 + (i + j)) ≠ 0 → sqz sp p k i e P 1 (p * 16 + (i + j)) = e - tailZ P p (j + 1) i := by
  intro k
  induction k with
  | zero => intro i e P j h; omega
  | succ k ih =>
    intro i e P j hj h0
    have ht : tailZ P p (j + 1) i = szZ P (p * 16 + i) + tailZ P p j (i + 1) := rfl
    rw [ht]
    unfold sqz
    cases j with
    | zero =>
      rw [show i + ((0 : Nat) : Int) = i by omega] at h0 ⊢
      rw [if_neg h0, sqz_1o _ _ _ _ _ (by omega), pu_eq]
      show _ = e - (szZ P (p * 16 + i) + 0)
      unfold szZ
      rw [if_neg h0, Int.add_zero]
    | succ j =>
      have e1 : i + ((j + 1 : Nat) : Int) = i + 1 + j := by omega
      rw [e1] at h0 ⊢
      by_cases hc : P 0 (p * 16 + i) = 0
      · rw [if_pos hc, ih _ _ _ _ (by omega) h0]
        unfold szZ
        rw [if_pos hc, Int.zero_add]
      · rw [if_neg hc, ih _ _ _ _ (by omega) (by rw [pu_row _ _ _ _ (by decide), wrB_row (by decide)]; exact h0)]
        rw [tailZ_eq (P := pu (wrB P (p * 64 + (e - P 2 (p * 16 + i))) (fun z => sp (P 1 (p * 16 + i) + z)) (P 2 (p * 16 + i))) 1 (p * 16 + i) (e - P 2 (p * 16 + i))) (Q := P) (fun z => by rw [pu_row _ _ _ _ (by decide), wrB_row (by decide)]) (fun z => by rw [pu_row _ _ _ _ (by decide), wrB_row (by decide)])]
        unfold szZ
        rw [if_neg hc]
        omega
theorem sqz_5o {sp : Int → Int} {p : Int} : ∀ (k : Nat) (i e : Int) (P : PG) (z : Int), (∀ a, 0 ≤ P 2 a) → (z < p * 64 + (e - tailZ P p k i) ∨ p * 64 + e ≤ z) → sqz sp p k i e P 5 z = P 5 z := by
  intro k
  induction k with
  | zero => intro i e P z _ _; rfl
  | succ k ih =>
    intro i e P z hs hz
    have ht : tailZ P p (k + 1) i = szZ P (p * 16 + i) + tailZ P p k (i + 1) := rfl
    have h1 := hs (p * 16 + i)
    have h2 := tailZ_le hs p k (i + 1)
    rw [ht] at hz
    unfold szZ at hz
    unfold sqz
    by_cases hc : P 0 (p * 16 + i) = 0
    · rw [if_pos hc] at hz ⊢
      exact ih _ _ _ _ hs (by omega)
    · rw [if_neg hc] at hz ⊢
      have he : tailZ (pu (wrB P (p * 64 + (e - P 2 (p * 16 + i))) (fun z => sp (P 1 (p * 16 + i) + z)) (P 2 (p * 16 + i))) 1 (p * 16 + i) (e - P 2 (p * 16 + i))) p k (i + 1) = tailZ P p k (i + 1) := tailZ_eq (fun z => by rw [pu_row _ _ _ _ (by decide), wrB_row (by decide)]) (fun z => by rw [pu_row _ _ _ _ (by decide), wrB_row (by decide)]) _ _ _
      rw [ih _ _ _ _ (fun a => by rw [pu_row _ _ _ _ (by decide), wrB_row (by decide)]; exact hs a) (by rw [he]; omega), pu_row _ _ _ _ (by decide)]
      unfold wrB
      rw [if_neg (by omega)]
theorem sqz_5i {sp : Int → Int} {p : Int} : ∀ (k : Nat) (i e : Int) (P : PG) (j : Nat), (∀ a, 0 ≤ P 2 a) → j < k → P 0 (p * 16 + (i + j)) ≠ 0 → ∀ y : Int, 0 ≤ y → y < P 2 (p * 16 + (i + j)) → sqz sp p k i e P 5 (p * 64 + (e - tailZ P p (j + 1) i) + y) = sp (P 1 (p * 16 + (i + j)) + y) := by
  intro k
  induction k with
  | zero => intro i e P j _ h; omega
  | succ k ih =>
    intro i e P j hs hj h0 y y0 y1
    have ht : tailZ P p (j + 1) i = szZ P (p * 16 + i) + tailZ P p j (i + 1) := rfl
    have h1 := hs (p * 16 + i)
    rw [ht]
    unfold sqz
    have he : ∀ n, tailZ (pu (wrB P (p * 64 + (e - P 2 (p * 16 + i))) (fun z => sp (P 1 (p * 16 + i) + z)) (P 2 (p * 16 + i))) 1 (p * 16 + i) (e - P 2 (p * 16 + i))) p n (i + 1) = tailZ P p n (i + 1) := fun n => tailZ_eq (fun z => by rw [pu_row _ _ _ _ (by decide), wrB_row (by decide)]) (fun z => by rw [pu_row _ _ _ _ (by decide), wrB_row (by decide)]) _ _ _
    cases j with
    | zero =>
      rw [show i + ((0 : Nat) : Int) = i by omega] at h0 y1 ⊢
      rw [if_neg h0, sqz_5o _ _ _ _ _ (fun a => by rw [pu_row _ _ _ _ (by decide), wrB_row (by decide)]; exact hs a) (by
        right
        unfold szZ
        rw [if_neg h0]
        show _ ≤ p * 64 + (e - (P 2 (p * 16 + i) + 0)) + y
        omega), pu_row _ _ _ _ (by decide)]
      unfold wrB szZ
      rw [if_neg h0]
      rw [show tailZ P p 0 (i + 1) = 0 from rfl, if_pos ⟨rfl, by omega, by omega⟩]
      congr 1
      omega
    | succ j =>
      have e1 : i + ((j + 1 : Nat) : Int) = i + 1 + j := by omega
      rw [e1] at h0 y1 ⊢
      by_cases hc : P 0 (p * 16 + i) = 0
      · have hz : szZ P (p * 16 + i) = 0 := if_pos hc
        rw [if_pos hc, hz, Int.zero_add]
        exact ih _ _ _ _ hs (by omega) h0 y y0 y1
      · have hz : szZ P (p * 16 + i) = P 2 (p * 16 + i) := if_neg hc
        rw [if_neg hc, hz]
        have := ih (i + 1) (e - P 2 (p * 16 + i)) (pu (wrB P (p * 64 + (e - P 2 (p * 16 + i))) (fun z => sp (P 1 (p * 16 + i) + z)) (P 2 (p * 16 + i))) 1 (p * 16 + i) (e - P 2 (p * 16 + i))) j (fun a => by rw [pu_row _ _ _ _ (by decide), wrB_row (by decide)]; exact hs a) (by omega) (by rw [pu_row _ _ _ _ (by decide), wrB_row (by decide)]; exact h0) y y0 (by rw [pu_row _ _ _ _ (by decide), wrB_row (by decide)]; exact y1)
        rw [he, pu_ne _ _ _ _ (by omega), wrB_row (by decide)] at this
        rw [← this]
        congr 1
        omega
/-- what a squeezed page is -/
theorem sq_row {P : PG} {p : Int} {j : Nat} (h1 : j ≠ 1) (h5 : j ≠ 5) (z : Int) : squeezeP P p j z = P j z := sqz_row h1 h5 _ _ _ _ _
theorem sq_1o {P : PG} {p z : Int} (h : 0 ≤ P 3 p) (hz : z < p * 16 ∨ p * 16 + P 3 p ≤ z ∨ P 0 z = 0) : squeezeP P p 1 z = P 1 z := sqz_1o _ _ _ _ _ (by omega)
theorem sq_1i {P : PG} {p i : Int} (hi : 0 ≤ i ∧ i < P 3 p) (h0 : P 0 (p * 16 + i) ≠ 0) : squeezeP P p 1 (p * 16 + i) = 64 - tailZ P p (i.toNat + 1) 0 := by
  have := sqz_1i (sp := fun z => P 5 (p * 64 + z)) (p := p) (P 3 p).toNat 0 64 P i.toNat (by omega) (by rw [show (0 : Int) + (i.toNat : Int) = i by omega]; exact h0)
  rw [show (0 : Int) + (i.toNat : Int) = i by omega] at this
  exact this
theorem sq_5o {P : PG} {p z : Int} (hs : ∀ a, 0 ≤ P 2 a) (hz : z < p * 64 + (64 - tailZ P p (P 3 p).toNat 0) ∨ p * 64 + 64 ≤ z) : squeezeP P p 5 z = P 5 z := sqz_5o _ _ _ _ _ hs hz
theorem sq_5i {P : PG} {p i : Int} (hs : ∀ a, 0 ≤ P 2 a) (hi : 0 ≤ i ∧ i < P 3 p) (h0 : P 0 (p * 16 + i) ≠ 0) {y : Int} (y0 : 0 ≤ y) (y1 : y < P 2 (p * 16 + i)) : squeezeP P p 5 (p * 64 + squeezeP P p 1 (p * 16 + i) + y) = P 5 (p * 64 + P 1 (p * 16 + i) + y) := by
  rw [sq_1i hi h0]
  have := sqz_5i (sp := fun z => P 5 (p * 64 + z)) (p := p) (P 3 p).toNat 0 64 P i.toNat hs (by omega) (by rw [show (0 : Int) + (i.toNat : Int) = i by omega]; exact h0) y y0 (by rw [show (0 : Int) + (i.toNat : Int) = i by omega]; exact y1)
  rw [show (0 : Int) + (i.toNat : Int) = i by omega] at this
  rw [Int.add_assoc (p * 64) (P 1 _) y]
  exact this
theorem sq_low {P : PG} {p : Int} (hs : ∀ a, 0 ≤ P 2 a) (hl : 0 ≤ P 3 p) : lowP (squeezeP P p) p = 64 - tailZ P p (P 3 p).toNat 0 := by
  have key : ∀ n : Nat, (n : Int) ≤ P 3 p → minL (squeezeP P p) p n = 64 - tailZ P p n 0 := by
    intro n
    induction n with
    | zero => intro _; rfl
    | succ n ih =>
      intro hn
      unfold minL
      rw [ih (by omega), sq_row (by decide) (by decide), tailZ_app, Int.zero_add]
      unfold szZ
      have h2 := hs (p * 16 + n)
      by_cases h0 : P 0 (p * 16 + (n : Int)) = 0
      · rw [if_pos h0, if_pos h0]; omega
      · have h1 := sq_1i (P := P) (p := p) (i := n) (by omega) h0
        rw [show ((n : Int)).toNat + 1 = n + 1 by omega, tailZ_app, Int.zero_add] at h1
        unfold szZ at h1
        rw [if_neg h0] at h1
        rw [if_neg h0, if_neg h0, h1]
        split <;> omega
  unfold lowP
  rw [sq_row (by decide) (by decide)]
  exact key _ (by omega)
theorem sq_gap {P : PG} {p : Int} (hK : ∀ a, P 0 a = 0 → P 2 a = 0) (hs : ∀ a, 0 ≤ P 2 a) (hl : 0 ≤ P 3 p) : gapP (squeezeP P p) p = freeP P p := by
  unfold gapP
  rw [sq_low hs hl, sq_row (by decide) (by decide), freeP_tail hK]
  omega
theorem sq_free {P : PG} {p q : Int} : freeP (squeezeP P p) q = freeP P q := by
  unfold freeP
  rw [sq_row (by decide) (by decide)]
  congr 2
  funext k
  exact sq_row (by decide) (by decide) _
theorem sqz_5b {R : Int → Prop} {sp : Int → Int} {p : Int} (hsp : ∀ y, R (sp y)) : ∀ (k : Nat) (i e : Int) (P : PG), (∀ z, R (P 5 z)) → ∀ z, R (sqz sp p k i e P 5 z) := by
  intro k
  induction k with
  | zero => intro i e P h z; exact h z
  | succ k ih =>
    intro i e P h z
    unfold sqz
    split
    · exact ih _ _ _ h z
    · refine ih _ _ _ (fun y => ?_) z
      rw [pu_row _ _ _ _ (by decide)]
      unfold wrB
      split
      · exact hsp _
      · exact h y
