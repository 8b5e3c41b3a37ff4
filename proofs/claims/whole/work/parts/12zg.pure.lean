/-! PAGES, PURELY: how long records are, their bytes, waste -/
theorem next_kind {P : PG} {rk : Int → Int} (hL : PgLk P rk) {a : Int} (ha : 0 ≤ a ∧ a < 128) (hn : nextP P a ≠ -1) : (0 ≤ nextP P a ∧ nextP P a < 128) ∧ tgtP P a (nextP P a) ∧ rk a = rk (nextP P a) + 1 := by
  have hr := nextP_r (P := P) a
  obtain ⟨t1, t2, -⟩ := (hL a ha).2.2.1 hn
  exact ⟨by omega, t1, t2⟩
theorem link_kind {P : PG} {a : Int} (h : P 0 a = 2 ∨ P 0 a = 4 ∨ P 0 a = 5) : linkP P a = 2 := if_pos h
theorem link_no {P : PG} {a : Int} (h : ¬ (P 0 a = 2 ∨ P 0 a = 4 ∨ P 0 a = 5)) : linkP P a = 0 ∧ nextP P a = -1 := by
  have : linkP P a = 0 := if_neg h
  exact ⟨this, by unfold nextP; rw [this, if_pos rfl]⟩
theorem sizeL_m1 (P : PG) : ∀ n, sizeL P n (-1) = 0 := by
  intro n
  cases n with
  | zero => rfl
  | succ n => unfold sizeL; rw [if_pos rfl]
theorem chain_size {P : PG} {rk wt : Int → Int} (hL : PgLk P rk) (hw : PgWt P wt) : ∀ (n : Nat) (a : Int), 0 ≤ a ∧ a < 128 → (P 0 a = 4 ∨ P 0 a = 5) → 0 ≤ sizeL P n a ∧ sizeL P n a ≤ wt a := by
  intro n
  induction n with
  | zero => intro a ha hk; have := (hw a ha hk).1; exact ⟨Int.le_refl _, this.1⟩
  | succ n ih =>
    intro a ha hk
    obtain ⟨w1, w2⟩ := hw a ha hk
    obtain ⟨⟨s1, s2, s3⟩, -⟩ := hL a ha
    have hsz : 2 ≤ P 2 a := by
      rcases hk with c | c
      · have := s2 c; omega
      · have := s3 c; omega
    unfold sizeL
    rw [if_neg (by omega), link_kind (by omega)]
    by_cases e : nextP P a = -1
    · rw [if_pos e] at w2
      rw [e, sizeL_m1]
      omega
    · rw [if_neg e] at w2
      obtain ⟨n1, n2, -⟩ := next_kind hL ha e
      have hk2 : P 0 (nextP P a) = 4 ∨ P 0 (nextP P a) = 5 := by unfold tgtP at n2; omega
      have := ih (nextP P a) n1 hk2
      omega
theorem size_rec {P : PG} {rk wt : Int → Int} (hB : PgB P) (hL : PgLk P rk) (hw : PgWt P wt) {a : Int} (hr : recP P a) : 0 ≤ sizeP P a ∧ sizeP P a ≤ 200 ∧ (P 0 a = 1 → sizeP P a = P 2 a) ∧ (P 0 a = 2 → sizeP P a = P 2 (nextP P a) ∧ nextP P a ≠ -1 ∧ P 0 (nextP P a) = 3) := by
  have hb := hB.2 a
  have ha := hr.1
  rcases hr.2 with k | k | k
  · obtain ⟨l1, l2⟩ := link_no (P := P) (a := a) (by omega)
    have : sizeP P a = P 2 a := by
      unfold sizeP sizeL
      rw [if_neg (by omega), l1, l2, sizeL_m1]
      omega
    exact ⟨by omega, by omega, fun _ => this, fun h => by omega⟩
  · have hn := (hL a ha).2.2.2.1 k
    have hs := (hL a ha).1.1 k
    obtain ⟨n1, n2, -⟩ := next_kind hL ha hn
    have hk2 : P 0 (nextP P a) = 3 := by unfold tgtP at n2; omega
    obtain ⟨l1, l2⟩ := link_no (P := P) (a := nextP P a) (by omega)
    have hb2 := hB.2 (nextP P a)
    have : sizeP P a = P 2 (nextP P a) := by
      show sizeL P (127 + 1) a = _
      unfold sizeL
      rw [if_neg (by omega), link_kind (by omega)]
      show P 2 a - 2 + sizeL P (126 + 1) (nextP P a) = _
      unfold sizeL
      rw [if_neg (by omega), l1, l2, sizeL_m1]
      omega
    exact ⟨by omega, by omega, fun h => by omega, fun _ => ⟨this, hn, hk2⟩⟩
  · have := chain_size hL hw 128 a ha (Or.inl k)
    have w1 := (hw a ha (Or.inl k)).1
    refine ⟨this.1, ?_, fun h => by omega, fun h => by omega⟩
    have h2 : sizeP P a ≤ wt a := this.2
    omega
theorem byteL_m1 (P : PG) (y : Int) : ∀ n, byteL P n (-1) y = -1 := by
  intro n
  cases n with
  | zero => rfl
  | succ n => unfold byteL; rw [if_pos rfl]
/-- a byte of a cell that is there -/
theorem cell_r {P : PG} (h5 : ∀ z, 0 ≤ P 5 z ∧ P 5 z ≤ 255) {a k : Int} (h : 0 ≤ k ∧ k < P 2 a) : 0 ≤ byteC P a k ∧ byteC P a k ≤ 255 := by
  unfold byteC
  rw [if_neg (by omega)]
  exact h5 _
theorem data_nn {P : PG} {rk : Int → Int} (hB : PgB P) (hL : PgLk P rk) {a : Int} (ha : 0 ≤ a ∧ a < 128) : 0 ≤ P 2 a - linkP P a := by
  have hb := hB.2 a
  obtain ⟨⟨s1, s2, s3⟩, -⟩ := hL a ha
  unfold linkP
  by_cases c : P 0 a = 2 ∨ P 0 a = 4 ∨ P 0 a = 5
  · rw [if_pos c]
    rcases c with c | c | c
    · have := s1 c; omega
    · have := s2 c; omega
    · have := s3 c; omega
  · rw [if_neg c]; omega
theorem sizeL_nn {P : PG} {rk : Int → Int} (hB : PgB P) (hL : PgLk P rk) : ∀ (n : Nat) (a : Int), -1 ≤ a ∧ a < 128 → 0 ≤ sizeL P n a := by
  intro n
  induction n with
  | zero => intro a _; exact Int.le_refl _
  | succ n ih =>
    intro a ha
    unfold sizeL
    by_cases e : a = -1
    · rw [if_pos e]; omega
    · rw [if_neg e]
      have := data_nn hB hL (a := a) (by omega)
      have := ih (nextP P a) (nextP_r a)
      omega
theorem byteL_r {P : PG} {rk : Int → Int} (hB : PgB P) (hL : PgLk P rk) (h5 : ∀ z, 0 ≤ P 5 z ∧ P 5 z ≤ 255) : ∀ (n : Nat) (a y : Int), -1 ≤ a ∧ a < 128 → 0 ≤ y → (y < sizeL P n a → 0 ≤ byteL P n a y ∧ byteL P n a y ≤ 255) ∧ (sizeL P n a ≤ y → byteL P n a y = -1) := by
  intro n
  induction n with
  | zero => intro a y _ h; exact ⟨fun c => by have : sizeL P 0 a = 0 := rfl; omega, fun _ => rfl⟩
  | succ n ih =>
    intro a y ha h
    have hl := linkP_r P a
    unfold sizeL byteL
    by_cases e : a = -1
    · rw [if_pos e, if_pos e]
      exact ⟨fun c => by omega, fun _ => rfl⟩
    · rw [if_neg e, if_neg e]
      by_cases c : y < P 2 a - linkP P a
      · rw [if_pos c]
        refine ⟨fun _ => cell_r h5 (by omega), fun c2 => ?_⟩
        exfalso
        have hs := sizeL_nn hB hL n (nextP P a) (nextP_r a)
        omega
      · rw [if_neg c]
        obtain ⟨i1, i2⟩ := ih (nextP P a) (y - (P 2 a - linkP P a)) (nextP_r a) (by omega)
        exact ⟨fun c2 => i1 (by omega), fun c2 => i2 (by omega)⟩
theorem byteP_in {P : PG} {rk : Int → Int} (hI : PgI P) (hL : PgLk P rk) {a y : Int} (ha : -1 ≤ a ∧ a < 128) (hy : 0 ≤ y) : (y < sizeP P a → 0 ≤ byteP P a y ∧ byteP P a y ≤ 255) ∧ (sizeP P a ≤ y → byteP P a y = -1) := byteL_r hI.1.1 hL hI.2.2.2.2.1 128 a y ha hy
/-! waste is never below 0 -/
theorem sumZ_add (f g : Int → Int) : ∀ n, sumZ (fun z => f z + g z) n = sumZ f n + sumZ g n := by
  intro n
  induction n with
  | zero => rfl
  | succ n ih => simp only [sumZ]; rw [ih]; omega
theorem sumZ_zero : ∀ n, sumZ (fun _ => 0) n = 0 := by
  intro n
  induction n with
  | zero => rfl
  | succ n ih => simp only [sumZ]; rw [ih]; rfl
theorem sumZ_swap (g : Int → Int → Int) (m : Nat) : ∀ n : Nat, sumZ (fun i => sumZ (fun z => g i z) m) n = sumZ (fun z => sumZ (fun i => g i z) n) m := by
  intro n
  induction n with
  | zero => exact (sumZ_zero m).symm
  | succ n ih =>
    simp only [sumZ]
    rw [ih, ← sumZ_add]
theorem sumZ_ind {b s : Int} (hb : 0 ≤ b) (hs : 0 ≤ s) : ∀ n : Nat, sumZ (fun z => if b ≤ z ∧ z < b + s then 1 else 0) n = max 0 (min (n : Int) (b + s) - b) := by
  intro n
  induction n with
  | zero => show (0 : Int) = _; omega
  | succ n ih =>
    simp only [sumZ]
    rw [ih]
    split <;> omega
theorem sumZ_one {f : Int → Int} (h01 : ∀ z, f z = 0 ∨ f z = 1) (hne : ∀ x y : Int, x ≠ y → ¬ (f x = 1 ∧ f y = 1)) : ∀ n : Nat, sumZ f n ≤ 1 := by
  have key : ∀ n : Nat, (sumZ f n = 0) ∨ (sumZ f n = 1 ∧ ∃ k : Nat, k < n ∧ f k = 1) := by
    intro n
    induction n with
    | zero => exact Or.inl rfl
    | succ n ih =>
      simp only [sumZ]
      rcases ih with ih | ⟨ih, k, hk, hfk⟩
      · rcases h01 n with h | h
        · left; omega
        · exact Or.inr ⟨by omega, n, by omega, h⟩
      · rcases h01 n with h | h
        · exact Or.inr ⟨by omega, k, by omega, hfk⟩
        · exact absurd ⟨hfk, h⟩ (hne k n (by omega))
  intro n
  rcases key n with h | h <;> omega
theorem waste_nn {P : PG} (hI : PgI P) {p : Int} (hp : 0 ≤ p ∧ p < 8) : 0 ≤ wasteP P p := by
  obtain ⟨⟨hB, hz, hbeh⟩, hin, hfr, -, -, hD⟩ := hI
  have hl := (hB.2 p).2.2.2.1
  have hlow64 := low_64 P p
  have hlow0 : 0 ≤ lowP P p := by
    have : ∀ n : Nat, (n : Int) ≤ P 3 p → 0 ≤ minL P p n := by
      intro n
      induction n with
      | zero => intro _; exact (by decide : (0 : Int) ≤ 64)
      | succ n ih =>
        intro hn
        have h1 := ih (by omega)
        unfold minL
        split
        · exact h1
        · rename_i h0
          have h2 := (hin p n hp (by omega) h0).1
          split <;> omega
    exact this _ (by omega)
  unfold wasteP gapP freeP
  -- who covers a byte
  have hc : ∀ i : Int, 0 ≤ i → i < P 3 p → P 2 (p * 16 + i) = sumZ (fun z => if P 0 (p * 16 + i) ≠ 0 ∧ P 1 (p * 16 + i) ≤ z ∧ z < P 1 (p * 16 + i) + P 2 (p * 16 + i) then 1 else 0) 64 := by
    intro i i0 i1
    have hs := (hB.2 (p * 16 + i)).2.2.1
    by_cases h0 : P 0 (p * 16 + i) = 0
    · rw [hz _ h0, sumZ_ext (g := fun _ => 0) (fun k _ => if_neg (fun c => c.1 h0)), sumZ_zero]
    · have h1 := hin p i hp (by omega) h0
      rw [sumZ_ext (g := fun z => if P 1 (p * 16 + i) ≤ z ∧ z < P 1 (p * 16 + i) + P 2 (p * 16 + i) then 1 else 0) (fun k _ => by
        by_cases c : P 1 (p * 16 + i) ≤ k ∧ (k : Int) < P 1 (p * 16 + i) + P 2 (p * 16 + i)
        · rw [if_pos ⟨h0, c⟩, if_pos c]
        · rw [if_neg (fun e => c e.2), if_neg c]), sumZ_ind (by omega) (by omega)]
      omega
  have h1 : sumZ (fun k => P 2 (p * 16 + k)) (P 3 p).toNat = sumZ (fun z => sumZ (fun i => if P 0 (p * 16 + i) ≠ 0 ∧ P 1 (p * 16 + i) ≤ z ∧ z < P 1 (p * 16 + i) + P 2 (p * 16 + i) then 1 else 0) (P 3 p).toNat) 64 := by
    rw [← sumZ_swap (fun i z => if P 0 (p * 16 + i) ≠ 0 ∧ P 1 (p * 16 + i) ≤ z ∧ z < P 1 (p * 16 + i) + P 2 (p * 16 + i) then 1 else 0)]
    exact sumZ_ext (fun k hk => hc k (by omega) (by omega))
  have h2 : sumZ (fun z => sumZ (fun i => if P 0 (p * 16 + i) ≠ 0 ∧ P 1 (p * 16 + i) ≤ z ∧ z < P 1 (p * 16 + i) + P 2 (p * 16 + i) then 1 else 0) (P 3 p).toNat) 64 ≤ sumZ (fun z => if lowP P p ≤ z ∧ z < lowP P p + (64 - lowP P p) then 1 else 0) 64 := by
    refine sumZ_le (fun z hz64 => ?_)
    show sumZ (fun i => if P 0 (p * 16 + i) ≠ 0 ∧ P 1 (p * 16 + i) ≤ z ∧ (z : Int) < P 1 (p * 16 + i) + P 2 (p * 16 + i) then 1 else 0) (P 3 p).toNat ≤ _
    by_cases c : lowP P p ≤ z ∧ (z : Int) < lowP P p + (64 - lowP P p)
    · rw [if_pos c]
      -- beyond the directory none
      rw [sumZ_ext (g := fun i => if (0 ≤ i ∧ i < P 3 p) ∧ P 0 (p * 16 + i) ≠ 0 ∧ P 1 (p * 16 + i) ≤ z ∧ (z : Int) < P 1 (p * 16 + i) + P 2 (p * 16 + i) then 1 else 0) (fun k hk => by
        by_cases d : P 0 (p * 16 + (k : Int)) ≠ 0 ∧ P 1 (p * 16 + k) ≤ z ∧ (z : Int) < P 1 (p * 16 + k) + P 2 (p * 16 + k)
        · rw [if_pos d, if_pos ⟨by omega, d⟩]
        · rw [if_neg d, if_neg (fun e => d e.2)])]
      refine sumZ_one (fun x => ?_) (fun x y hxy h => ?_) _
      · show (if _ then (1 : Int) else 0) = 0 ∨ (if _ then (1 : Int) else 0) = 1
        split
        · exact Or.inr rfl
        · exact Or.inl rfl
      · obtain ⟨e1, e2⟩ := h
        have f1 : (0 ≤ x ∧ x < P 3 p) ∧ P 0 (p * 16 + x) ≠ 0 ∧ P 1 (p * 16 + x) ≤ z ∧ (z : Int) < P 1 (p * 16 + x) + P 2 (p * 16 + x) := by
          by_cases d : (0 ≤ x ∧ x < P 3 p) ∧ P 0 (p * 16 + x) ≠ 0 ∧ P 1 (p * 16 + x) ≤ z ∧ (z : Int) < P 1 (p * 16 + x) + P 2 (p * 16 + x)
          · exact d
          · rw [if_neg d] at e1; omega
        have f2 : (0 ≤ y ∧ y < P 3 p) ∧ P 0 (p * 16 + y) ≠ 0 ∧ P 1 (p * 16 + y) ≤ z ∧ (z : Int) < P 1 (p * 16 + y) + P 2 (p * 16 + y) := by
          by_cases d : (0 ≤ y ∧ y < P 3 p) ∧ P 0 (p * 16 + y) ≠ 0 ∧ P 1 (p * 16 + y) ≤ z ∧ (z : Int) < P 1 (p * 16 + y) + P 2 (p * 16 + y)
          · exact d
          · rw [if_neg d] at e2; omega
        exact hD p x y z hp (by omega) (by omega) hxy f1.2.1 f2.2.1 ⟨f1.2.2, f2.2.2⟩
    · rw [if_neg c, sumZ_ext (g := fun _ => 0) (fun k hk => if_neg (fun d => by
        have := low_le (P := P) (p := p) (i := k) (by omega) d.1
        have := hin p k hp (by omega) d.1
        omega)), sumZ_zero]
      exact Int.le_refl _
  rw [sumZ_ind hlow0 (by omega)] at h2
  omega
