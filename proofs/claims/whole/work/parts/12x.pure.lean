/-! PAGES, PURELY: a cell comes, a cell leaves -/
theorem sumZ_ext {f g : Int → Int} : ∀ {n : Nat}, (∀ k : Nat, k < n → f k = g k) → sumZ f n = sumZ g n := by
  intro n
  induction n with
  | zero => intro _; rfl
  | succ n ih =>
    intro h
    simp only [sumZ]
    rw [ih (fun k hk => h k (by omega)), h n (by omega)]
theorem sumZ_le {f g : Int → Int} : ∀ {n : Nat}, (∀ k : Nat, k < n → f k ≤ g k) → sumZ f n ≤ sumZ g n := by
  intro n
  induction n with
  | zero => intro _; exact Int.le_refl _
  | succ n ih =>
    intro h
    simp only [sumZ]
    have := ih (fun k hk => h k (by omega))
    have := h n (by omega)
    omega
theorem sumZ_up {f g : Int → Int} {j x : Int} : ∀ {n : Nat}, 0 ≤ j ∧ j < n → (∀ k : Nat, k < n → g k = if (k : Int) = j then x else f k) → sumZ g n = sumZ f n + (x - f j) := by
  intro n
  induction n with
  | zero => intro h; omega
  | succ n ih =>
    intro h hg
    simp only [sumZ]
    have hn := hg n (by omega)
    by_cases e : (n : Int) = j
    · rw [if_pos e] at hn
      rw [hn, sumZ_ext (g := f) (fun k hk => by rw [hg k (by omega), if_neg (by omega)]), e]
      omega
    · rw [if_neg e] at hn
      rw [hn, ih (by omega) (fun k hk => hg k (by omega))]
      omega
theorem low_le {P : PG} {p i : Int} (hi : 0 ≤ i ∧ i < P 3 p) (h0 : P 0 (p * 16 + i) ≠ 0) : lowP P p ≤ P 1 (p * 16 + i) := by
  have key : ∀ n : Nat, i < n → minL P p n ≤ P 1 (p * 16 + i) := by
    intro n
    induction n with
    | zero => intro h; omega
    | succ n ih =>
      intro h
      unfold minL
      by_cases e : i = n
      · rw [← e, if_neg h0]
        split <;> omega
      · have := ih (by omega)
        split
        · exact this
        · split <;> omega
  exact key _ (by omega)
theorem low_64 (P : PG) (p : Int) : lowP P p ≤ 64 := by
  have key : ∀ n : Nat, minL P p n ≤ 64 := by
    intro n
    induction n with
    | zero => exact Int.le_refl _
    | succ n ih =>
      unfold minL
      split
      · exact ih
      · split <;> omega
  exact key _
def layQ (Q : PG) (a kind : Int) (B : Int → Int) (len : Int) : PG := promP (writeP (pu Q 3 (a / 16) (max (Q 3 (a / 16)) (a % 16 + 1))) a kind (lowP Q (a / 16) - len) B len) (a / 16)
abbrev needL (P : PG) (a len : Int) : Int := len + 2 * (max (P 3 (a / 16)) (a % 16 + 1) - P 3 (a / 16))
def layP (P : PG) (a kind : Int) (B : Int → Int) (len : Int) : PG := layQ (if gapP P (a / 16) < needL P a len then squeezeP P (a / 16) else P) a kind B len
section LQ
variable {Q : PG} {a kind len : Int} {B : Int → Int}
theorem layQ_0 (z : Int) : layQ Q a kind B len 0 z = if z = a then kind else Q 0 z := by
  unfold layQ promP writeP
  rw [pu_row _ _ _ _ (by decide), wrB_row (by decide), pu_row _ _ _ _ (by decide), pu_row _ _ _ _ (by decide), pu_v, pu_row _ _ _ _ (by decide)]
theorem layQ_1 (z : Int) : layQ Q a kind B len 1 z = if z = a then lowP Q (a / 16) - len else Q 1 z := by
  unfold layQ promP writeP
  rw [pu_row _ _ _ _ (by decide), wrB_row (by decide), pu_row _ _ _ _ (by decide), pu_v, pu_row _ _ _ _ (by decide), pu_row _ _ _ _ (by decide)]
theorem layQ_2 (z : Int) : layQ Q a kind B len 2 z = if z = a then len else Q 2 z := by
  unfold layQ promP writeP
  rw [pu_row _ _ _ _ (by decide), wrB_row (by decide), pu_v, pu_row _ _ _ _ (by decide), pu_row _ _ _ _ (by decide), pu_row _ _ _ _ (by decide)]
theorem layQ_3 (z : Int) : layQ Q a kind B len 3 z = if z = a / 16 then max (Q 3 (a / 16)) (a % 16 + 1) else Q 3 z := by
  unfold layQ promP writeP
  rw [pu_row _ _ _ _ (by decide), wrB_row (by decide), pu_row _ _ _ _ (by decide), pu_row _ _ _ _ (by decide), pu_row _ _ _ _ (by decide), pu_v]
theorem layQ_5 (z : Int) : layQ Q a kind B len 5 z = if a / 16 * 64 + (lowP Q (a / 16) - len) ≤ z ∧ z < a / 16 * 64 + (lowP Q (a / 16) - len) + len then B (z - (a / 16 * 64 + (lowP Q (a / 16) - len))) else Q 5 z := by
  unfold layQ promP writeP
  rw [pu_row _ _ _ _ (by decide)]
  unfold wrB
  by_cases e : a / 16 * 64 + (lowP Q (a / 16) - len) ≤ z ∧ z < a / 16 * 64 + (lowP Q (a / 16) - len) + len
  · rw [if_pos ⟨rfl, e⟩, if_pos e]
  · rw [if_neg (fun c => e c.2), if_neg e, pu_row _ _ _ _ (by decide), pu_row _ _ _ _ (by decide), pu_row _ _ _ _ (by decide), pu_row _ _ _ _ (by decide)]
theorem free_rows {P R : PG} {q : Int} (h3 : R 3 q = P 3 q) (h2 : ∀ k : Int, 0 ≤ k → k < P 3 q → R 2 (q * 16 + k) = P 2 (q * 16 + k)) : freeP R q = freeP P q := by
  unfold freeP
  rw [h3]
  congr 1
  exact sumZ_ext (fun k hk => h2 k (by omega) (by omega))
theorem layQ_f1 (hK : PgK Q) (ha : 0 ≤ a ∧ a < 128) (hs : a % 16 ≤ Q 3 (a / 16)) (h0 : Q 0 a = 0) : freeP (layQ Q a kind B len) (a / 16) = freeP Q (a / 16) - needL Q a len := by
  have hl := (hK.1.2 (a / 16)).2.2.2.1
  have ea : a / 16 * 16 + a % 16 = a := by omega
  have hz := hK.2.1 a h0
  unfold freeP
  rw [layQ_3, if_pos rfl]
  unfold needL
  have hx : ∀ k : Int, layQ Q a kind B len 2 (a / 16 * 16 + k) = if k = a % 16 then len else Q 2 (a / 16 * 16 + k) := by
    intro k
    rw [layQ_2]
    by_cases e : k = a % 16
    · rw [if_pos (by omega), if_pos e]
    · rw [if_neg (by omega), if_neg e]
  by_cases c : a % 16 < Q 3 (a / 16)
  · rw [show max (Q 3 (a / 16)) (a % 16 + 1) = Q 3 (a / 16) by omega]
    rw [sumZ_up (f := fun k => Q 2 (a / 16 * 16 + k)) (j := a % 16) (x := len) (by omega) (fun k _ => hx k)]
    simp only [ea]
    rw [hz]
    omega
  · have e3 : Q 3 (a / 16) = a % 16 := by omega
    rw [show max (Q 3 (a / 16)) (a % 16 + 1) = Q 3 (a / 16) + 1 by omega, show (Q 3 (a / 16) + 1).toNat = (Q 3 (a / 16)).toNat + 1 by omega]
    simp only [sumZ]
    rw [hx, if_pos (by omega), sumZ_ext (g := fun k => Q 2 (a / 16 * 16 + k)) (fun k hk => by rw [hx, if_neg (by omega)])]
    omega
theorem layQ_f2 {q : Int} (ha : 0 ≤ a ∧ a < 128) (hB : PgB Q) (hq : q ≠ a / 16) : freeP (layQ Q a kind B len) q = freeP Q q := by
  have := hB.2 q
  refine free_rows (by rw [layQ_3, if_neg hq]) (fun k k0 k1 => ?_)
  rw [layQ_2, if_neg (by omega)]
theorem layQ_4 (z : Int) : layQ Q a kind B len 4 z = if z = a / 16 then freeP (layQ Q a kind B len) (a / 16) / 8 else Q 4 z := by
  have h : freeP (layQ Q a kind B len) (a / 16) = freeP (writeP (pu Q 3 (a / 16) (max (Q 3 (a / 16)) (a % 16 + 1))) a kind (lowP Q (a / 16) - len) B len) (a / 16) :=
    free_rows (by unfold layQ promP; rw [pu_row _ _ _ _ (by decide)]) (fun k _ _ => by unfold layQ promP; rw [pu_row _ _ _ _ (by decide)])
  rw [h]
  unfold layQ promP
  rw [pu_v]
  split
  · rfl
  · unfold writeP
    rw [wrB_row (by decide), pu_row _ _ _ _ (by decide), pu_row _ _ _ _ (by decide), pu_row _ _ _ _ (by decide), pu_row _ _ _ _ (by decide)]
/-- what a cell needs that comes -/
def canL (Q : PG) (a kind : Int) (B : Int → Int) (len : Int) : Prop := (0 ≤ a ∧ a < 128) ∧ (a % 16 ≤ Q 3 (a / 16) ∧ a % 16 < 12) ∧ Q 0 a = 0 ∧ (1 ≤ kind ∧ kind ≤ 5) ∧ (0 ≤ len ∧ len ≤ 40) ∧ ∀ z, 0 ≤ z → z < len → 0 ≤ B z ∧ B z ≤ 255
theorem layQ_I (hI : PgI Q) (hc : canL Q a kind B len) (hg : needL Q a len ≤ gapP Q (a / 16)) (hf : needL Q a len ≤ freeP Q (a / 16)) : PgI (layQ Q a kind B len) := by
  obtain ⟨⟨hB, hz, hbeh⟩, hin, hfr, h4, h5, hD⟩ := hI
  obtain ⟨ha, ⟨hs, hs12⟩, h0, hk, hl, hbt⟩ := hc
  have hl3 := (hB.2 (a / 16)).2.2.2.1
  have ea : a / 16 * 16 + a % 16 = a := by omega
  have h64 := low_64 Q (a / 16)
  have hf1 := layQ_f1 (kind := kind) (B := B) (len := len) ⟨hB, hz, hbeh⟩ ha hs h0
  unfold gapP at hg
  unfold needL at hg hf hf1
  have hfr' : ∀ p : Int, 0 ≤ p ∧ p < 8 → 0 ≤ freeP (layQ Q a kind B len) p := by
    intro p hp
    by_cases e : p = a / 16
    · rw [e, hf1]; omega
    · rw [layQ_f2 ha hB e]; exact hfr p hp
  have hfle : freeP (layQ Q a kind B len) (a / 16) ≤ 64 := by
    have := freeP_r hB (a / 16)
    rw [hf1]; omega
  have hin' : ∀ p i : Int, 0 ≤ p ∧ p < 8 → 0 ≤ i ∧ i < 16 → layQ Q a kind B len 0 (p * 16 + i) ≠ 0 → 2 * layQ Q a kind B len 3 p ≤ layQ Q a kind B len 1 (p * 16 + i) ∧ layQ Q a kind B len 1 (p * 16 + i) + layQ Q a kind B len 2 (p * 16 + i) ≤ 64 := by
    intro p i hp hi hn
    rw [layQ_0] at hn
    rw [layQ_1, layQ_2, layQ_3]
    by_cases e : p * 16 + i = a
    · rw [if_pos e, if_pos e, if_pos (by omega)]
      omega
    · rw [if_neg e] at hn
      rw [if_neg e, if_neg e]
      have h1 := hin p i hp hi hn
      by_cases ep : p = a / 16
      · rw [if_pos ep]
        have hi3 : i < Q 3 p := by
          by_cases c : i < Q 3 p
          · exact c
          · exact absurd (hbeh p i hp ⟨by omega, hi.2⟩) hn
        have h2 := low_le (P := Q) (p := p) ⟨hi.1, hi3⟩ hn
        rw [ep] at h1 h2 ⊢
        omega
      · rw [if_neg ep]; exact h1
  have h5' : ∀ z, 0 ≤ layQ Q a kind B len 5 z ∧ layQ Q a kind B len 5 z ≤ 255 := by
    intro z
    rw [layQ_5]
    split
    · exact hbt _ (by omega) (by omega)
    · exact h5 z
  have h4' : ∀ z, 0 ≤ layQ Q a kind B len 4 z ∧ layQ Q a kind B len 4 z ≤ 8 := by
    intro z
    rw [layQ_4]
    split
    · have := hfr' (a / 16) (by omega)
      omega
    · exact h4 z
  refine ⟨⟨⟨fun z hzr hz0 => ?_, fun z => ?_⟩, fun z hz0 => ?_, fun p i hp hi => ?_⟩, hin', hfr', h4', h5', ?_⟩
  · have hn : layQ Q a kind B len 0 z ≠ 0 := by
      rw [layQ_0]
      rw [layQ_2] at hz0
      by_cases e : z = a
      · rw [if_pos e]; omega
      · rw [if_neg e] at hz0 ⊢
        intro c
        have := hz z c
        omega
    have h1 := hin' (z / 16) (z % 16) (by omega) (by omega) (by rw [show z / 16 * 16 + z % 16 = z by omega]; exact hn)
    rw [show z / 16 * 16 + z % 16 = z by omega] at h1
    have h3 : 0 ≤ layQ Q a kind B len 3 (z / 16) := by
      have := (hB.2 (z / 16)).2.2.2.1
      rw [layQ_3]
      split <;> omega
    omega
  · have hb := hB.2 z
    have hm := minL_r hB (a / 16) (Q 3 (a / 16)).toNat
    have h5z := h5' z
    have h4z := h4' z
    refine ⟨?_, ?_, ?_, ?_, by omega, by omega⟩
    · rw [layQ_0]; split <;> omega
    · rw [layQ_1]
      split
      · omega
      · omega
    · rw [layQ_2]; split <;> omega
    · rw [layQ_3]; split <;> omega
  · rw [layQ_0] at hz0
    rw [layQ_2]
    by_cases e : z = a
    · rw [if_pos e] at hz0; omega
    · rw [if_neg e] at hz0 ⊢; exact hz z hz0
  · rw [layQ_3] at hi
    rw [layQ_0]
    have hl3p := (hB.2 p).2.2.2.1
    by_cases ep : p = a / 16
    · rw [if_pos ep] at hi
      rw [if_neg (by omega)]
      exact hbeh p i hp (by rw [ep]; omega)
    · rw [if_neg ep] at hi
      rw [if_neg (by omega)]
      exact hbeh p i hp hi
  · intro p i j z hp hi hj hij hn hn' hcc
    rw [layQ_0] at hn hn'
    rw [layQ_1, layQ_1, layQ_2, layQ_2] at hcc
    have hlow : ∀ i : Int, 0 ≤ i ∧ i < 16 → p = a / 16 → Q 0 (p * 16 + i) ≠ 0 → lowP Q (a / 16) ≤ Q 1 (p * 16 + i) := by
      intro i hi ep hn
      have hi3 : i < Q 3 p := by
        by_cases c : i < Q 3 p
        · exact c
        · exact absurd (hbeh p i hp ⟨by omega, hi.2⟩) hn
      have h2 := low_le (P := Q) (p := p) ⟨hi.1, hi3⟩ hn
      rw [ep] at h2 ⊢
      exact h2
    by_cases e1 : p * 16 + i = a
    · rw [if_neg (by omega)] at hn'
      rw [if_pos e1, if_pos e1, if_neg (by omega), if_neg (by omega)] at hcc
      have := hlow j hj (by omega) hn'
      omega
    · rw [if_neg e1] at hn
      by_cases e2 : p * 16 + j = a
      · rw [if_neg e1, if_neg e1, if_pos e2, if_pos e2] at hcc
        have := hlow i hi (by omega) hn
        omega
      · rw [if_neg e2] at hn'
        rw [if_neg e1, if_neg e1, if_neg e2, if_neg e2] at hcc
        exact hD p i j z hp hi hj hij hn hn' hcc
theorem layQ_b (hI : PgI Q) (hc : canL Q a kind B len) (hg : needL Q a len ≤ gapP Q (a / 16)) {b k : Int} (hb : 0 ≤ b ∧ b < 128) : byteC (layQ Q a kind B len) b k = if b = a then (if k < 0 ∨ len ≤ k then -1 else B k) else byteC Q b k := by
  obtain ⟨⟨hB, hz, hbeh⟩, hin, hfr, h4, h5, hD⟩ := hI
  obtain ⟨ha, ⟨hs, hs12⟩, h0, hk, hl, hbt⟩ := hc
  have hl3 := (hB.2 (a / 16)).2.2.2.1
  have h64 := low_64 Q (a / 16)
  unfold gapP at hg
  unfold needL at hg
  unfold byteC
  rw [layQ_2, layQ_1]
  by_cases e : b = a
  · rw [if_pos e, if_pos e, if_pos e]
    by_cases ek : k < 0 ∨ len ≤ k
    · rw [if_pos ek, if_pos ek]
    · rw [if_neg ek, if_neg ek, layQ_5, e, if_pos (by omega)]
      congr 1
      omega
  · rw [if_neg e, if_neg e, if_neg e]
    by_cases ek : k < 0 ∨ Q 2 b ≤ k
    · rw [if_pos ek, if_pos ek]
    · rw [if_neg ek, if_neg ek, layQ_5, if_neg]
      have hn : Q 0 b ≠ 0 := fun c => by have := hz b c; omega
      have eb : b / 16 * 16 + b % 16 = b := by omega
      have h1 := hin (b / 16) (b % 16) (by omega) (by omega) (by rw [eb]; exact hn)
      rw [eb] at h1
      have h3 := (hB.2 (b / 16)).2.2.2.1
      by_cases ep : b / 16 = a / 16
      · have hi3 : b % 16 < Q 3 (b / 16) := by
          by_cases c : b % 16 < Q 3 (b / 16)
          · exact c
          · exact absurd (hbeh (b / 16) (b % 16) (by omega) ⟨by omega, by omega⟩) (by rw [eb]; exact hn)
        have h2 := low_le (P := Q) (p := b / 16) (i := b % 16) ⟨by omega, hi3⟩ (by rw [eb]; exact hn)
        rw [eb, ep] at h2
        omega
      · omega
end LQ
