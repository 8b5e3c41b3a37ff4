/-! PAGES, PURELY: what always holds; a squeezed page keeps it -/
/-- empty slots have no bytes; behind a directory all is empty -/
def PgK (P : PG) : Prop := PgB P ∧ (∀ a, P 0 a = 0 → P 2 a = 0) ∧ ∀ p i : Int, 0 ≤ p ∧ p < 8 → P 3 p ≤ i ∧ i < 16 → P 0 (p * 16 + i) = 0
def PgD (P : PG) : Prop := ∀ p i j z : Int, 0 ≤ p ∧ p < 8 → 0 ≤ i ∧ i < 16 → 0 ≤ j ∧ j < 16 → i ≠ j → P 0 (p * 16 + i) ≠ 0 → P 0 (p * 16 + j) ≠ 0 → ¬ ((P 1 (p * 16 + i) ≤ z ∧ z < P 1 (p * 16 + i) + P 2 (p * 16 + i)) ∧ P 1 (p * 16 + j) ≤ z ∧ z < P 1 (p * 16 + j) + P 2 (p * 16 + j))
def PgI (P : PG) : Prop := PgK P ∧ (∀ p i : Int, 0 ≤ p ∧ p < 8 → 0 ≤ i ∧ i < 16 → P 0 (p * 16 + i) ≠ 0 → 2 * P 3 p ≤ P 1 (p * 16 + i) ∧ P 1 (p * 16 + i) + P 2 (p * 16 + i) ≤ 64) ∧ (∀ p : Int, 0 ≤ p ∧ p < 8 → 0 ≤ freeP P p) ∧ (∀ z, 0 ≤ P 4 z ∧ P 4 z ≤ 8) ∧ (∀ z, 0 ≤ P 5 z ∧ P 5 z ≤ 255) ∧ PgD P
theorem tail_mo {P : PG} (hs : ∀ a, 0 ≤ P 2 a) (p : Int) {a b : Nat} (h : a ≤ b) : tailZ P p a 0 ≤ tailZ P p b 0 := by
  induction b with
  | zero => rw [show a = 0 by omega]; exact Int.le_refl _
  | succ b ih =>
    by_cases e : a = b + 1
    · rw [e]; exact Int.le_refl _
    · have := ih (by omega)
      have h2 := hs (p * 16 + (0 + b))
      rw [tailZ_app]
      unfold szZ
      split <;> omega
/-- where a nonempty slot's cell lies on a squeezed page -/
theorem sq_at {P : PG} (hI : PgI P) {p i : Int} (hp : 0 ≤ p ∧ p < 8) (hi : 0 ≤ i ∧ i < 16) (h0 : P 0 (p * 16 + i) ≠ 0) : i < P 3 p ∧ squeezeP P p 1 (p * 16 + i) = 64 - tailZ P p (i.toNat + 1) 0 ∧ squeezeP P p 1 (p * 16 + i) + P 2 (p * 16 + i) = 64 - tailZ P p i.toNat 0 ∧ 2 * P 3 p ≤ squeezeP P p 1 (p * 16 + i) ∧ squeezeP P p 1 (p * 16 + i) + P 2 (p * 16 + i) ≤ 64 := by
  obtain ⟨⟨hB, hz, hbeh⟩, -, hf, -⟩ := hI
  have hs : ∀ a, 0 ≤ P 2 a := fun a => (hB.2 a).2.2.1.1
  have hl := (hB.2 p).2.2.2.1
  have hi3 : i < P 3 p := by
    by_cases c : i < P 3 p
    · exact c
    · exact absurd (hbeh p i hp ⟨by omega, hi.2⟩) h0
  have h1 := sq_1i (P := P) ⟨hi.1, hi3⟩ h0
  have hfp := hf p hp
  rw [freeP_tail hz] at hfp
  have hm := tail_mo hs p (show i.toNat + 1 ≤ (P 3 p).toNat by omega)
  have hm0 := tail_mo hs p (show 0 ≤ i.toNat by omega)
  have happ := tailZ_app (P := P) (p := p) i.toNat 0
  rw [show (0 : Int) + (i.toNat : Int) = i by omega] at happ
  have hsz : szZ P (p * 16 + i) = P 2 (p * 16 + i) := if_neg h0
  have hz0 : tailZ P p 0 0 = 0 := rfl
  refine ⟨hi3, h1, ?_, ?_, ?_⟩ <;> omega
theorem sq_byte {P : PG} (hI : PgI P) {p : Int} (hp : 0 ≤ p ∧ p < 8) {a k : Int} (ha : 0 ≤ a ∧ a < 128) : byteC (squeezeP P p) a k = byteC P a k := by
  have hI' := hI
  obtain ⟨⟨hB, hz, hbeh⟩, hin, hf, -⟩ := hI
  have hs : ∀ a, 0 ≤ P 2 a := fun a => (hB.2 a).2.2.1.1
  have hl := (hB.2 p).2.2.2.1
  unfold byteC
  rw [sq_row (by decide) (by decide)]
  by_cases hk : k < 0 ∨ P 2 a ≤ k
  · rw [if_pos hk, if_pos hk]
  · rw [if_neg hk, if_neg hk]
    have h0 : P 0 a ≠ 0 := fun e => by have := hz a e; omega
    have ea : a / 16 * 16 + a % 16 = a := by omega
    by_cases e : a / 16 = p
    · have h1 := sq_at hI' (p := p) (i := a % 16) hp (by omega) (by rw [← e, ea]; exact h0)
      have h2 := sq_5i (P := P) (p := p) (i := a % 16) hs ⟨by omega, h1.1⟩ (by rw [← e, ea]; exact h0) (y := k) (by omega) (by rw [← e, ea]; omega)
      rw [← e, ea] at h2
      rw [← e]
      exact h2
    · rw [sq_1o hl.1 (by omega)]
      have h3 := hin (a / 16) (a % 16) (by omega) (by omega) (by rw [ea]; exact h0)
      rw [ea] at h3
      have h5 := (hB.2 (a / 16)).2.2.2.1
      refine sq_5o hs ?_
      have hfp := hf p hp
      rw [freeP_tail hz] at hfp
      omega
theorem sq_I {P : PG} (hI : PgI P) {p : Int} (hp : 0 ≤ p ∧ p < 8) : PgI (squeezeP P p) := by
  have hI' := hI
  obtain ⟨⟨hB, hz, hbeh⟩, hin, hf, h4, h5, hD⟩ := hI
  have hs : ∀ a, 0 ≤ P 2 a := fun a => (hB.2 a).2.2.1.1
  have hl := (hB.2 p).2.2.2.1
  have r0 : ∀ z, squeezeP P p 0 z = P 0 z := fun z => sq_row (by decide) (by decide) z
  have r2 : ∀ z, squeezeP P p 2 z = P 2 z := fun z => sq_row (by decide) (by decide) z
  have r3 : ∀ z, squeezeP P p 3 z = P 3 z := fun z => sq_row (by decide) (by decide) z
  have r4 : ∀ z, squeezeP P p 4 z = P 4 z := fun z => sq_row (by decide) (by decide) z
  have r5 : ∀ z, 0 ≤ squeezeP P p 5 z ∧ squeezeP P p 5 z ≤ 255 := fun z => sqz_5b (R := fun x => 0 ≤ x ∧ x ≤ 255) (fun y => h5 _) _ _ _ _ h5 z
  have hin' : ∀ q i : Int, 0 ≤ q ∧ q < 8 → 0 ≤ i ∧ i < 16 → P 0 (q * 16 + i) ≠ 0 → 2 * P 3 q ≤ squeezeP P p 1 (q * 16 + i) ∧ squeezeP P p 1 (q * 16 + i) + P 2 (q * 16 + i) ≤ 64 := by
    intro q i hq hi h0
    by_cases e : q = p
    · subst e
      exact (sq_at hI' hp hi h0).2.2.2
    · rw [sq_1o hl.1 (by omega)]
      exact hin q i hq hi h0
  refine ⟨⟨⟨fun a ha h0 => ?_, fun z => ?_⟩, fun a h => by rw [r2]; rw [r0] at h; exact hz a h, fun q i hq hi => by rw [r0]; rw [r3] at hi; exact hbeh q i hq hi⟩, fun q i hq hi h0 => by rw [r3, r2]; rw [r0] at h0; exact hin' q i hq hi h0, fun q hq => by rw [sq_free]; exact hf q hq, fun z => by rw [r4]; exact h4 z, r5, ?_⟩
  · rw [r2] at h0 ⊢
    have hk : P 0 a ≠ 0 := fun e => by have := hz a e; omega
    have := hin' (a / 16) (a % 16) (by omega) (by omega) (by rw [show a / 16 * 16 + a % 16 = a by omega]; exact hk)
    rw [show a / 16 * 16 + a % 16 = a by omega] at this
    have := (hB.2 (a / 16)).2.2.2.1
    omega
  · have hb := hB.2 z
    have h5z := r5 z
    rw [r0, r2, r3, r4]
    refine ⟨hb.1, ?_, hb.2.2.1, hb.2.2.2.1, hb.2.2.2.2.1, by omega⟩
    by_cases e : z < p * 16 ∨ p * 16 + P 3 p ≤ z ∨ P 0 z = 0
    · rw [sq_1o hl.1 e]; exact hb.2.1
    · have := sq_at hI' (p := p) (i := z - p * 16) hp (by omega) (by rw [show p * 16 + (z - p * 16) = z by omega]; omega)
      rw [show p * 16 + (z - p * 16) = z by omega] at this
      omega
  · intro q i j z hq hi hj hij h0 h0' hc
    rw [r0] at h0 h0'
    rw [r2, r2] at hc
    by_cases e : q = p
    · subst e
      have a1 := sq_at hI' hp hi h0
      have a2 := sq_at hI' hp hj h0'
      by_cases c : i < j
      · have := tail_mo hs q (show i.toNat + 1 ≤ j.toNat by omega)
        omega
      · have := tail_mo hs q (show j.toNat + 1 ≤ i.toNat by omega)
        omega
    · rw [sq_1o hl.1 (by omega), sq_1o hl.1 (by omega)] at hc
      exact hD q i j z hq hi hj hij h0 h0' hc
