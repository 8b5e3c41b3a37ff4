/-! PAGES, PURELY: laying whole; who points where; a cell leaves -/
section LP
variable {P : PG} {a kind len : Int} {B : Int → Int}
theorem layP_q (hI : PgI P) (hc : canL P a kind B len) (hf : needL P a len ≤ freeP P (a / 16)) :
    ∃ Q, layP P a kind B len = layQ Q a kind B len ∧ PgI Q ∧ canL Q a kind B len ∧ needL Q a len ≤ gapP Q (a / 16) ∧ needL Q a len ≤ freeP Q (a / 16) ∧ (∀ z, Q 0 z = P 0 z) ∧ (∀ z, Q 2 z = P 2 z) ∧ (∀ z, Q 3 z = P 3 z) ∧ (∀ z, Q 4 z = P 4 z) ∧ (∀ b k, 0 ≤ b ∧ b < 128 → byteC Q b k = byteC P b k) ∧ ∀ q, freeP Q q = freeP P q := by
  have hp : 0 ≤ a / 16 ∧ a / 16 < 8 := by have := hc.1; omega
  unfold layP
  by_cases c : gapP P (a / 16) < needL P a len
  · rw [if_pos c]
    have h3 : ∀ z, squeezeP P (a / 16) 3 z = P 3 z := fun z => sq_row (by decide) (by decide) z
    have h0 : ∀ z, squeezeP P (a / 16) 0 z = P 0 z := fun z => sq_row (by decide) (by decide) z
    have hg := sq_gap (P := P) (p := a / 16) hI.1.2.1 (fun a => (hI.1.1.2 a).2.2.1.1) (hI.1.1.2 (a / 16)).2.2.2.1.1
    have hn : needL (squeezeP P (a / 16)) a len = needL P a len := by unfold needL; rw [h3]
    refine ⟨_, rfl, sq_I hI hp, ?_, by rw [hn, hg]; exact hf, by rw [hn, sq_free]; exact hf, h0, fun z => sq_row (by decide) (by decide) z, h3, fun z => sq_row (by decide) (by decide) z, fun b k hb => sq_byte hI hp hb, fun q => sq_free⟩
    unfold canL at hc ⊢
    rw [h3, h0]
    exact hc
  · rw [if_neg c]
    exact ⟨P, rfl, hI, hc, by omega, hf, fun _ => rfl, fun _ => rfl, fun _ => rfl, fun _ => rfl, fun _ _ _ => rfl, fun _ => rfl⟩
theorem layP_I (hI : PgI P) (hc : canL P a kind B len) (hf : needL P a len ≤ freeP P (a / 16)) : PgI (layP P a kind B len) := by
  obtain ⟨Q, e, q1, q2, q3, q4, -⟩ := layP_q hI hc hf
  rw [e]
  exact layQ_I q1 q2 q3 q4
theorem layP_0 (hI : PgI P) (hc : canL P a kind B len) (hf : needL P a len ≤ freeP P (a / 16)) (z : Int) : layP P a kind B len 0 z = if z = a then kind else P 0 z := by
  obtain ⟨Q, e, q1, q2, q3, q4, q5, -⟩ := layP_q hI hc hf
  rw [e, layQ_0, q5]
theorem layP_2 (hI : PgI P) (hc : canL P a kind B len) (hf : needL P a len ≤ freeP P (a / 16)) (z : Int) : layP P a kind B len 2 z = if z = a then len else P 2 z := by
  obtain ⟨Q, e, q1, q2, q3, q4, q5, q6, -⟩ := layP_q hI hc hf
  rw [e, layQ_2, q6]
theorem layP_3 (hI : PgI P) (hc : canL P a kind B len) (hf : needL P a len ≤ freeP P (a / 16)) (z : Int) : layP P a kind B len 3 z = if z = a / 16 then max (P 3 (a / 16)) (a % 16 + 1) else P 3 z := by
  obtain ⟨Q, e, q1, q2, q3, q4, q5, q6, q7, -⟩ := layP_q hI hc hf
  rw [e, layQ_3, q7, q7]
theorem layP_b (hI : PgI P) (hc : canL P a kind B len) (hf : needL P a len ≤ freeP P (a / 16)) {b k : Int} (hb : 0 ≤ b ∧ b < 128) : byteC (layP P a kind B len) b k = if b = a then (if k < 0 ∨ len ≤ k then -1 else B k) else byteC P b k := by
  obtain ⟨Q, e, q1, q2, q3, q4, q5, q6, q7, q8, q9, -⟩ := layP_q hI hc hf
  rw [e, layQ_b q1 q2 q3 hb, q9 b k hb]
theorem layP_f1 (hI : PgI P) (hc : canL P a kind B len) (hf : needL P a len ≤ freeP P (a / 16)) : freeP (layP P a kind B len) (a / 16) = freeP P (a / 16) - needL P a len := by
  obtain ⟨Q, e, q1, q2, q3, q4, q5, q6, q7, q8, q9, q10⟩ := layP_q hI hc hf
  rw [e, layQ_f1 q1.1 q2.1 q2.2.1.1 q2.2.2.1, q10]
  unfold needL
  rw [q7]
theorem layP_f2 (hI : PgI P) (hc : canL P a kind B len) (hf : needL P a len ≤ freeP P (a / 16)) {q : Int} (hq : q ≠ a / 16) : freeP (layP P a kind B len) q = freeP P q := by
  obtain ⟨Q, e, q1, q2, q3, q4, q5, q6, q7, q8, q9, q10⟩ := layP_q hI hc hf
  rw [e, layQ_f2 q2.1 q1.1.1 hq, q10]
end LP
theorem linkP_eq {P R : PG} {a : Int} (h : R 0 a = P 0 a) : linkP R a = linkP P a := by unfold linkP; rw [h]
theorem nextP_eq {P R : PG} {a : Int} (h : R 0 a = P 0 a) (hb : byteC R a 1 = byteC P a 1) : nextP R a = nextP P a := by unfold nextP; rw [linkP_eq h, hb]
def tgtP (P : PG) (a n : Int) : Prop := (P 0 a = 2 ∧ P 0 n = 3) ∨ ((P 0 a = 4 ∨ P 0 a = 5) ∧ P 0 n = 5 ∧ P 2 a = 40)
/-- who points where -/
def PgLk (P : PG) (rk : Int → Int) : Prop := ∀ a : Int, 0 ≤ a ∧ a < 128 → ((P 0 a = 2 → P 2 a = 2) ∧ (P 0 a = 4 → P 2 a = 40) ∧ (P 0 a = 5 → 3 ≤ P 2 a)) ∧ (linkP P a ≠ 0 → (byteC P a 0 = 255 ∧ byteC P a 1 = 255) ∨ (byteC P a 0 = 0 ∧ 0 ≤ byteC P a 1 ∧ byteC P a 1 < 128)) ∧ (nextP P a ≠ -1 → tgtP P a (nextP P a) ∧ rk a = rk (nextP P a) + 1 ∧ ∀ b, 0 ≤ b ∧ b < 128 → nextP P b = nextP P a → b = a) ∧ (P 0 a = 2 → nextP P a ≠ -1) ∧ (0 ≤ rk a ∧ rk a ≤ 6)
def NoPt (P : PG) (n : Int) : Prop := ∀ b, 0 ≤ b ∧ b < 128 → nextP P b ≠ n
def PgG (P : PG) : Prop := PgI P ∧ ∃ rk, PgLk P rk
theorem sq_next {P : PG} (hI : PgI P) {p a : Int} (hp : 0 ≤ p ∧ p < 8) (ha : 0 ≤ a ∧ a < 128) : nextP (squeezeP P p) a = nextP P a := nextP_eq (sq_row (by decide) (by decide) a) (sq_byte hI hp ha)
theorem PgLk.cong {P R : PG} {rk : Int → Int} (h : PgLk P rk) (h0 : ∀ z, R 0 z = P 0 z) (h2 : ∀ z, R 2 z = P 2 z) (hb : ∀ b k, 0 ≤ b ∧ b < 128 → byteC R b k = byteC P b k) : PgLk R rk := by
  have hn : ∀ b, 0 ≤ b ∧ b < 128 → nextP R b = nextP P b := fun b hb' => nextP_eq (h0 b) (hb b 1 hb')
  intro a ha
  obtain ⟨a1, a2, a3, a4, a5⟩ := h a ha
  refine ⟨by rw [h0, h2]; exact a1, by rw [linkP_eq (h0 a), hb a 0 ha, hb a 1 ha]; exact a2, ?_, by rw [h0, hn a ha]; exact a4, a5⟩
  rw [hn a ha]
  intro e
  obtain ⟨b1, b2, b3⟩ := a3 e
  refine ⟨?_, b2, fun b hb' he => b3 b hb' (by rw [← hn b hb']; exact he)⟩
  unfold tgtP
  rw [h0, h0, h2]
  exact b1
theorem sq_G {P : PG} (h : PgG P) {p : Int} (hp : 0 ≤ p ∧ p < 8) : PgG (squeezeP P p) := by
  obtain ⟨hI, rk, hk⟩ := h
  exact ⟨sq_I hI hp, rk, hk.cong (fun z => sq_row (by decide) (by decide) z) (fun z => sq_row (by decide) (by decide) z) (fun b k hb => sq_byte hI hp hb)⟩
theorem lay_Lk {P : PG} {a kind len n : Int} {B rk : Int → Int} (hI : PgI P) (hk : PgLk P rk) (hc : canL P a kind B len) (hf : needL P a len ≤ freeP P (a / 16)) (hsz : (kind = 2 → len = 2) ∧ (kind = 4 → len = 40) ∧ (kind = 5 → 3 ≤ len))
    (hn : (n = -1 ∧ kind ≠ 2 ∧ (kind = 4 ∨ kind = 5 → B 0 = 255 ∧ B 1 = 255)) ∨ ((0 ≤ n ∧ n < 128) ∧ B 0 = 0 ∧ B 1 = n ∧ ((kind = 2 ∧ P 0 n = 3) ∨ ((kind = 4 ∨ kind = 5) ∧ P 0 n = 5 ∧ len = 40)) ∧ NoPt P n ∧ rk n ≤ 5)) :
    PgLk (layP P a kind B len) (bu rk a (if n = -1 then 0 else rk n + 1)) ∧ NoPt (layP P a kind B len) a ∧ (∀ x, NoPt P x → x ≠ n → NoPt (layP P a kind B len) x) ∧ nextP (layP P a kind B len) a = n := by
  have h0 := layP_0 hI hc hf
  have h2 := layP_2 hI hc hf
  have hb := fun b k hb => layP_b (b := b) (k := k) hI hc hf hb
  have hno : ∀ b, 0 ≤ b ∧ b < 128 → nextP P b ≠ a := by
    intro b hb' e
    have := (hk b hb').2.2.1 (by rw [e]; have := hc.1; omega)
    unfold tgtP at this
    rw [e, hc.2.2.1] at this
    omega
  have na : nextP (layP P a kind B len) a = n := by
    have hl2 : (kind = 2 ∨ kind = 4 ∨ kind = 5) → ¬ ((1 : Int) < 0 ∨ len ≤ 1) := by omega
    have hlk : (kind = 2 ∨ kind = 4 ∨ kind = 5) → linkP (layP P a kind B len) a = 2 := by
      intro c
      unfold linkP
      rw [h0, if_pos rfl, if_pos c]
    have hb1 : (kind = 2 ∨ kind = 4 ∨ kind = 5) → byteC (layP P a kind B len) a 1 = B 1 := by
      intro c
      rw [hb a 1 hc.1, if_pos rfl, if_neg (hl2 c)]
    unfold nextP
    rcases hn with ⟨e1, e2, e3⟩ | ⟨e1, e2, e3, e4, -⟩
    · by_cases c : kind = 4 ∨ kind = 5
      · obtain ⟨-, b1⟩ := e3 c
        rw [hlk (by omega), if_neg (by decide), hb1 (by omega), b1, e1, if_neg (by decide)]
      · have hlk0 : linkP (layP P a kind B len) a = 0 := by
          unfold linkP
          rw [h0, if_pos rfl, if_neg (by omega)]
        rw [hlk0, if_pos rfl, e1]
    · rw [hlk (by omega), if_neg (by decide), hb1 (by omega), e3, if_pos e1]
  have nb : ∀ b, 0 ≤ b ∧ b < 128 → b ≠ a → nextP (layP P a kind B len) b = nextP P b := fun b hb' e => nextP_eq (by rw [h0, if_neg e]) (by rw [hb b 1 hb', if_neg e])
  have nne : n ≠ a := by
    rcases hn with ⟨e1, -⟩ | ⟨e1, e2, e3, e4, -⟩
    · have := hc.1; omega
    · intro e
      rw [e, hc.2.2.1] at e4
      omega
  refine ⟨fun b hb' => ?_, fun b hb' => ?_, fun x hx hxn b hb' => ?_, na⟩
  · by_cases e : b = a
    · subst e
      have hcut : ∀ k : Int, 0 ≤ k → k < len → byteC (layP P b kind B len) b k = B k := fun k k0 k1 => by rw [hb b k hb', if_pos rfl, if_neg (by omega)]
      refine ⟨by rw [h0, h2, if_pos rfl, if_pos rfl]; exact hsz, fun hl => ?_, fun hx => ?_, ?_, ?_⟩
      · unfold linkP at hl
        rw [h0, if_pos rfl] at hl
        have hkd : kind = 2 ∨ kind = 4 ∨ kind = 5 := by
          by_cases c : kind = 2 ∨ kind = 4 ∨ kind = 5
          · exact c
          · rw [if_neg c] at hl; exact absurd rfl hl
        rw [hcut 0 (by omega) (by omega), hcut 1 (by omega) (by omega)]
        rcases hn with ⟨e1, e2, e3⟩ | ⟨e1, e2, e3, -⟩
        · exact Or.inl (e3 (by omega))
        · exact Or.inr ⟨e2, by omega, by omega⟩
      · rw [na] at hx ⊢
        rcases hn with ⟨e1, -⟩ | ⟨e1, e2, e3, e4, e5, e6⟩
        · exact absurd e1 hx
        · refine ⟨?_, ?_, fun c hc' he => ?_⟩
          · unfold tgtP
            rw [h0, h0, h2, if_pos rfl, if_neg nne, if_pos rfl]
            exact e4
          · unfold bu
            rw [if_pos rfl, if_neg nne, if_neg hx]
          · by_cases ec : c = b
            · exact ec
            · rw [nb c hc' ec] at he
              exact absurd he (e5 c hc')
      · rw [h0, if_pos rfl, na]
        intro ek
        omega
      · unfold bu
        rw [if_pos rfl]
        split
        · omega
        · rcases hn with ⟨e1, -⟩ | ⟨e1, e2, e3, e4, e5, e6⟩
          · omega
          · have := (hk n e1).2.2.2.2
            omega
    · obtain ⟨a1, a2, a3, a4, a5⟩ := hk b hb'
      refine ⟨by rw [h0, h2, if_neg e, if_neg e]; exact a1, by rw [linkP_eq (show layP P a kind B len 0 b = P 0 b by rw [h0, if_neg e]), hb b 0 hb', hb b 1 hb', if_neg e, if_neg e]; exact a2, ?_, by rw [h0, if_neg e, nb b hb' e]; exact a4, by unfold bu; rw [if_neg e]; exact a5⟩
      rw [nb b hb' e]
      intro hx
      obtain ⟨b1, b2, b3⟩ := a3 hx
      have hna := hno b hb'
      refine ⟨?_, by unfold bu; rw [if_neg e, if_neg hna]; exact b2, fun c hc' he => ?_⟩
      · unfold tgtP
        rw [h0, h0, h2, if_neg e, if_neg hna, if_neg e]
        exact b1
      · by_cases ec : c = a
        · rw [ec, na] at he
          rcases hn with ⟨e1, -⟩ | ⟨e1, e2, e3, e4, e5, e6⟩
          · rw [e1] at he; exact absurd he.symm hx
          · exact absurd he.symm (e5 b hb')
        · rw [nb c hc' ec] at he
          exact b3 c hc' he
  · by_cases e : b = a
    · rw [e, na]; exact nne
    · rw [nb b hb' e]; exact hno b hb'
  · by_cases e : b = a
    · rw [e, na]; exact fun c => hxn c.symm
    · rw [nb b hb' e]; exact hx b hb'
/-! a cell leaves -/
theorem trimL_r (P : PG) (p kept : Int) : ∀ n : Nat, (0 ≤ trimL P p kept n ∧ trimL P p kept n ≤ n) ∧ (∀ i : Int, trimL P p kept n ≤ i → i < n → P 0 (p * 16 + i) = 0 ∧ p * 16 + i ≠ kept) ∧ (∀ i : Int, 0 ≤ i → i < n → p * 16 + i = kept → i < trimL P p kept n) := by
  intro n
  induction n with
  | zero => exact ⟨⟨Int.le_refl _, Int.le_refl _⟩, fun i h1 h2 => by have : (0 : Int) ≤ i := h1; omega, fun i h1 h2 => by omega⟩
  | succ n ih =>
    obtain ⟨⟨i1, i2⟩, i3, i4⟩ := ih
    unfold trimL
    by_cases c : P 0 (p * 16 + n) = 0 ∧ ¬ p * 16 + n = kept
    · rw [if_pos c]
      refine ⟨by omega, fun i h1 h2 => ?_, fun i h1 h2 h3 => ?_⟩
      · by_cases e : i = n
        · rw [e]; exact c
        · exact i3 i h1 (by omega)
      · by_cases e : i = n
        · rw [e] at h3; exact absurd h3 c.2
        · exact i4 i h1 (by omega) h3
    · rw [if_neg c]
      exact ⟨by omega, fun i h1 h2 => by omega, fun i h1 h2 h3 => by omega⟩
section CL
variable {P : PG} {a kept : Int}
theorem clearP_0 (z : Int) : clearP P a kept 0 z = if z = a then 0 else P 0 z := by
  unfold clearP
  rw [pu_row _ _ _ _ (by decide), pu_row _ _ _ _ (by decide), pu_v]
theorem clearP_2 (z : Int) : clearP P a kept 2 z = if z = a then 0 else P 2 z := by
  unfold clearP
  rw [pu_row _ _ _ _ (by decide), pu_v, pu_row _ _ _ _ (by decide)]
theorem clearP_3 (z : Int) : clearP P a kept 3 z = if z = a / 16 then trimL (pu P 0 a 0) (a / 16) kept (P 3 (a / 16)).toNat else P 3 z := by
  have ht : ∀ n, trimL (pu (pu P 0 a 0) 2 a 0) (a / 16) kept n = trimL (pu P 0 a 0) (a / 16) kept n := by
    intro n
    induction n with
    | zero => rfl
    | succ n ih => unfold trimL; rw [ih, pu_row _ _ _ _ (by decide)]
  unfold clearP
  rw [pu_v, ht, pu_row _ _ _ _ (by decide), pu_row _ _ _ _ (by decide)]
theorem clearP_j {j : Nat} (h0 : j ≠ 0) (h2 : j ≠ 2) (h3 : j ≠ 3) (z : Int) : clearP P a kept j z = P j z := by
  unfold clearP
  rw [pu_row _ _ _ _ h3, pu_row _ _ _ _ h2, pu_row _ _ _ _ h0]
theorem clearP_byte (b k : Int) : byteC (clearP P a kept) b k = if b = a then -1 else byteC P b k := by
  unfold byteC
  rw [clearP_2, clearP_j (by decide) (by decide) (by decide), clearP_j (by decide) (by decide) (by decide)]
  by_cases e : b = a
  · rw [if_pos e, if_pos e, if_pos (by omega)]
  · rw [if_neg e, if_neg e]
theorem clearP_I (hI : PgI P) (ha : 0 ≤ a ∧ a < 128) : PgI (clearP P a kept) ∧ (∀ q, q ≠ a / 16 → freeP (clearP P a kept) q = freeP P q) ∧ freeP P (a / 16) ≤ freeP (clearP P a kept) (a / 16) := by
  obtain ⟨⟨hB, hz, hbeh⟩, hin, hfr, h4, h5, hD⟩ := hI
  have ht := trimL_r (pu P 0 a 0) (a / 16) kept (P 3 (a / 16)).toNat
  have hl3 := (hB.2 (a / 16)).2.2.2.1
  have f2 : ∀ q, q ≠ a / 16 → freeP (clearP P a kept) q = freeP P q := fun q hq => by
    have := (hB.2 q).2.2.2.1
    exact free_rows (by rw [clearP_3, if_neg hq]) (fun k k0 k1 => by rw [clearP_2, if_neg (by omega)])
  have f1 : freeP P (a / 16) ≤ freeP (clearP P a kept) (a / 16) := by
    unfold freeP
    rw [clearP_3, if_pos rfl]
    have h1 := sumZ_mo (f := fun k => clearP P a kept 2 (a / 16 * 16 + k)) (fun z => by
      show 0 ≤ clearP P a kept 2 _
      rw [clearP_2]
      have := (hB.2 (a / 16 * 16 + z)).2.2.1.1
      split <;> omega) (show (trimL (pu P 0 a 0) (a / 16) kept (P 3 (a / 16)).toNat).toNat ≤ (P 3 (a / 16)).toNat by omega)
    have h2 := sumZ_le (f := fun k => clearP P a kept 2 (a / 16 * 16 + k)) (g := fun k => P 2 (a / 16 * 16 + k)) (n := (P 3 (a / 16)).toNat) (fun k _ => by
      show clearP P a kept 2 _ ≤ P 2 _
      rw [clearP_2]
      have := (hB.2 (a / 16 * 16 + k)).2.2.1.1
      split <;> omega)
    omega
  refine ⟨⟨⟨⟨fun z hzr hz0 => ?_, fun z => ?_⟩, fun z hz0 => ?_, fun p i hp hi => ?_⟩, fun p i hp hi hn => ?_, fun p hp => ?_, fun z => ?_, fun z => ?_, fun p i j z hp hi hj hij hn hn' => ?_⟩, f2, f1⟩
  · rw [clearP_2] at hz0 ⊢
    rw [clearP_j (by decide) (by decide) (by decide)]
    by_cases e : z = a
    · rw [if_pos e] at hz0; omega
    · rw [if_neg e] at hz0 ⊢
      exact hB.1 z hzr hz0
  · have hb := hB.2 z
    rw [clearP_0, clearP_2, clearP_3, clearP_j (j := 1) (by decide) (by decide) (by decide), clearP_j (j := 4) (by decide) (by decide) (by decide), clearP_j (j := 5) (by decide) (by decide) (by decide)]
    refine ⟨by split <;> omega, hb.2.1, by split <;> omega, by split <;> omega, hb.2.2.2.2⟩
  · rw [clearP_2]
    rw [clearP_0] at hz0
    by_cases e : z = a
    · rw [if_pos e]
    · rw [if_neg e] at hz0 ⊢; exact hz z hz0
  · rw [clearP_0]
    rw [clearP_3] at hi
    by_cases e : p * 16 + i = a
    · rw [if_pos e]
    · rw [if_neg e]
      by_cases ep : p = a / 16
      · rw [if_pos ep] at hi
        by_cases c : i < P 3 p
        · have := (ht.2.1 i hi.1 (by rw [← ep]; omega)).1
          rw [pu_v, ← ep, if_neg e] at this
          exact this
        · exact hbeh p i hp ⟨by omega, hi.2⟩
      · rw [if_neg ep] at hi
        exact hbeh p i hp hi
  · rw [clearP_0] at hn
    rw [clearP_3, clearP_2, clearP_j (by decide) (by decide) (by decide)]
    by_cases e : p * 16 + i = a
    · rw [if_pos e] at hn; exact absurd rfl hn
    · rw [if_neg e] at hn ⊢
      have := hin p i hp hi hn
      by_cases ep : p = a / 16
      · rw [if_pos ep]; rw [ep] at this ⊢; omega
      · rw [if_neg ep]; exact this
  · by_cases e : p = a / 16
    · have := hfr p hp; rw [e] at this ⊢; omega
    · rw [f2 p e]; exact hfr p hp
  · rw [clearP_j (by decide) (by decide) (by decide)]; exact h4 z
  · rw [clearP_j (by decide) (by decide) (by decide)]; exact h5 z
  · rw [clearP_0] at hn hn'
    rw [clearP_j (j := 1) (by decide) (by decide) (by decide), clearP_j (j := 1) (by decide) (by decide) (by decide), clearP_2, clearP_2]
    by_cases e1 : p * 16 + i = a
    · rw [if_pos e1] at hn; exact absurd rfl hn
    · by_cases e2 : p * 16 + j = a
      · rw [if_pos e2] at hn'; exact absurd rfl hn'
      · rw [if_neg e1] at hn ⊢
        rw [if_neg e2] at hn' ⊢
        exact hD p i j z hp hi hj hij hn hn'
theorem clearP_Lk {rk : Int → Int} (hk : PgLk P rk) (ha : 0 ≤ a ∧ a < 128) (hno : NoPt P a) : PgLk (clearP P a kept) rk ∧ (∀ b, 0 ≤ b ∧ b < 128 → b ≠ a → nextP (clearP P a kept) b = nextP P b) ∧ nextP (clearP P a kept) a = -1 := by
  have na : nextP (clearP P a kept) a = -1 := by
    have hlk : linkP (clearP P a kept) a = 0 := by
      unfold linkP
      rw [clearP_0, if_pos rfl, if_neg (by decide)]
    unfold nextP
    rw [hlk, if_pos rfl]
  have nb : ∀ b, 0 ≤ b ∧ b < 128 → b ≠ a → nextP (clearP P a kept) b = nextP P b := fun b hb e => nextP_eq (by rw [clearP_0, if_neg e]) (by rw [clearP_byte, if_neg e])
  refine ⟨fun b hb => ?_, nb, na⟩
  obtain ⟨a1, a2, a3, a4, a5⟩ := hk b hb
  by_cases e : b = a
  · rw [e, na]
    refine ⟨by rw [clearP_0, if_pos rfl]; exact ⟨fun h => by omega, fun h => by omega, fun h => by omega⟩, fun h => ?_, fun h => absurd rfl h, by rw [clearP_0, if_pos rfl]; exact fun h => by omega, by rw [← e]; exact a5⟩
    unfold linkP at h
    rw [clearP_0, if_pos rfl, if_neg (by decide)] at h
    exact absurd rfl h
  · refine ⟨by rw [clearP_0, clearP_2, if_neg e, if_neg e]; exact a1, by rw [linkP_eq (show clearP P a kept 0 b = P 0 b by rw [clearP_0, if_neg e]), clearP_byte, clearP_byte, if_neg e, if_neg e]; exact a2, ?_, by rw [clearP_0, if_neg e, nb b hb e]; exact a4, a5⟩
    rw [nb b hb e]
    intro hx
    obtain ⟨b1, b2, b3⟩ := a3 hx
    refine ⟨?_, b2, fun c hc he => ?_⟩
    · unfold tgtP
      rw [clearP_0, clearP_0, clearP_2, if_neg e, if_neg (hno b hb), if_neg e]
      exact b1
    · by_cases ec : c = a
      · rw [ec, na] at he; exact absurd he.symm hx
      · rw [nb c hc ec] at he; exact b3 c hc he
end CL
