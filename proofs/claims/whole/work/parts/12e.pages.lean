/-! PAGES, AS NUMBERS: order, ranks -/
theorem byteP_r {P : PG} (hB : PgB P) (a y : Int) : -1000 ≤ byteP P a y ∧ byteP P a y ≤ 1000 := by
  have key : ∀ n a y, -1000 ≤ byteL P n a y ∧ byteL P n a y ≤ 1000 := by
    intro n
    induction n with
    | zero => intro a y; unfold byteL; omega
    | succ n ih =>
      intro a y
      unfold byteL
      split
      · omega
      · split
        · exact byteC_r hB _ _
        · exact ih _ _
  exact key 128 a y
def aheadL (P : PG) (a b : Int) : Nat → Int → Int
  | 0, _ => 0
  | n + 1, y => if byteP P a y = byteP P b y then (if byteP P a y = -1 then (if a < b then 1 else 0) else aheadL P a b n (y + 1)) else (if byteP P a y < byteP P b y then 1 else 0)
def aheadP (P : PG) (a b : Int) : Int := aheadL P a b 201 0
theorem s_aheadL {s : AS} {b : Nat} {P : PG} (h : PgR s b P) (hB : PgB P) {a c : Int} (ha : 0 ≤ a ∧ a < 128) (hc : 0 ≤ c ∧ c < 128) : ∀ (k n : Nat) (y : Int), y + k = 201 → k < n → 0 ≤ y →
    l_Pages_isAhead_2 s n b (v a) (v c) (v y) = some (v (aheadL P a c k y)) := by
  intro k
  induction k with
  | zero =>
    intro n y hi hn hy
    obtain ⟨n, rfl⟩ : ∃ m, n = m + 1 := ⟨n - 1, by omega⟩
    simp (disch := omega) only [l_Pages_isAhead_2, b_Pages_isAhead_2, nv200, nv0, v_lt]
    rw [if_pos (by omega), aheadL]
  | succ k ih =>
    intro n y hi hn hy
    obtain ⟨n, rfl⟩ : ∃ m, n = m + 1 := ⟨n - 1, by omega⟩
    have h1 := s_byteAt (a := a) (y := y) h hB (by omega) (by omega)
    have h2 := s_byteAt (a := c) (y := y) h hB (by omega) (by omega)
    have r1 := byteP_r hB a y
    have r2 := byteP_r hB c y
    simp (disch := omega) only [l_Pages_isAhead_2, b_Pages_isAhead_2, h.1.1, if_true, h1, h2, Option.bind_some, v_lt, v_inj, nv200, nv1, nv0, v_add, v_neg, vif]
    rw [if_neg (by omega), aheadL]
    split
    · split
      · rfl
      · exact ih n (y + 1) (by omega) (by omega) (by omega)
    · rfl
theorem s_isAhead {s : AS} {b : Nat} {P : PG} (h : PgR s b P) (hB : PgB P) {a c : Int} (ha : 0 ≤ a ∧ a < 128) (hc : 0 ≤ c ∧ c < 128) : f_Pages_isAhead s b (v a) (v c) = some (v (aheadP P a c)) :=
  s_aheadL h hB ha hc 201 fuel 0 (by omega) (by unfold fuel; omega) (by omega)
theorem aheadP_r (P : PG) (a c : Int) : 0 ≤ aheadP P a c ∧ aheadP P a c ≤ 1 := by
  have key : ∀ n y, 0 ≤ aheadL P a c n y ∧ aheadL P a c n y ≤ 1 := by
    intro n
    induction n with
    | zero => intro y; unfold aheadL; omega
    | succ n ih =>
      intro y
      unfold aheadL
      split
      · split
        · split <;> omega
        · exact ih _
      · split <;> omega
  exact key 201 0
def rankP (P : PG) (a : Int) (n : Nat) : Int := sumZ (fun o => if recP P o ∧ aheadP P o a = 1 then 1 else 0) n
theorem s_rankL {s : AS} {b : Nat} {P : PG} (h : PgR s b P) (hB : PgB P) {a : Int} (ha : 0 ≤ a ∧ a < 128) : ∀ (k n i : Nat), i + k = 128 → k < n →
    l_Pages_rankOf_4 s n b (v a) (v (rankP P a i)) (v i) = some (v (rankP P a 128)) := by
  intro k
  induction k with
  | zero =>
    intro n i hi hn
    obtain ⟨n, rfl⟩ : ∃ m, n = m + 1 := ⟨n - 1, by omega⟩
    simp (disch := omega) only [l_Pages_rankOf_4, b_Pages_rankOf_4, nv128, v_lt]
    rw [if_neg (by omega), show i = 128 by omega]
  | succ k ih =>
    intro n i hi hn
    obtain ⟨n, rfl⟩ : ∃ m, n = m + 1 := ⟨n - 1, by omega⟩
    have h1 := s_isRecord (a := i) h hB (by omega)
    have h2 := s_isAhead (a := i) (c := a) h hB (by omega) ha
    have hr := bi_r (c := recP P i)
    have hq := aheadP_r P i a
    simp (disch := omega) only [l_Pages_rankOf_4, b_Pages_rankOf_4, h.1.1, if_true, h1, h2, Option.bind_some, v_lt, v_inj, nv128, nv1, nv0, v_add, bi_0]
    rw [if_pos (by omega)]
    have hs := ih n (i + 1) (by omega) (by omega)
    rw [show ((i + 1 : Nat) : Int) = (i : Int) + 1 by omega] at hs
    rw [show rankP P a (i + 1) = rankP P a i + (if recP P (i : Int) ∧ aheadP P i a = 1 then 1 else 0) from rfl] at hs
    by_cases hc : recP P (i : Int)
    · rw [if_neg (fun h => h hc)]
      by_cases hd : aheadP P i a = 1
      · rw [if_pos ⟨hc, hd⟩] at hs
        rw [if_neg (by omega)]
        exact hs
      · rw [if_neg (fun h => hd h.2), Int.add_zero] at hs
        rw [if_pos (by omega)]
        exact hs
    · rw [if_pos hc]
      rw [if_neg (fun h => hc h.1), Int.add_zero] at hs
      exact hs
theorem s_rankOf {s : AS} {b : Nat} {P : PG} (h : PgR s b P) (hB : PgB P) {a : Int} (ha : 0 ≤ a ∧ a < 128) : f_Pages_rankOf s b (v a) = some (v (rankP P a 128)) :=
  s_rankL h hB ha 128 fuel 0 (by omega) (by unfold fuel; omega)
/-! rows of bytes -/
def IsRow (s : AS) (c n : Nat) : Prop := sT s c = 9 ∧ sR s c 0 = c + 1 ∧ sT s (c + 1) = 20 ∧ sN s (c + 1) = n
def RwR (s : AS) (c n : Nat) (B : Int → Int) (len : Int) : Prop := IsRow s c n ∧ sI s c 1 = v len ∧ ∀ z : Int, 0 ≤ z ∧ z < n → sI s (c + 1) z.toNat = v (B z)
def RwB (B : Int → Int) : Prop := ∀ z, -1000 ≤ B z ∧ B z ≤ 1000
def holdL (P : PG) (a : Int) (B : Int → Int) : Nat → Int → Int
  | 0, _ => 1
  | n + 1, y => if byteP P a y = B y then holdL P a B n (y + 1) else 0
def holdP (P : PG) (a : Int) (B : Int → Int) (len : Int) : Int := if sizeP P a = len then holdL P a B len.toNat 0 else 0
theorem s_holdL {s : AS} {b : Nat} {P : PG} (h : PgR s b P) (hB : PgB P) {a : Int} (ha : 0 ≤ a ∧ a < 128) {c m : Nat} {B : Int → Int} {len : Int} (hr : RwR s c m B len) (hb : RwB B) (hm : 0 ≤ len ∧ len ≤ m ∧ m ≤ 400) : ∀ (k n : Nat) (y : Int), y + k = len → k < n → 0 ≤ y →
    l_Pages_holdsJust_16 s n b (v a) c (v y) = some (v (holdL P a B k y)) := by
  obtain ⟨⟨r1, r2, r3, r4⟩, r5, r6⟩ := hr
  intro k
  induction k with
  | zero =>
    intro n y hi hn hy
    obtain ⟨n, rfl⟩ : ∃ m, n = m + 1 := ⟨n - 1, by omega⟩
    simp (disch := omega) only [l_Pages_holdsJust_16, b_Pages_holdsJust_16, r1, r5, if_true, nv1, v_lt]
    rw [if_neg (by omega), holdL]
  | succ k ih =>
    intro n y hi hn hy
    obtain ⟨n, rfl⟩ : ∃ m, n = m + 1 := ⟨n - 1, by omega⟩
    have h1 := s_byteAt (a := a) (y := y) h hB (by omega) (by omega)
    have q1 := byteP_r hB a y
    have q2 := hb y
    simp (disch := omega) only [l_Pages_holdsJust_16, b_Pages_holdsJust_16, h.1.1, r1, r2, r3, r4, r5, r6, v_inT, v_ix, and_self, if_true, h1, Option.bind_some, v_lt, v_inj, nv1, nv0, v_add]
    rw [if_pos (by omega), holdL]
    split
    · exact ih n (y + 1) (by omega) (by omega) (by omega)
    · rfl
theorem sizeL_r {P : PG} (hB : PgB P) : ∀ (n : Nat) (a : Int), -2 * (n : Int) ≤ sizeL P n a ∧ sizeL P n a ≤ 40 * (n : Int) := by
  intro n
  induction n with
  | zero => intro a; unfold sizeL; omega
  | succ n ih =>
    intro a
    have h1 := ih (nextP P a)
    have h2 := hB.2 a
    have h3 := linkP_r P a
    unfold sizeL
    split <;> omega
theorem s_holdsJust {s : AS} {b : Nat} {P : PG} (h : PgR s b P) (hB : PgB P) {a : Int} (ha : 0 ≤ a ∧ a < 128) {c m : Nat} {B : Int → Int} {len : Int} (hr : RwR s c m B len) (hb : RwB B) (hm : 0 ≤ len ∧ len ≤ m ∧ m ≤ 400) : f_Pages_holdsJust s b (v a) c = some (v (holdP P a B len)) := by
  have hl := s_holdL h hB ha hr hb hm len.toNat fuel 0 (by omega) (by unfold fuel; omega) (by omega)
  have h1 := s_sizeOf (a := a) h hB (by omega)
  have hz := sizeL_r hB 128 a
  have hz' : -256 ≤ sizeP P a ∧ sizeP P a ≤ 5120 := hz
  obtain ⟨⟨r1, r2, r3, r4⟩, r5, r6⟩ := hr
  unfold f_Pages_holdsJust holdP
  simp (disch := omega) only [h.1.1, h1, Option.bind_some, r1, r5, if_true, v_inj, nv0]
  rw [show v 0 = v 0 from rfl, hl]
  split <;> rfl
theorem sumZ_r {f : Int → Int} {m : Int} (hm : 0 ≤ m) (h : ∀ z, 0 ≤ f z ∧ f z ≤ m) : ∀ n : Nat, 0 ≤ sumZ f n ∧ sumZ f n ≤ m * n := by
  intro n
  induction n with
  | zero => unfold sumZ; simp
  | succ n ih =>
    have := h n
    unfold sumZ
    rw [show (m * ((n + 1 : Nat) : Int)) = m * n + m by rw [Int.natCast_add, Int.mul_add]; simp]
    omega
theorem freeP_r {P : PG} (hB : PgB P) (p : Int) : -500 ≤ freeP P p ∧ freeP P p ≤ 64 := by
  have h := sumZ_r (f := fun k => P 2 (p * 16 + k)) (m := 40) (by decide) (fun z => (hB.2 _).2.2.1) (P 3 p).toNat
  have hb := hB.2 p
  unfold freeP
  omega
theorem wasteP_r {P : PG} (hB : PgB P) (p : Int) : -2000 ≤ wasteP P p ∧ wasteP P p ≤ 2000 := by
  have h1 := freeP_r hB p
  have h2 := minL_r hB p (P 3 p).toNat
  have hb := hB.2 p
  unfold wasteP gapP lowP
  omega
def wrankP (P : PG) (p : Int) (n : Nat) : Int := sumZ (fun o => if wasteP P p < wasteP P o ∨ (wasteP P o = wasteP P p ∧ o < p) then 1 else 0) n
theorem s_wrankL {s : AS} {b : Nat} {P : PG} (h : PgR s b P) (hB : PgB P) {p : Int} (hp : 0 ≤ p ∧ p < 8) : ∀ (k n i : Nat), i + k = 8 → k < n →
    l_Pages_wasteRankOf_11 s n b (v p) (v (wasteP P p)) (v (wrankP P p i)) (v i) = some (v (wrankP P p 8)) := by
  intro k
  induction k with
  | zero =>
    intro n i hi hn
    obtain ⟨n, rfl⟩ : ∃ m, n = m + 1 := ⟨n - 1, by omega⟩
    simp (disch := omega) only [l_Pages_wasteRankOf_11, b_Pages_wasteRankOf_11, nv8, v_lt]
    rw [if_neg (by omega), show i = 8 by omega]
  | succ k ih =>
    intro n i hi hn
    obtain ⟨n, rfl⟩ : ∃ m, n = m + 1 := ⟨n - 1, by omega⟩
    have h1 := s_wasteOf (p := i) h hB (by omega)
    have q1 := wasteP_r hB i
    have q2 := wasteP_r hB p
    simp (disch := omega) only [l_Pages_wasteRankOf_11, b_Pages_wasteRankOf_11, h.1.1, if_true, h1, Option.bind_some, v_lt, v_inj, nv8, nv1, nv0, v_add]
    rw [if_pos (by omega)]
    have hs := ih n (i + 1) (by omega) (by omega)
    rw [show ((i + 1 : Nat) : Int) = (i : Int) + 1 by omega] at hs
    rw [show wrankP P p (i + 1) = wrankP P p i + (if wasteP P p < wasteP P i ∨ (wasteP P i = wasteP P p ∧ (i : Int) < p) then 1 else 0) from rfl] at hs
    by_cases hc : wasteP P p < wasteP P i
    · rw [if_pos (Or.inl hc)] at hs
      rw [if_pos hc]
      exact hs
    · rw [if_neg hc]
      by_cases hd : wasteP P i = wasteP P p
      · rw [if_pos hd]
        by_cases he : (i : Int) < p
        · rw [if_pos (Or.inr ⟨hd, he⟩)] at hs
          rw [if_pos he]
          exact hs
        · rw [if_neg (by omega), Int.add_zero] at hs
          rw [if_neg he]
          exact hs
      · rw [if_neg (by omega), Int.add_zero] at hs
        rw [if_neg hd]
        exact hs
theorem s_wasteRankOf {s : AS} {b : Nat} {P : PG} (h : PgR s b P) (hB : PgB P) {p : Int} (hp : 0 ≤ p ∧ p < 8) : f_Pages_wasteRankOf s b (v p) = some (v (wrankP P p 8)) := by
  unfold f_Pages_wasteRankOf
  simp only [h.1.1, if_true, s_wasteOf h hB hp, Option.bind_some]
  exact s_wrankL h hB hp 8 fuel 0 (by omega) (by unfold fuel; omega)
