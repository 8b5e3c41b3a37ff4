/-! THE REFERENCE'S TOKENS: words, signs, numbers of a token -/
theorem wdB_inj {B : Int → Int} {t : Int} : ∀ (w x : List Nat) (a : Int), wdB B t w a = true → wdB B t x a = true → w = x := by
  intro w
  induction w with
  | nil =>
    intro x a h k
    cases x with
    | nil => rfl
    | cons d x =>
      rw [wdB_n, decide_eq_true_eq] at h
      rw [wdB_c] at k
      simp only [Bool.and_eq_true, decide_eq_true_eq] at k
      omega
  | cons c w ih =>
    intro x a h k
    rw [wdB_c] at h
    simp only [Bool.and_eq_true, decide_eq_true_eq] at h
    cases x with
    | nil => rw [wdB_n, decide_eq_true_eq] at k; omega
    | cons d x =>
      rw [wdB_c] at k
      simp only [Bool.and_eq_true, decide_eq_true_eq] at k
      rw [show c = d by omega, ih x (a + 1) h.2.2 k.2.2]
theorem isWd_inj {B : Int → Int} {f t : Int} {w x : List Nat} (h : isWd B f t w = true) (k : isWd B f t x = true) : w = x := by
  unfold isWd at h k
  simp only [Bool.and_eq_true] at h k
  exact wdB_inj w x f h.2 k.2
theorem plcW_at {B : Int → Int} {f t : Int} : ∀ (ws : List (List Nat)) (p : Int) (i : Nat) (w : List Nat), ws.Nodup → 0 ≤ p → ws[i]? = some w → (plcW B f t ws p = p + i ↔ isWd B f t w = true) := by
  intro ws
  induction ws with
  | nil => intro p i w _ _ h; simp at h
  | cons x ws ih =>
    intro p i w hn hp h
    rw [List.nodup_cons] at hn
    have hr := plcW_r (B := B) (f := f) (t := t) ws (p + 1)
    unfold plcW
    cases i with
    | zero =>
      have e : x = w := by simpa using h
      subst e
      by_cases c : isWd B f t x = true
      · rw [if_pos c]; exact ⟨fun _ => c, fun _ => by omega⟩
      · rw [if_neg c]; exact ⟨fun d => by omega, fun d => absurd d c⟩
    | succ i =>
      have h' : ws[i]? = some w := by simpa using h
      have hm : w ∈ ws := List.mem_of_getElem? h'
      by_cases c : isWd B f t x = true
      · rw [if_pos c]
        refine ⟨fun d => by omega, fun d => ?_⟩
        have := isWd_inj c d
        subst this
        exact absurd hm hn.1
      · rw [if_neg c, ← ih (p + 1) i w hn.2 (by omega) h']
        constructor <;> intro d <;> omega
theorem wrdZ_nd : ∀ k, k < 18 → (wrdZ k).Nodup := by decide
theorem wd_at {B : Int → Int} {st : STK} {k i : Nat} {w : List Nat} (hk : k < 18) (h : (wrdZ k)[i]? = some w) : wd B st k = i ↔ isWd B st.1 st.2.1 w = true := by
  have := plcW_at (B := B) (f := st.1) (t := st.2.1) (wrdZ k) 0 i w (wrdZ_nd k hk) (Int.le_refl _) h
  rw [Int.zero_add] at this
  exact this
theorem wdV_big {B : Int → Int} {f : Int} {k : Nat} (h : 10 < k) : wdV B f k = -1 := by
  obtain ⟨j, rfl⟩ : ∃ j, k = j + 1 := ⟨k - 1, by omega⟩
  show (if j < 10 then _ else -1) = -1
  rw [if_neg (by omega)]
theorem tok_kd {B : Int → Int} {n f q : Int} (hf : f < n) (hk : kdC (B f) = q) (hq : q = 2 ∨ q = 3) : ∀ j, f ≤ j → j < tokE B n f → kdC (B j) = q := by
  intro j j0 j1
  rw [tokE_cons hf hk hq] at j1
  exact runE_q _ _ (by omega) j j0 j1
theorem kd2_b {c : Int} (h : kdC c = 2) : 97 ≤ c ∧ c ≤ 122 := by
  unfold kdC at h
  repeat' split at h
  all_goals omega
theorem kd3_b {c : Int} (h : kdC c = 3) : 48 ≤ c ∧ c ≤ 57 := by
  unfold kdC at h
  repeat' split at h
  all_goals omega
theorem kd2_i {c : Int} (h : 97 ≤ c ∧ c ≤ 122) : kdC c = 2 := by
  unfold kdC
  rw [if_neg (by omega), if_pos h]
theorem isWd_val {B : Int → Int} {n : Int} {st : STK} (hT : StT B n st) {w : List Nat} (hw : letW w) (hl : 1 ≤ w.length ∧ w.length ≤ 10) : isWd B st.1 st.2.1 w = true ↔ srtT B n st.1 = 1 ∧ wthT B n st.1 = valR w.reverse := by
  have hst := hT.1.1
  have he := hT.2.1
  have hr : letW w.reverse := fun c hc => hw c (List.mem_reverse.mp hc)
  have h0 := valR_nn _ hr
  unfold isWd srtT wthT
  rw [he]
  by_cases cf : st.1 < n
  · have hE := tokE_r (B := B) (n := n) (f := st.1) (by omega)
    rw [if_pos cf, if_pos cf, decide_eq_true (show st.1 < tokE B n st.1 from hE.2.2 cf), Bool.true_and]
    by_cases c2 : kdC (B st.1) = 2
    · have hb : ∀ j, st.1 ≤ j → j < tokE B n st.1 → 97 ≤ B j ∧ B j ≤ 122 := fun j j0 j1 => kd2_b (tok_kd cf c2 (Or.inl rfl) j j0 j1)
      rw [if_pos c2, if_pos c2]
      by_cases ck : (tokE B n st.1 - st.1).toNat ≤ 10
      · have := wd_val (B := B) (f := st.1) w.reverse (tokE B n st.1 - st.1).toNat hr ck (fun j j0 j1 => hb j j0 (by omega))
        rw [List.reverse_reverse, show st.1 + ((tokE B n st.1 - st.1).toNat : Int) = tokE B n st.1 by omega] at this
        rw [← this]
        exact ⟨fun h => ⟨rfl, h⟩, fun h => h.2⟩
      · rw [wdV_big (by omega)]
        refine ⟨fun h => ?_, fun h => by omega⟩
        have := wdB_le _ _ h
        omega
    · rw [if_neg c2, if_neg c2]
      refine ⟨fun h => ?_, fun h => by split at h <;> omega⟩
      cases w with
      | nil => exact absurd hl.1 (by decide)
      | cons c w =>
        rw [wdB_c] at h
        simp only [Bool.and_eq_true, decide_eq_true_eq] at h
        have := hw c (List.mem_cons_self ..)
        exact absurd (kd2_i (c := B st.1) (by omega)) c2
  · have hE : tokE B n st.1 = st.1 := by unfold tokE; rw [if_neg cf]
    rw [if_neg cf, if_neg cf, hE, decide_eq_false (show ¬ st.1 < st.1 by omega), Bool.false_and]
    exact ⟨fun h => (by cases h), fun h => (by omega)⟩
theorem isWd_sgn {B : Int → Int} {n : Int} {st : STK} (hT : StT B n st) {c : Nat} (hc : kdC c = 1) : isWd B st.1 st.2.1 [c] = true ↔ srtT B n st.1 = 3 ∧ wthT B n st.1 = c := by
  have hst := hT.1.1
  have he := hT.2.1
  unfold isWd srtT wthT
  rw [he, wdB_c, wdB_n]
  simp only [Bool.and_eq_true, decide_eq_true_eq]
  by_cases cf : st.1 < n
  · rw [if_pos cf, if_pos cf]
    have hE := tokE_r (B := B) (n := n) (f := st.1) (by omega)
    have hE2 := hE.2.2 cf
    by_cases c2 : kdC (B st.1) = 2
    · rw [if_pos c2, if_pos c2]
      refine ⟨fun h => ?_, fun h => by omega⟩
      rw [h.2.2.1] at c2
      omega
    · rw [if_neg c2, if_neg c2]
      by_cases c3 : kdC (B st.1) = 3
      · rw [if_pos c3, if_pos c3]
        refine ⟨fun h => ?_, fun h => by omega⟩
        rw [h.2.2.1] at c3
        omega
      · rw [if_neg c3, if_neg c3]
        have hE3 : tokE B n st.1 = st.1 + 1 := by unfold tokE; rw [if_pos cf, if_neg (by omega)]
        exact ⟨fun h => ⟨rfl, h.2.2.1⟩, fun h => ⟨by omega, by omega, h.2, by omega⟩⟩
  · have hE : tokE B n st.1 = st.1 := by unfold tokE; rw [if_neg cf]
    rw [if_neg cf, hE]
    exact ⟨fun h => by omega, fun h => by omega⟩
theorem wdV_r {B : Int → Int} {f : Int} : ∀ (k : Nat), k ≤ 10 → (∀ j, f ≤ j → j < f + k → 97 ≤ B j ∧ B j ≤ 122) → 0 ≤ wdV B f k ∧ wdV B f k < pw32 k := by
  intro k
  induction k with
  | zero => intro _ _; exact ⟨Int.le_refl _, show (0 : Int) < 1 by decide⟩
  | succ k ih =>
    intro hk hb
    have h1 := ih (by omega) (fun j j0 j1 => hb j j0 (by omega))
    have h2 := hb (f + k) (by omega) (by omega)
    show 0 ≤ (if k < 10 then wdV B f k * 32 + B (f + k) - 96 else -1) ∧ (if k < 10 then wdV B f k * 32 + B (f + k) - 96 else -1) < 32 * pw32 k
    rw [if_pos (by omega)]
    omega
theorem dgV_r {B : Int → Int} {f : Int} : ∀ (k : Nat), (∀ j, f ≤ j → j < f + k → 48 ≤ B j ∧ B j ≤ 57) → 0 ≤ dgV B f k ∧ dgV B f k ≤ 10000009 := by
  intro k
  induction k with
  | zero => intro _; exact ⟨Int.le_refl _, show (0 : Int) ≤ 10000009 by decide⟩
  | succ k ih =>
    intro hb
    have h1 := ih (fun j j0 j1 => hb j j0 (by omega))
    have h2 := hb (f + k) (by omega) (by omega)
    show 0 ≤ (if 1000000 < dgV B f k then dgV B f k else dgV B f k * 10 + B (f + k) - 48) ∧ (if 1000000 < dgV B f k then dgV B f k else dgV B f k * 10 + B (f + k) - 48) ≤ 10000009
    split <;> omega
theorem wthT_r {B : Int → Int} {n f : Int} (hf : 0 ≤ f) (hB : ∀ z, 0 ≤ z → z < n → 0 ≤ B z ∧ B z ≤ 255) : -1 ≤ wthT B n f ∧ wthT B n f ≤ 1125899906842624 := by
  unfold wthT
  by_cases cf : f < n
  · have hE := tokE_r (B := B) (n := n) (f := f) (by omega)
    rw [if_pos cf]
    by_cases c2 : kdC (B f) = 2
    · rw [if_pos c2]
      by_cases ck : (tokE B n f - f).toNat ≤ 10
      · have := wdV_r (B := B) (f := f) _ ck (fun j j0 j1 => kd2_b (tok_kd cf c2 (Or.inl rfl) j j0 (by omega)))
        have := pw32_10 ck
        omega
      · rw [wdV_big (by omega)]
        omega
    · rw [if_neg c2]
      by_cases c3 : kdC (B f) = 3
      · rw [if_pos c3]
        have := dgV_r (B := B) (f := f) (tokE B n f - f).toNat (fun j j0 j1 => kd3_b (tok_kd cf c3 (Or.inr rfl) j j0 (by omega)))
        omega
      · rw [if_neg c3]
        have := hB f hf cf
        omega
  · rw [if_neg cf]; omega
theorem srtT_r (B : Int → Int) (n f : Int) : 0 ≤ srtT B n f ∧ srtT B n f ≤ 3 := by
  unfold srtT
  repeat' split
  all_goals omega
/-! numbers -/
theorem nuL_snoc {B : Int → Int} : ∀ (k : Nat) (i x : Int), nuL B (k + 1) i x = min (10 * nuL B k i x + B (i + k) - 48) 1001 := by
  intro k
  induction k with
  | zero =>
    intro i x
    show min (10 * x + B i - 48) 1001 = min (10 * x + B (i + ((0 : Nat) : Int)) - 48) 1001
    rw [show i + ((0 : Nat) : Int) = i by omega]
  | succ k ih =>
    intro i x
    show nuL B (k + 1) (i + 1) (min (10 * x + B i - 48) 1001) = _
    rw [ih]
    show _ = min (10 * nuL B k (i + 1) (min (10 * x + B i - 48) 1001) + B (i + ((k + 1 : Nat) : Int)) - 48) 1001
    rw [show i + 1 + (k : Int) = i + ((k + 1 : Nat) : Int) by omega]
theorem nu_dg {B : Int → Int} {f : Int} : ∀ (k : Nat), (∀ j, f ≤ j → j < f + k → 48 ≤ B j ∧ B j ≤ 57) → nuL B k f 0 = min (dgV B f k) 1001 := by
  intro k
  induction k with
  | zero => intro _; rfl
  | succ k ih =>
    intro hb
    have h2 := hb (f + k) (by omega) (by omega)
    rw [nuL_snoc, ih (fun j j0 j1 => hb j j0 (by omega))]
    show _ = min (if 1000000 < dgV B f k then dgV B f k else dgV B f k * 10 + B (f + k) - 48) 1001
    split <;> omega
theorem nm_val {B : Int → Int} {n : Int} {st : STK} (hT : StT B n st) {lo hi : Int} (hl : 0 ≤ lo ∧ hi ≤ 1000) : nm B n st lo hi = if srtT B n st.1 = 2 ∧ lo ≤ wthT B n st.1 ∧ wthT B n st.1 ≤ hi then wthT B n st.1 else -1 := by
  have hst := hT.1.1
  have he := hT.2.1
  unfold nm numP srtT wthT
  by_cases cf : st.1 < n
  · have hE := tokE_r (B := B) (n := n) (f := st.1) (by omega)
    rw [if_pos cf, if_pos cf]
    by_cases c2 : kdC (B st.1) = 2
    · rw [if_pos c2, if_neg (fun c => by omega), if_neg (fun c => by omega)]
    · rw [if_neg c2, if_neg c2]
      by_cases c3 : kdC (B st.1) = 3
      · rw [if_pos c3, if_pos c3, if_pos ⟨cf, c3⟩]
        have hb : ∀ j, st.1 ≤ j → j < tokE B n st.1 → 48 ≤ B j ∧ B j ≤ 57 := fun j j0 j1 => kd3_b (tok_kd cf c3 (Or.inr rfl) j j0 j1)
        have e1 : nuP B st.1 st.2.1 = min (dgV B st.1 (tokE B n st.1 - st.1).toNat) 1001 := by
          unfold nuP
          rw [he, nu_dg _ (fun j j0 j1 => hb j j0 (by omega))]
        rw [e1]
        by_cases cl : lo ≤ min (dgV B st.1 (tokE B n st.1 - st.1).toNat) 1001 ∧ min (dgV B st.1 (tokE B n st.1 - st.1).toNat) 1001 ≤ hi
        · rw [if_pos cl, if_pos ⟨rfl, by omega, by omega⟩]; omega
        · rw [if_neg cl, if_neg (fun d => cl ⟨by omega, by omega⟩)]
      · rw [if_neg c3, if_neg c3, if_neg (fun c => c3 c.2), if_neg (fun c => by omega)]
  · rw [if_neg cf, if_neg (fun c => cf c.1), if_neg (fun c => by omega)]
