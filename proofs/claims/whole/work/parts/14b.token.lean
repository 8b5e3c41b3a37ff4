/-! TOKENS: words and numbers; the class finds them -/
def wdB (B : Int → Int) (t : Int) : List Nat → Int → Bool
  | [], a => decide (a = t)
  | c :: cs, a => decide (a < t) && (decide (B a = c) && wdB B t cs (a + 1))
def plcL (B : Int → Int) (f t : Int) : List Nat → Int → Int → Bool → Int
  | [], p, a, al => if al = true ∧ a = t then p else -1
  | c :: cs, p, a, al => if c = 32 then (if al = true ∧ a = t then p else plcL B f t cs (p + 1) f (decide (f < t))) else plcL B f t cs p (a + 1) (al && (decide (a < t) && decide (B a = c)))
theorem plcL_n (B : Int → Int) (f t p a : Int) (al : Bool) : plcL B f t [] p a al = if al = true ∧ a = t then p else -1 := rfl
theorem plcL_c (B : Int → Int) (f t p a : Int) (al : Bool) (c : Nat) (cs : List Nat) : plcL B f t (c :: cs) p a al = if c = 32 then (if al = true ∧ a = t then p else plcL B f t cs (p + 1) f (decide (f < t))) else plcL B f t cs p (a + 1) (al && (decide (a < t) && decide (B a = c))) := rfl
theorem wdB_n (B : Int → Int) (t a : Int) : wdB B t [] a = decide (a = t) := rfl
theorem wdB_c (B : Int → Int) (t a : Int) (c : Nat) (cs : List Nat) : wdB B t (c :: cs) a = (decide (a < t) && (decide (B a = c) && wdB B t cs (a + 1))) := rfl
/-- which of the words of a string the token is -/
def plcP (B : Int → Int) (f t : Int) (cs : List Nat) : Int := plcL B f t cs 0 f (decide (f < t))
/-- the token is a word -/
def isWd (B : Int → Int) (f t : Int) (cs : List Nat) : Bool := decide (f < t) && wdB B t cs f
theorem plcL_cat {B : Int → Int} {f t : Int} {rest : List Nat} : ∀ (w : List Nat) (p a : Int) (al : Bool), (∀ c ∈ w, c ≠ 32) → plcL B f t (w ++ 32 :: rest) p a al = if (al && wdB B t w a) = true then p else plcL B f t rest (p + 1) f (decide (f < t)) := by
  intro w
  induction w with
  | nil =>
    intro p a al _
    show plcL B f t (32 :: rest) p a al = _
    rw [plcL_c, wdB_n]
    rw [if_pos rfl]
    by_cases h1 : al = true
    · by_cases h2 : a = t
      · rw [if_pos ⟨h1, h2⟩, if_pos (by rw [h1]; simp [h2])]
      · rw [if_neg (fun c => h2 c.2), if_neg (by simp [h2])]
    · rw [if_neg (fun c => h1 c.1), if_neg (by simp [h1])]
  | cons c w ih =>
    intro p a al hw
    show plcL B f t (c :: (w ++ 32 :: rest)) p a al = _
    rw [plcL_c, wdB_c]
    rw [if_neg (hw c (List.mem_cons_self ..)), ih p (a + 1) _ (fun x hx => hw x (List.mem_cons_of_mem _ hx)), Bool.and_assoc, Bool.and_assoc]
theorem plcL_end {B : Int → Int} {f t : Int} : ∀ (w : List Nat) (p a : Int) (al : Bool), (∀ c ∈ w, c ≠ 32) → plcL B f t w p a al = if (al && wdB B t w a) = true then p else -1 := by
  intro w
  induction w with
  | nil =>
    intro p a al _
    rw [plcL_n, wdB_n]
    by_cases h1 : al = true
    · by_cases h2 : a = t
      · rw [if_pos ⟨h1, h2⟩, if_pos (by rw [h1]; simp [h2])]
      · rw [if_neg (fun c => h2 c.2), if_neg (by simp [h2])]
    · rw [if_neg (fun c => h1 c.1), if_neg (by simp [h1])]
  | cons c w ih =>
    intro p a al hw
    rw [plcL_c, wdB_c]
    rw [if_neg (hw c (List.mem_cons_self ..)), ih p (a + 1) _ (fun x hx => hw x (List.mem_cons_of_mem _ hx)), Bool.and_assoc, Bool.and_assoc]
/-- words one behind the other: the place of the first that the token is -/
def plcW (B : Int → Int) (f t : Int) : List (List Nat) → Int → Int
  | [], _ => -1
  | w :: ws, p => if isWd B f t w = true then p else plcW B f t ws (p + 1)
def joinW : List (List Nat) → List Nat
  | [] => []
  | [w] => w
  | w :: x :: ws => w ++ 32 :: joinW (x :: ws)
theorem plc_join {B : Int → Int} {f t : Int} : ∀ (ws : List (List Nat)) (p : Int), ws ≠ [] → (∀ w ∈ ws, ∀ c ∈ w, c ≠ 32) → plcL B f t (joinW ws) p f (decide (f < t)) = plcW B f t ws p := by
  intro ws
  induction ws with
  | nil => intro p h; exact absurd rfl h
  | cons w ws ih =>
    intro p _ hw
    cases ws with
    | nil =>
      show plcL B f t w p f (decide (f < t)) = if isWd B f t w = true then p else -1
      exact plcL_end w p f _ (hw w (List.mem_cons_self ..))
    | cons x ws =>
      show plcL B f t (w ++ 32 :: joinW (x :: ws)) p f (decide (f < t)) = if isWd B f t w = true then p else plcW B f t (x :: ws) (p + 1)
      rw [plcL_cat w p f _ (hw w (List.mem_cons_self ..)), ih (p + 1) (by simp) (fun y hy => hw y (List.mem_cons_of_mem _ hy))]
      rfl
/-- the words of each string -/
def wrdZ : Nat → List (List Nat)
  | 0 => [[112, 117, 116], [103, 114, 111, 119], [100, 114, 111, 112], [112, 97, 99, 107], [109, 101, 110, 100]]
  | 1 => [[108, 101, 97, 118, 101, 115], [98, 97, 114, 115]]
  | 2 => [[91]]
  | 3 => [[93]]
  | 4 => [[116, 105, 109, 101], [100, 111, 110, 101], [108, 97, 116, 101, 115, 116], [108, 105, 118, 101], [102, 114, 101, 101], [112, 114, 111, 109, 105, 115, 101]]
  | 5 => [[112, 97, 103, 101], [115, 105, 122, 101], [102, 114, 101, 101], [115, 108, 111, 116, 115], [112, 114, 111, 109, 105, 115, 101], [116, 105, 109, 101], [109, 111, 111, 100]]
  | 6 => [[42], [47], [37]]
  | 7 => [[43], [45]]
  | 8 => [[111, 102]]
  | 9 => [[116, 111]]
  | 10 => [[116, 105, 109, 101, 115]]
  | 11 => [[105, 102]]
  | 12 => [[110, 111, 116]]
  | 13 => [[40]]
  | 14 => [[41]]
  | 15 => [[60], [62], [61]]
  | 16 => [[97, 110, 100], [111, 114]]
  | _ => [[59]]
theorem wrdZ_join : ∀ k, k < 18 → joinW (wrdZ k) = strZ.getD k [] ∧ wrdZ k ≠ [] ∧ (∀ w ∈ wrdZ k, ∀ c ∈ w, c ≠ 32) ∧ (∀ c ∈ strZ.getD k [], c < 200) ∧ (strZ.getD k []).length < 100 := by decide
section PL
variable {s : AS} {rd tp : Nat} {B : Int → Int} {n f t : Int}
theorem s_placeL (h : RdK s rd tp B n) (hn : 0 ≤ n ∧ n ≤ 400) (hB : ∀ z, 0 ≤ z → z < n → 0 ≤ B z ∧ B z ≤ 255) (hf : 0 ≤ f ∧ f ≤ t ∧ t ≤ n) (h4 : sI s rd 4 = v f) (h5 : sI s rd 5 = v t) {a : Nat} (ha : isStr a) (hc : ∀ c ∈ strOf a, c < 200) (hl : (strOf a).length < 100) :
    ∀ (cs : List Nat) (m i : Nat) (p x : Int) (al : Bool), (strOf a).drop i = cs → i + cs.length = (strOf a).length → cs.length + 1 < m → 0 ≤ x ∧ x ≤ 400 + i → 0 ≤ p ∧ p ≤ 1000 + i → l_Reader_placeIn_28 s m rd a (v p) (v x) (v (if al = true then 1 else 0)) (v i) = some (v (plcL B f t cs p x al)) := by
  obtain ⟨a1, ⟨-, -, a2⟩, -, -, hR, -⟩ := h
  have hsp : f < t → bi (f < t) = 1 := fun c => bi_t c
  have dc : (if v f < v t then nI 1 else nI 0) = v (if decide (f < t) = true then 1 else 0) := by
    by_cases c : f < t
    · rw [if_pos (plt (by omega)), if_pos (by simp [c])]; exact nv1
    · rw [if_neg (nlt (by omega)), if_neg (by simp [c])]; exact nv0
  intro cs
  induction cs with
  | nil =>
    intro m i p x al hd hi hm hx hp
    obtain ⟨m, rfl⟩ : ∃ y, m = y + 1 + 1 := ⟨m - 2, by simp at hm; omega⟩
    have hil : i = (strOf a).length := by simpa using hi
    show b_Reader_placeIn_28 _ _ _ _ _ _ _ _ = _
    have h116 : b_Reader_placeIn_116 s (l_Reader_placeIn_28 s (m + 1)) rd a (v p) (v i) = some (v (-1)) := by
      unfold b_Reader_placeIn_116
      rw [if_pos a1, nv1, v_add]
      show b_Reader_placeIn_28 _ _ _ _ _ _ _ _ = _
      unfold b_Reader_placeIn_28
      rw [if_pos ha, nI_v, v_add, if_pos (plt (by omega)), nv1, v_neg]
    unfold b_Reader_placeIn_28
    rw [plcL_n, if_pos ha, nI_v, if_neg (nlt (by omega)), if_neg (nlt (by omega))]
    unfold b_Reader_placeIn_101
    rw [nv0]
    cases al with
    | false =>
      rw [if_pos (show v (if false = true then 1 else 0) = v 0 by decide), if_neg (by simp)]
      exact h116
    | true =>
      rw [if_neg (show ¬ v (if true = true then 1 else 0) = v 0 by decide), if_pos a1, h5]
      by_cases e : x = t
      · rw [if_pos (peq e), if_pos ⟨rfl, e⟩]
      · rw [if_neg (pne (by omega)), if_neg (fun c => e c.2)]
        exact h116
  | cons c cs ih =>
    intro m i p x al hd hi hm hx hp
    obtain ⟨m, rfl⟩ : ∃ y, m = y + 1 := ⟨m - 1, by simp at hm; omega⟩
    have hil : i < (strOf a).length := by simp at hi; omega
    have hcm : c ∈ strOf a := by
      have : c ∈ (strOf a).drop i := by rw [hd]; exact List.mem_cons_self ..
      exact List.mem_of_mem_drop this
    have hcv := hc c hcm
    have hget : (strOf a).getD i 0 = c := by
      have h1 : (strOf a)[i]? = some c := by
        have : ((strOf a).drop i)[0]? = some c := by rw [hd]; rfl
        rw [List.getElem?_drop, Nat.add_zero] at this
        exact this
      rw [List.getD_eq_getElem?_getD, h1]
      rfl
    have hd' : (strOf a).drop (i + 1) = cs := by
      have : ((strOf a).drop i).drop 1 = cs := by rw [hd]; rfl
      rw [List.drop_drop] at this
      exact this
    have hi' : i + 1 + cs.length = (strOf a).length := by simp at hi; omega
    have hm' : cs.length + 1 < m := by simp at hm; omega
    have hc1 : ((i + 1 : Nat) : Int) = (i : Int) + 1 := by omega
    have nxt := fun (p x : Int) (al : Bool) hx hp => ih m (i + 1) p x al hd' hi' hm' hx hp
    rw [hc1] at nxt
    show b_Reader_placeIn_28 _ _ _ _ _ _ _ _ = _
    unfold b_Reader_placeIn_28
    rw [plcL_c, if_pos ha, nI_v, if_neg (nlt (by omega)), if_pos (plt (by omega)), if_pos ⟨ha, v_inA (by omega) (by omega)⟩, v_ix (by omega), show ((i : Int)).toNat = i by omega, hget, nI_v c, nv32]
    by_cases e32 : c = 32
    · have h116 : b_Reader_placeIn_116 s (l_Reader_placeIn_28 s m) rd a (v p) (v i) = some (v (plcL B f t cs (p + 1) f (decide (f < t)))) := by
        unfold b_Reader_placeIn_116
        rw [if_pos a1, h4, h5, dc, nv1, v_add, v_add]
        exact nxt (p + 1) f (decide (f < t)) (by omega) (by omega)
      rw [if_pos (peq (by omega)), if_pos e32]
      unfold b_Reader_placeIn_101
      rw [nv0]
      cases al with
      | false =>
        rw [if_pos (show v (if false = true then 1 else 0) = v 0 by decide), if_neg (by simp)]
        exact h116
      | true =>
        rw [if_neg (show ¬ v (if true = true then 1 else 0) = v 0 by decide), if_pos a1, h5]
        by_cases e : x = t
        · rw [if_pos (peq e), if_pos ⟨rfl, e⟩]
        · rw [if_neg (pne (by omega)), if_neg (fun c => e c.2)]
          exact h116
    · rw [if_neg (pne (by omega)), if_neg e32, nv0]
      have h92 : ∀ al' : Bool, al' = false → b_Reader_placeIn_92 s (l_Reader_placeIn_28 s m) rd a (v p) (v x) (v i) = some (v (plcL B f t cs p (x + 1) al')) := by
        intro al' hal
        unfold b_Reader_placeIn_92
        rw [nv1, nv0, v_add, v_add]
        have := nxt p (x + 1) al' (by omega) (by omega)
        rw [hal] at this ⊢
        exact this
      cases al with
      | false =>
        rw [if_pos (show v (if false = true then 1 else 0) = v 0 by decide)]
        exact h92 _ rfl
      | true =>
        rw [if_neg (show ¬ v (if true = true then 1 else 0) = v 0 by decide), if_pos a1, h5]
        by_cases e : x < t
        · have r := hR.2.2 x (by omega)
          have hb := hB x (by omega) (by omega)
          rw [if_pos (plt (by omega)), a2, if_pos hR.1.1, hR.1.2.1, hR.1.2.2.1, hR.1.2.2.2, if_pos ⟨rfl, v_inA (by omega) (by omega)⟩, v_ix (by omega), r, nv1, v_add, v_add]
          have eq1 : (if v (B x) = v (c : Int) then v 1 else v 0) = v (if (true && (decide (x < t) && decide (B x = c))) = true then 1 else 0) := by
            by_cases eb : B x = c
            · rw [if_pos (peq eb), if_pos (by simp [e, eb])]
            · rw [if_neg (pne (by omega)), if_neg (by simp [e, eb])]
          rw [eq1]
          exact nxt p (x + 1) (true && (decide (x < t) && decide (B x = c))) (by omega) (by omega)
        · rw [if_neg (nlt (by omega))]
          exact h92 _ (by simp [e])
theorem s_placeIn (h : RdK s rd tp B n) (hn : 0 ≤ n ∧ n ≤ 400) (hB : ∀ z, 0 ≤ z → z < n → 0 ≤ B z ∧ B z ≤ 255) (hf : 0 ≤ f ∧ f ≤ t ∧ t ≤ n) (h4 : sI s rd 4 = v f) (h5 : sI s rd 5 = v t) {k : Nat} (hk : k < 18) : f_Reader_placeIn s rd (strB + k) = some (v (plcW B f t (wrdZ k) 0)) := by
  obtain ⟨w1, w2, w3, w4, w5⟩ := wrdZ_join k hk
  have ha : isStr (strB + k) := ⟨by omega, by omega⟩
  have hs : strOf (strB + k) = strZ.getD k [] := by unfold strOf; rw [show strB + k - strB = k by omega]
  have := s_placeL h hn hB hf h4 h5 ha (by rw [hs]; exact w4) (by rw [hs]; exact w5) (strOf (strB + k)) fuel 0 0 f (decide (f < t)) rfl (by simp) (by rw [hs]; unfold fuel; omega) (by omega) (by decide)
  rw [hs, ← w1, plc_join _ _ w2 w3] at this
  unfold f_Reader_placeIn b_Reader_placeIn_23
  rw [if_pos h.1, h4, h5, nv0]
  have dc : (if v f < v t then nI 1 else v 0) = v (if decide (f < t) = true then 1 else 0) := by
    by_cases c : f < t
    · rw [if_pos (plt (by omega)), if_pos (by simp [c])]; exact nv1
    · rw [if_neg (nlt (by omega)), if_neg (by simp [c])]
  rw [dc]
  exact this
/-- the value of a row of digits, cut at 1001 -/
def nuL (B : Int → Int) : Nat → Int → Int → Int
  | 0, _, x => x
  | k + 1, i, x => nuL B k (i + 1) (min (10 * x + B i - 48) 1001)
def nuP (B : Int → Int) (f t : Int) : Int := nuL B (t - f).toNat f 0
def numP (B : Int → Int) (n f t lo hi : Int) : Int := if f < n ∧ kdC (B f) = 3 then (if lo ≤ nuP B f t ∧ nuP B f t ≤ hi then nuP B f t else -1) else -1
theorem nuL_r {B : Int → Int} : ∀ (k : Nat) (i x : Int), (∀ j, i ≤ j → j < i + k → 48 ≤ B j ∧ B j ≤ 57) → 0 ≤ x ∧ x ≤ 1001 → 0 ≤ nuL B k i x ∧ nuL B k i x ≤ 1001 := by
  intro k
  induction k with
  | zero => intro i x _ hx; exact hx
  | succ k ih =>
    intro i x hB hx
    have := hB i (Int.le_refl _) (by omega)
    exact ih (i + 1) _ (fun j j0 j1 => hB j (by omega) (by omega)) (by omega)
theorem runE_q {B : Int → Int} {n q : Int} : ∀ (k : Nat) (i : Int), i + k = n → ∀ j, i ≤ j → j < runE B n q k i → kdC (B j) = q := by
  intro k
  induction k with
  | zero => intro i hi j j0 j1; unfold runE at j1; omega
  | succ k ih =>
    intro i hi j j0 j1
    unfold runE at j1
    by_cases c : i < n ∧ kdC (B i) = q
    · rw [if_pos c] at j1
      by_cases e : j = i
      · rw [e]; exact c.2
      · exact ih (i + 1) (by omega) j (by omega) j1
    · rw [if_neg c] at j1; omega
theorem tok_dig {B : Int → Int} {n f : Int} (hf : f < n) (hk : kdC (B f) = 3) : ∀ j, f ≤ j → j < tokE B n f → 48 ≤ B j ∧ B j ≤ 57 := by
  intro j j0 j1
  have hq : kdC (B j) = 3 := by
    unfold tokE at j1
    rw [if_pos hf, if_pos (Or.inr hk)] at j1
    by_cases e : j = f
    · rw [e]; exact hk
    · have := runE_q (B := B) (n := n) (q := kdC (B f)) (n - (f + 1)).toNat (f + 1) (by omega) j (by omega) j1
      rw [this]; exact hk
  unfold kdC at hq
  repeat' split at hq
  all_goals omega
theorem s_numL (h : RdK s rd tp B n) (hn : 0 ≤ n ∧ n ≤ 400) (h5 : sI s rd 5 = v t) {lo hj : Int} (hlh : r32 lo ∧ r32 hj) : ∀ (k m : Nat) (i x : Int), i + k = t → 0 ≤ i → t ≤ n → k < m → (∀ j, i ≤ j → j < t → 48 ≤ B j ∧ B j ≤ 57) → 0 ≤ x ∧ x ≤ 1001 → l_Reader_numberIn_23 s m rd (v lo) (v hj) (v x) (v i) = some (v (if lo ≤ nuL B k i x ∧ nuL B k i x ≤ hj then nuL B k i x else -1)) := by
  obtain ⟨a1, ⟨-, -, a2⟩, -, -, hR, -⟩ := h
  intro k
  induction k with
  | zero =>
    intro m i x hi h0 ht hm hB hx
    obtain ⟨m, rfl⟩ : ∃ y, m = y + 1 := ⟨m - 1, by omega⟩
    show b_Reader_numberIn_23 _ _ _ _ _ _ _ = _
    unfold b_Reader_numberIn_23 nuL
    rw [if_pos a1, h5, if_neg (nlt (by omega)), nv1, v_neg]
    congr 1
    by_cases c1 : x < lo
    · rw [if_pos (plt (by omega)), if_neg (by omega)]
    · rw [if_neg (nlt (by omega))]
      by_cases c2 : hj < x
      · rw [if_pos (plt (by omega)), if_neg (by omega)]
      · rw [if_neg (nlt (by omega)), if_pos (by omega)]
  | succ k ih =>
    intro m i x hi h0 ht hm hB hx
    obtain ⟨m, rfl⟩ : ∃ y, m = y + 1 := ⟨m - 1, by omega⟩
    have r := hR.2.2 i (by omega)
    have hb := hB i (Int.le_refl _) (by omega)
    show b_Reader_numberIn_23 _ _ _ _ _ _ _ = _
    unfold b_Reader_numberIn_23 nuL
    rw [if_pos a1, h5, if_pos (plt (by omega)), a2, if_pos hR.1.1, hR.1.2.1, hR.1.2.2.1, hR.1.2.2.2, if_pos ⟨rfl, v_inA (by omega) (by omega)⟩, v_ix (by omega), r, nv1, nv10, nv1001, nv48, v_mul, v_add, v_sub, v_add]
    have em : (if v 1001 < v (10 * x + B i - 48) then v 1001 else v (10 * x + B i - 48)) = v (min (10 * x + B i - 48) 1001) := by
      by_cases c : 1001 < 10 * x + B i - 48
      · rw [if_pos (plt (by omega)), show min (10 * x + B i - 48) 1001 = 1001 by omega]
      · rw [if_neg (nlt (by omega)), show min (10 * x + B i - 48) 1001 = 10 * x + B i - 48 by omega]
    rw [em]
    exact ih m (i + 1) _ (by omega) (by omega) ht (by omega) (fun j j0 j1 => hB j (by omega) j1) (by omega)
theorem s_numberIn (h : RdK s rd tp B n) (hn : 0 ≤ n ∧ n ≤ 400) (hf : 0 ≤ f ∧ f ≤ n) (h4 : sI s rd 4 = v f) (h5 : sI s rd 5 = v (tokE B n f)) {lo hi : Int} (hlh : r32 lo ∧ r32 hi) : f_Reader_numberIn s rd (v lo) (v hi) = some (v (numP B n f (tokE B n f) lo hi)) := by
  have h' := h
  obtain ⟨a1, ⟨-, a2, -⟩, ⟨a3, a4⟩, a5, -⟩ := h
  have r := a5 f (by omega)
  have hkr := kdC_r (B f)
  have hte := tokE_r (B := B) hf.2
  unfold f_Reader_numberIn numP
  rw [if_pos a1, a2, a3, a4, h4, if_pos ⟨rfl, v_inA (by omega) (by omega)⟩, v_ix (by omega), r, nv3]
  by_cases c : f < n
  · have hk : kdT B n f = kdC (B f) := by unfold kdT; rw [if_pos c]
    rw [hk]
    by_cases c3 : kdC (B f) = 3
    · rw [if_pos (peq c3), if_pos ⟨c, c3⟩, nv0]
      exact s_numL h' hn h5 hlh (tokE B n f - f).toNat fuel f 0 (by omega) (by omega) (by omega) (by unfold fuel; omega) (tok_dig c c3) (by decide)
    · rw [if_neg (pne (by omega)), if_neg (fun e => c3 e.2), nv1, v_neg]
  · have hk : kdT B n f = -1 := by unfold kdT; rw [if_neg c]
    rw [hk, if_neg (show ¬ v (-1) = v 3 by decide), if_neg (fun e => c e.1), nv1, v_neg]
end PL
