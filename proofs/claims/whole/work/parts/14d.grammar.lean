/-! THE LANGUAGES, PURELY: what a text means, or where it can't go on -/
/-- the token (from, to), how many parts there were -/
abbrev STK : Type := Int × Int × Int
abbrev RSL : Type := Except Int (SEM × STK)
def nxS (B : Int → Int) (n : Int) (st : STK) : STK := (tokF B n st.2.1, tokE B n (tokF B n st.2.1), st.2.2)
def wd (B : Int → Int) (st : STK) (k : Nat) : Int := plcW B st.1 st.2.1 (wrdZ k) 0
def nm (B : Int → Int) (n : Int) (st : STK) (lo hi : Int) : Int := numP B n st.1 st.2.1 lo hi
def oneP (B : Int → Int) (n : Int) (ord : Bool) (st : STK) : RSL :=
  if 50 ≤ st.2.2 ∨ (nm B n st 0 1000 = -1 ∧ wd B st (if ord then 4 else 5) = -1) then .error st.1 else
  if nm B n st 0 1000 ≠ -1 then .ok (fun _ => some (nm B n st 0 1000), nxS B n (st.1, st.2.1, st.2.2 + 1)) else
  if ord = true ∧ 4 ≤ wd B st 4 then
    (if nm B n (nxS B n (st.1, st.2.1, st.2.2 + 1)) 0 7 = -1 then .error (nxS B n (st.1, st.2.1, st.2.2 + 1)).1 else
     .ok (fun W => some (W (4 + (wd B st 4 - 4) * 8 + nm B n (nxS B n (st.1, st.2.1, st.2.2 + 1)) 0 7)), nxS B n (nxS B n (st.1, st.2.1, st.2.2 + 1)))) else
  .ok (fun W => some (W (wd B st (if ord then 4 else 5))), nxS B n (st.1, st.2.1, st.2.2 + 1))
def partP (B : Int → Int) (n : Int) (ord : Bool) (b : Nat) (inner : STK → RSL) (st : STK) : RSL :=
  if wd B st 2 = 0 then
    (if b = 0 then .error st.1 else match inner (nxS B n st) with
      | .error e => .error e
      | .ok (g, st2) => if wd B st2 3 = 0 then .ok (g, nxS B n st2) else .error st2.1)
  else oneP B n ord st
/-- with a sign that waits -/
def waitS (p : Option (Int × SEM)) (g : SEM) : SEM := match p with
  | none => g
  | some (op, h) => binS op h g
def sumLp (B : Int → Int) (n : Int) (part : STK → RSL) : Nat → Option (Int × SEM) → Option (Int × SEM) → STK → RSL
  | 0, _, _, st => .error st.1
  | k + 1, ps, pt, st => match part st with
    | .error e => .error e
    | .ok (g, st1) =>
      if wd B st1 6 ≠ -1 then sumLp B n part k ps (some (4 + wd B st1 6, waitS pt g)) (nxS B n st1) else
      if wd B st1 7 ≠ -1 then sumLp B n part k (some (2 + wd B st1 7, waitS ps (waitS pt g))) none (nxS B n st1) else
      .ok (waitS ps (waitS pt g), st1)
def sumD (B : Int → Int) (n : Int) (ord : Bool) : Nat → STK → RSL
  | 0 => sumLp B n (partP B n ord 0 (fun st => .error st.1)) 400 none none
  | b + 1 => sumLp B n (partP B n ord (b + 1) (sumD B n ord b)) 400 none none
def notIf (tr : Bool) (g : SEM) : SEM := if tr = true then notS g else g
def baseP (B : Int → Int) (n : Int) (ord : Bool) (b : Nat) (inner : STK → RSL) (tr : Bool) (st : STK) : RSL :=
  if wd B st 13 = 0 then
    (if b = 0 then .error st.1 else match inner (nxS B n st) with
      | .error e => .error e
      | .ok (g, st2) => if wd B st2 14 = 0 then .ok (notIf tr g, nxS B n st2) else .error st2.1)
  else match sumD B n ord b st with
    | .error e => .error e
    | .ok (g1, st1) => if wd B st1 15 = -1 then .error st1.1 else match sumD B n ord b (nxS B n st1) with
      | .error e => .error e
      | .ok (g2, st2) => .ok (notIf tr (binS (7 + wd B st1 15) g1 g2), st2)
def plainL (B : Int → Int) (n : Int) (base : Bool → STK → RSL) : Nat → Bool → STK → RSL
  | 0, tr, st => base tr st
  | k + 1, tr, st => if wd B st 12 = 0 then plainL B n base k (!tr) (nxS B n st) else base tr st
def testL (B : Int → Int) (n : Int) (plain : STK → RSL) : Nat → SEM → SEM → STK → RSL
  | 0, _, _, st => .error st.1
  | k + 1, F, G, st => if wd B st 16 = -1 then .ok (orS F G, st) else match plain (nxS B n st) with
    | .error e => .error e
    | .ok (h, st1) => if wd B st 16 = 0 then testL B n plain k F (andS G h) st1 else testL B n plain k (orS F G) h st1
def testP (B : Int → Int) (n : Int) (plain : STK → RSL) (st : STK) : RSL := match plain st with
  | .error e => .error e
  | .ok (g, st1) => testL B n plain 400 (fun _ => some 0) g st1
def plainD (B : Int → Int) (n : Int) (ord : Bool) (b : Nat) (inner : STK → RSL) (st : STK) : RSL := plainL B n (baseP B n ord b inner) 400 false st
def testD (B : Int → Int) (n : Int) (ord : Bool) : Nat → STK → RSL
  | 0 => testP B n (plainD B n ord 0 (fun st => .error st.1))
  | b + 1 => testP B n (plainD B n ord (b + 1) (testD B n ord b))
/-- tokens go on -/
def StI (n : Int) (st : STK) : Prop := (0 ≤ st.1 ∧ st.1 ≤ st.2.1 ∧ st.2.1 ≤ n) ∧ 0 ≤ st.2.2
def StT (B : Int → Int) (n : Int) (st : STK) : Prop := StI n st ∧ st.2.1 = tokE B n st.1 ∧ (st.1 < n → ¬ B st.1 = 32)
theorem nxS_T {B : Int → Int} {n : Int} {st : STK} (h : StI n st) : StT B n (nxS B n st) ∧ st.2.1 ≤ (nxS B n st).1 ∧ (nxS B n st).2.2 = st.2.2 := by
  obtain ⟨⟨h1, h2, h3⟩, h4⟩ := h
  have f := tokF_r (B := B) h3
  have e := tokE_r (B := B) (n := n) (f := tokF B n st.2.1) (by omega)
  exact ⟨⟨⟨⟨by show 0 ≤ tokF B n st.2.1; omega, e.1, e.2.1⟩, h4⟩, rfl, f.2.2⟩, f.1, rfl⟩
theorem plcW_r {B : Int → Int} {f t : Int} : ∀ (ws : List (List Nat)) (p : Int), plcW B f t ws p = -1 ∨ (p ≤ plcW B f t ws p ∧ plcW B f t ws p < p + ws.length ∧ f < t) := by
  intro ws
  induction ws with
  | nil => intro p; exact Or.inl rfl
  | cons w ws ih =>
    intro p
    unfold plcW
    by_cases c : isWd B f t w = true
    · rw [if_pos c]
      unfold isWd at c
      have : f < t := by
        by_cases d : f < t
        · exact d
        · simp [d] at c
      exact Or.inr ⟨by omega, by simp; omega, this⟩
    · rw [if_neg c]
      rcases ih (p + 1) with h | h
      · exact Or.inl h
      · exact Or.inr ⟨by omega, by simp; omega, h.2.2⟩
theorem wd_r (B : Int → Int) (st : STK) (k : Nat) : wd B st k = -1 ∨ (0 ≤ wd B st k ∧ wd B st k < (wrdZ k).length ∧ st.1 < st.2.1) := by
  have := plcW_r (B := B) (f := st.1) (t := st.2.1) (wrdZ k) 0
  unfold wd
  rcases this with h | h
  · exact Or.inl h
  · exact Or.inr ⟨h.1, by omega, h.2.2⟩
theorem numP_r {B : Int → Int} {n f t lo hi : Int} (h : 0 ≤ lo) : numP B n f t lo hi = -1 ∨ (lo ≤ numP B n f t lo hi ∧ numP B n f t lo hi ≤ hi) := by
  unfold numP
  split
  · split
    · rename_i h2; exact Or.inr h2
    · exact Or.inl rfl
  · exact Or.inl rfl
