/-! TEXTS, PURELY: sums are bounded, tests are so or not, and which words they ask -/
abbrev nWd (ord : Bool) : Int := if ord = true then 20 else 7
def QS (ord : Bool) (f : SEM) : Prop := SumS f ∧ DepS (nWd ord) f
def QT (ord : Bool) (f : SEM) : Prop := BolS f ∧ DepS (nWd ord) f
theorem DepS.bin {k op : Int} {f g : SEM} (h : DepS k f) (h2 : DepS k g) : DepS k (binS op f g) := fun W W' e => by
  unfold binS
  rw [h W W' e, h2 W W' e]
theorem QS.bin {ord : Bool} {op : Int} {f g : SEM} (h : QS ord f) (h2 : QS ord g) : QS ord (binS op f g) := by
  refine ⟨fun W _ z hz => ?_, h.2.bin h2.2⟩
  unfold binS at hz
  cases hf : f W with
  | none => rw [hf] at hz; cases hz
  | some x =>
    cases hg : g W with
    | none => rw [hf, hg] at hz; cases hz
    | some y =>
      rw [hf, hg] at hz
      have := joinP_b (show joinP op x y = some z from hz)
      unfold stB
      omega
theorem QS.wait {ord : Bool} {p : Option (Int × SEM)} {g : SEM} (hp : ∀ x, p = some x → QS ord x.2) (h : QS ord g) : QS ord (waitS p g) := by
  cases p with
  | none => exact h
  | some x => exact (hp x rfl).bin h
section PTX
variable {B : Int → Int} {n : Int} {ord : Bool}
theorem q_oneP {st st' : STK} {g : SEM} (h : oneP B n ord st = .ok (g, st')) : QS ord g := by
  have hnr := numP_r (B := B) (n := n) (f := st.1) (t := st.2.1) (lo := 0) (hi := 1000) (by decide)
  have hnm : nm B n st 0 1000 = -1 ∨ (0 ≤ nm B n st 0 1000 ∧ nm B n st 0 1000 ≤ 1000) := hnr
  have hw := wd_r B st (if ord = true then 4 else 5)
  have hwl : ((wrdZ (if ord = true then 4 else 5)).length : Int) = if ord = true then 6 else 7 := by split <;> rfl
  unfold oneP at h
  have word : ∀ w : Int, 0 ≤ w ∧ w < nWd ord → QS ord (fun W => some (W w)) := fun w hw => by
    refine ⟨fun W hW z hz => ?_, fun W W' e => ?_⟩
    · cases hz
      refine hW w hw.1 ?_
      have : nWd ord ≤ 20 := by unfold nWd; split <;> omega
      omega
    · show some (W w) = some (W' w)
      rw [e w hw.1 hw.2]
  by_cases c1 : 50 ≤ st.2.2 ∨ (nm B n st 0 1000 = -1 ∧ wd B st (if ord = true then 4 else 5) = -1)
  · rw [if_pos c1] at h; cases h
  · rw [if_neg c1] at h
    by_cases c2 : nm B n st 0 1000 ≠ -1
    · rw [if_pos c2] at h
      cases h
      refine ⟨fun W _ z hz => ?_, fun W W' _ => rfl⟩
      cases hz
      unfold stB
      omega
    · rw [if_neg c2] at h
      have cn : nm B n st 0 1000 = -1 := by omega
      have hwn : ¬ wd B st (if ord = true then 4 else 5) = -1 := fun d => c1 (Or.inr ⟨cn, d⟩)
      by_cases c3 : ord = true ∧ 4 ≤ wd B st 4
      · rw [if_pos c3] at h
        obtain ⟨c3, c4⟩ := c3
        subst c3
        have hw' : wd B st 4 = -1 ∨ (0 ≤ wd B st 4 ∧ wd B st 4 < ((wrdZ 4).length : Int) ∧ st.1 < st.2.1) := hw
        have hl4 : ((wrdZ 4).length : Int) = 6 := rfl
        have hnr2 := numP_r (B := B) (n := n) (f := (nxS B n (st.1, st.2.1, st.2.2 + 1)).1) (t := (nxS B n (st.1, st.2.1, st.2.2 + 1)).2.1) (lo := 0) (hi := 7) (by decide)
        have hnm2 : nm B n (nxS B n (st.1, st.2.1, st.2.2 + 1)) 0 7 = -1 ∨ (0 ≤ nm B n (nxS B n (st.1, st.2.1, st.2.2 + 1)) 0 7 ∧ nm B n (nxS B n (st.1, st.2.1, st.2.2 + 1)) 0 7 ≤ 7) := hnr2
        by_cases c5 : nm B n (nxS B n (st.1, st.2.1, st.2.2 + 1)) 0 7 = -1
        · rw [if_pos c5] at h; cases h
        · rw [if_neg c5] at h
          cases h
          exact word _ (by show 0 ≤ _ ∧ _ < (20 : Int); omega)
      · rw [if_neg c3] at h
        cases h
        refine word _ ?_
        cases ord with
        | false =>
          have hwn' : ¬ wd B st 5 = -1 := hwn
          have hw' : wd B st 5 = -1 ∨ (0 ≤ wd B st 5 ∧ wd B st 5 < ((wrdZ 5).length : Int) ∧ st.1 < st.2.1) := hw
          have hl5 : ((wrdZ 5).length : Int) = 7 := rfl
          show 0 ≤ wd B st 5 ∧ wd B st 5 < 7
          omega
        | true =>
          have hwn' : ¬ wd B st 4 = -1 := hwn
          have hw' : wd B st 4 = -1 ∨ (0 ≤ wd B st 4 ∧ wd B st 4 < ((wrdZ 4).length : Int) ∧ st.1 < st.2.1) := hw
          have hl4 : ((wrdZ 4).length : Int) = 6 := rfl
          show 0 ≤ wd B st 4 ∧ wd B st 4 < 20
          omega
theorem q_part {b : Nat} {inner : STK → RSL} (hin : ∀ st g st', inner st = .ok (g, st') → QS ord g) {st st' : STK} {g : SEM} (h : partP B n ord b inner st = .ok (g, st')) : QS ord g := by
  unfold partP at h
  by_cases c : wd B st 2 = 0
  · rw [if_pos c] at h
    by_cases cb : b = 0
    · rw [if_pos cb] at h; cases h
    · rw [if_neg cb] at h
      cases hr : inner (nxS B n st) with
      | error e => rw [hr] at h; cases h
      | ok x =>
        obtain ⟨g2, st2⟩ := x
        rw [hr] at h
        have h' : (if wd B st2 3 = 0 then (Except.ok (g2, nxS B n st2) : RSL) else .error st2.1) = .ok (g, st') := h
        by_cases c3 : wd B st2 3 = 0
        · rw [if_pos c3] at h'
          cases h'
          exact hin _ _ _ hr
        · rw [if_neg c3] at h'; cases h'
  · rw [if_neg c] at h
    exact q_oneP h
theorem q_sumL {part : STK → RSL} (hp : ∀ st g st', part st = .ok (g, st') → QS ord g) : ∀ (k : Nat) (ps pt : Option (Int × SEM)) (st st' : STK) (g : SEM), (∀ x, ps = some x → QS ord x.2) → (∀ x, pt = some x → QS ord x.2) → sumLp B n part k ps pt st = .ok (g, st') → QS ord g := by
  intro k
  induction k with
  | zero => intro ps pt st st' g _ _ h; cases h
  | succ k ih =>
    intro ps pt st st' g h1 h2 h
    unfold sumLp at h
    cases hr : part st with
    | error e => rw [hr] at h; cases h
    | ok x =>
      obtain ⟨f, st1⟩ := x
      have hf := hp _ _ _ hr
      rw [hr] at h
      have h' : (if wd B st1 6 ≠ -1 then sumLp B n part k ps (some (4 + wd B st1 6, waitS pt f)) (nxS B n st1) else
        if wd B st1 7 ≠ -1 then sumLp B n part k (some (2 + wd B st1 7, waitS ps (waitS pt f))) none (nxS B n st1) else
        .ok (waitS ps (waitS pt f), st1)) = .ok (g, st') := h
      by_cases c6 : wd B st1 6 ≠ -1
      · rw [if_pos c6] at h'
        exact ih _ _ _ _ _ h1 (fun x hx => by cases hx; exact QS.wait h2 hf) h'
      · rw [if_neg c6] at h'
        by_cases c7 : wd B st1 7 ≠ -1
        · rw [if_pos c7] at h'
          exact ih _ _ _ _ _ (fun x hx => by cases hx; exact QS.wait h1 (QS.wait h2 hf)) (fun x hx => by cases hx) h'
        · rw [if_neg c7] at h'
          cases h'
          exact QS.wait h1 (QS.wait h2 hf)
theorem sumD_0 : sumD B n ord 0 = sumLp B n (partP B n ord 0 (fun st => .error st.1)) 400 none none := rfl
theorem sumD_s (b : Nat) : sumD B n ord (b + 1) = sumLp B n (partP B n ord (b + 1) (sumD B n ord b)) 400 none none := rfl
theorem q_sumD : ∀ (b : Nat) (st st' : STK) (g : SEM), sumD B n ord b st = .ok (g, st') → QS ord g := by
  intro b
  induction b with
  | zero =>
    intro st st' g h
    rw [sumD_0] at h
    generalize 400 = N at h
    exact q_sumL (fun st g st' h => q_part (fun st g st' h => by cases h) h) N none none st st' g (fun x hx => by cases hx) (fun x hx => by cases hx) h
  | succ b ih =>
    intro st st' g h
    rw [sumD_s] at h
    generalize 400 = N at h
    exact q_sumL (fun st g st' h => q_part (fun st g st' h => ih st st' g h) h) N none none st st' g (fun x hx => by cases hx) (fun x hx => by cases hx) h
theorem QT.not {g : SEM} (h : QT ord g) : QT ord (notS g) := by
  refine ⟨fun W z hz => ?_, fun W W' e => ?_⟩
  · unfold notS at hz
    cases hg : g W with
    | none => rw [hg] at hz; cases hz
    | some x =>
      rw [hg] at hz
      have hx := h.1 W x hg
      have e : 1 - x = z := by injection hz
      omega
  · unfold notS
    rw [h.2 W W' e]
theorem QT.notIf {tr : Bool} {g : SEM} (h : QT ord g) : QT ord (notIf tr g) := by
  show QT ord (if tr = true then notS g else g)
  split
  · exact h.not
  · exact h
theorem QT.cmp {op : Int} {f g : SEM} (ho : 7 ≤ op) (h : QS ord f) (h2 : QS ord g) : QT ord (binS op f g) := by
  refine ⟨fun W z hz => ?_, h.2.bin h2.2⟩
  unfold binS at hz
  cases hf : f W with
  | none => rw [hf] at hz; cases hz
  | some x =>
    cases hg : g W with
    | none => rw [hf, hg] at hz; cases hz
    | some y =>
      rw [hf, hg] at hz
      have hj : joinP op x y = some z := hz
      unfold joinP joinR at hj
      rw [if_neg (by omega), if_neg (by omega), if_neg (by omega), if_neg (by omega), if_neg (by omega)] at hj
      have b1 := bi_r (c := x < y)
      have b2 := bi_r (c := y < x)
      have b3 := bi_r (c := x = y)
      by_cases o7 : op = 7
      · rw [if_pos o7] at hj
        have hj' : (if bi (x < y) < -1000000000 ∨ 1000000000 < bi (x < y) then none else some (bi (x < y))) = some z := hj
        rw [if_neg (by omega)] at hj'
        have : bi (x < y) = z := by injection hj'
        omega
      · rw [if_neg o7] at hj
        by_cases o8 : op = 8
        · rw [if_pos o8] at hj
          have hj' : (if bi (y < x) < -1000000000 ∨ 1000000000 < bi (y < x) then none else some (bi (y < x))) = some z := hj
          rw [if_neg (by omega)] at hj'
          have : bi (y < x) = z := by injection hj'
          omega
        · rw [if_neg o8] at hj
          have hj' : (if bi (x = y) < -1000000000 ∨ 1000000000 < bi (x = y) then none else some (bi (x = y))) = some z := hj
          rw [if_neg (by omega)] at hj'
          have : bi (x = y) = z := by injection hj'
          omega
theorem q_base {b : Nat} {inner : STK → RSL} (hin : ∀ st g st', inner st = .ok (g, st') → QT ord g) {tr : Bool} {st st' : STK} {g : SEM} (h : baseP B n ord b inner tr st = .ok (g, st')) : QT ord g := by
  unfold baseP at h
  by_cases c : wd B st 13 = 0
  · rw [if_pos c] at h
    by_cases cb : b = 0
    · rw [if_pos cb] at h; cases h
    · rw [if_neg cb] at h
      cases hr : inner (nxS B n st) with
      | error e => rw [hr] at h; cases h
      | ok x =>
        obtain ⟨g2, st2⟩ := x
        rw [hr] at h
        have h' : (if wd B st2 14 = 0 then (Except.ok (notIf tr g2, nxS B n st2) : RSL) else .error st2.1) = .ok (g, st') := h
        by_cases c3 : wd B st2 14 = 0
        · rw [if_pos c3] at h'
          cases h'
          exact (hin _ _ _ hr).notIf
        · rw [if_neg c3] at h'; cases h'
  · rw [if_neg c] at h
    cases hr : sumD B n ord b st with
    | error e => rw [hr] at h; cases h
    | ok x =>
      obtain ⟨g1, st1⟩ := x
      rw [hr] at h
      have h' : (if wd B st1 15 = -1 then (Except.error st1.1 : RSL) else match sumD B n ord b (nxS B n st1) with
        | .error e => .error e
        | .ok (g2, st2) => .ok (notIf tr (binS (7 + wd B st1 15) g1 g2), st2)) = .ok (g, st') := h
      have hw := wd_r B st1 15
      by_cases c15 : wd B st1 15 = -1
      · rw [if_pos c15] at h'; cases h'
      · rw [if_neg c15] at h'
        cases hr2 : sumD B n ord b (nxS B n st1) with
        | error e => rw [hr2] at h'; cases h'
        | ok x2 =>
          obtain ⟨g2, st2⟩ := x2
          rw [hr2] at h'
          cases h'
          exact (QT.cmp (by omega) (q_sumD _ _ _ _ hr) (q_sumD _ _ _ _ hr2)).notIf
theorem q_plainL {base : Bool → STK → RSL} (hb : ∀ tr st g st', base tr st = .ok (g, st') → QT ord g) : ∀ (k : Nat) (tr : Bool) (st st' : STK) (g : SEM), plainL B n base k tr st = .ok (g, st') → QT ord g := by
  intro k
  induction k with
  | zero => intro tr st st' g h; exact hb _ _ _ _ h
  | succ k ih =>
    intro tr st st' g h
    unfold plainL at h
    by_cases c : wd B st 12 = 0
    · rw [if_pos c] at h; exact ih _ _ _ _ h
    · rw [if_neg c] at h; exact hb _ _ _ _ h
theorem QT.and {f g : SEM} (h : QT ord f) (h2 : QT ord g) : QT ord (andS f g) := by
  refine ⟨fun W z hz => ?_, fun W W' e => ?_⟩
  · unfold andS at hz
    cases hf : f W with
    | none => rw [hf] at hz; cases hz
    | some x =>
      rw [hf] at hz
      have hz' : (if x = 0 then some 0 else g W) = some z := hz
      by_cases c : x = 0
      · rw [if_pos c] at hz'
        have : (0 : Int) = z := by injection hz'
        omega
      · rw [if_neg c] at hz'
        exact h2.1 W z hz'
  · unfold andS
    rw [h.2 W W' e, h2.2 W W' e]
theorem QT.or {f g : SEM} (h : QT ord f) (h2 : QT ord g) : QT ord (orS f g) := by
  refine ⟨fun W z hz => ?_, fun W W' e => ?_⟩
  · unfold orS at hz
    cases hf : f W with
    | none => rw [hf] at hz; cases hz
    | some x =>
      rw [hf] at hz
      have hz' : (if x = 1 then some 1 else g W) = some z := hz
      by_cases c : x = 1
      · rw [if_pos c] at hz'
        have : (1 : Int) = z := by injection hz'
        omega
      · rw [if_neg c] at hz'
        exact h2.1 W z hz'
  · unfold orS
    rw [h.2 W W' e, h2.2 W W' e]
theorem q_testL {plain : STK → RSL} (hp : ∀ st g st', plain st = .ok (g, st') → QT ord g) : ∀ (k : Nat) (F G : SEM) (st st' : STK) (g : SEM), QT ord F → QT ord G → testL B n plain k F G st = .ok (g, st') → QT ord g := by
  intro k
  induction k with
  | zero => intro F G st st' g _ _ h; cases h
  | succ k ih =>
    intro F G st st' g h1 h2 h
    unfold testL at h
    by_cases c : wd B st 16 = -1
    · rw [if_pos c] at h
      cases h
      exact h1.or h2
    · rw [if_neg c] at h
      cases hr : plain (nxS B n st) with
      | error e => rw [hr] at h; cases h
      | ok x =>
        obtain ⟨f, st1⟩ := x
        have hf := hp _ _ _ hr
        rw [hr] at h
        have h' : (if wd B st 16 = 0 then testL B n plain k F (andS G f) st1 else testL B n plain k (orS F G) f st1) = .ok (g, st') := h
        by_cases c0 : wd B st 16 = 0
        · rw [if_pos c0] at h'; exact ih _ _ _ _ _ h1 (h2.and hf) h'
        · rw [if_neg c0] at h'; exact ih _ _ _ _ _ (h1.or h2) hf h'
theorem q_testP {plain : STK → RSL} (hp : ∀ st g st', plain st = .ok (g, st') → QT ord g) (st st' : STK) (g : SEM) (h : testP B n plain st = .ok (g, st')) : QT ord g := by
  unfold testP at h
  generalize 400 = N at h
  cases hr : plain st with
  | error e => rw [hr] at h; cases h
  | ok x =>
    obtain ⟨f, st1⟩ := x
    rw [hr] at h
    have h' : testL B n plain N (fun _ => some 0) f st1 = .ok (g, st') := h
    refine q_testL hp N _ f st1 st' g ⟨fun W z hz => ?_, fun W W' _ => rfl⟩ (hp _ _ _ hr) h'
    have : (0 : Int) = z := by injection hz
    omega
theorem q_plainD {b : Nat} {inner : STK → RSL} (hin : ∀ st g st', inner st = .ok (g, st') → QT ord g) (st : STK) (g : SEM) (st' : STK) (h : plainD B n ord b inner st = .ok (g, st')) : QT ord g := by
  unfold plainD at h
  generalize 400 = N at h
  exact q_plainL (fun tr st g st' h => q_base hin h) N false st st' g h
theorem testD_0 : testD B n ord 0 = testP B n (plainD B n ord 0 (fun st => .error st.1)) := rfl
theorem testD_s (b : Nat) : testD B n ord (b + 1) = testP B n (plainD B n ord (b + 1) (testD B n ord b)) := rfl
theorem q_testD : ∀ (b : Nat) (st st' : STK) (g : SEM), testD B n ord b st = .ok (g, st') → QT ord g := by
  intro b
  induction b with
  | zero =>
    intro st st' g h
    rw [testD_0] at h
    exact q_testP (q_plainD (fun st g st' h => by cases h)) st st' g h
  | succ b ih =>
    intro st st' g h
    rw [testD_s] at h
    exact q_testP (q_plainD (fun st g st' h => ih st st' g h)) st st' g h
/-- what a clause is -/
def QC (ord : Bool) (x : CLS) : Prop := (QS ord x.2.2.1 ∧ QS ord x.2.2.2.1 ∧ QT ord x.2.2.2.2) ∧ (0 ≤ x.1 ∧ x.1 ≤ (if ord = true then 4 else 1)) ∧ (1 ≤ x.2.1 ∧ x.2.1 ≤ 20) ∧ ((ord = false ∨ 1 < x.1) → x.2.2.2.1 = semE)
theorem q_semE : QS ord semE ∧ QT ord semE := by
  refine ⟨⟨fun W _ z hz => ?_, fun _ _ _ => rfl⟩, fun W z hz => ?_, fun _ _ _ => rfl⟩
  · have : (1 : Int) = z := by injection hz
    unfold stB; omega
  · have : (1 : Int) = z := by injection hz
    omega
theorem q_sums2 {kind : Int} {f : SEM} {st st' : STK} {x : SEM × SEM} (hf : QS ord f) (h : sums2P B n ord kind f st = .ok (x, st')) : QS ord x.1 ∧ QS ord x.2 ∧ ((ord = false ∨ 1 < kind) → x.2 = semE) := by
  unfold sums2P at h
  by_cases c : ord = false ∨ 1 < kind
  · rw [if_pos c] at h
    cases h
    exact ⟨hf, q_semE.1, fun _ => rfl⟩
  · rw [if_neg c] at h
    by_cases c2 : wd B st (if kind = 0 then 8 else 9) = 0
    · rw [if_pos c2] at h
      cases hr : sumD B n ord 8 (nxS B n st) with
      | error e => rw [hr] at h; cases h
      | ok y =>
        obtain ⟨g, st2⟩ := y
        rw [hr] at h
        cases h
        exact ⟨hf, q_sumD _ _ _ _ hr, fun d => absurd d c⟩
    · rw [if_neg c2] at h; cases h
theorem q_clause {cl : Int} {st st' : STK} {x : CLS} (h : clauseP B n ord cl st = .ok (x, st')) : QC ord x := by
  have hw := wd_r B st (hdK ord)
  have hwl : ((wrdZ (hdK ord)).length : Int) = (if ord = true then 4 else 1) + 1 := by
    cases ord with
    | false => rfl
    | true => rfl
  unfold clauseP at h
  by_cases c : 12 ≤ cl ∨ wd B st (hdK ord) = -1
  · rw [if_pos c] at h; cases h
  · rw [if_neg c] at h
    unfold clsS at h
    generalize hW : wd B st (hdK ord) = W at *
    have hk : 0 ≤ W ∧ W ≤ (if ord = true then 4 else 1) := by omega
    cases hr : sumsP B n ord W (nxS B n st) with
    | error e => rw [hr] at h; cases h
    | ok y =>
      obtain ⟨⟨f, g⟩, st1⟩ := y
      rw [hr] at h
      have h' : clsT B n ord W f g st1 = .ok (x, st') := h
      have hfg : QS ord f ∧ QS ord g ∧ ((ord = false ∨ 1 < W) → g = semE) := by
        unfold sumsP at hr
        by_cases c2 : ownS ord W
        · rw [if_pos c2] at hr
          cases hr2 : sumD B n ord 8 (nxS B n st) with
          | error e => rw [hr2] at hr; cases hr
          | ok z =>
            obtain ⟨f1, st2⟩ := z
            rw [hr2] at hr
            exact q_sums2 (q_sumD _ _ _ _ hr2) hr
        · rw [if_neg c2] at hr
          exact q_sums2 q_semE.1 hr
      unfold clsT at h'
      cases ht : timesP B n ord st1 with
      | error e => rw [ht] at h'; cases h'
      | ok z =>
        obtain ⟨tm, st2⟩ := z
        rw [ht] at h'
        have h'' : (match ifP B n ord st2 with
          | .error e => (Except.error e : Except Int (CLS × STK))
          | .ok (k, st3) => .ok ((W, tm, f, g, k), st3)) = .ok (x, st') := h'
        have htm : 1 ≤ tm ∧ tm ≤ 20 := by
          unfold timesP at ht
          by_cases d1 : ord = false
          · rw [if_pos d1] at ht; cases ht; omega
          · rw [if_neg d1] at ht
            by_cases d2 : wd B st1 10 = 0
            · rw [if_pos d2] at ht
              have hnr := numP_r (B := B) (n := n) (f := (nxS B n st1).1) (t := (nxS B n st1).2.1) (lo := 1) (hi := 20) (by decide)
              have hnm : nm B n (nxS B n st1) 1 20 = -1 ∨ (1 ≤ nm B n (nxS B n st1) 1 20 ∧ nm B n (nxS B n st1) 1 20 ≤ 20) := hnr
              by_cases d3 : nm B n (nxS B n st1) 1 20 = -1
              · rw [if_pos d3] at ht; cases ht
              · rw [if_neg d3] at ht; cases ht; omega
            · rw [if_neg d2] at ht; cases ht; omega
        cases hi : ifP B n ord st2 with
        | error e => rw [hi] at h''; cases h''
        | ok u =>
          obtain ⟨k, st3⟩ := u
          rw [hi] at h''
          have hq : QT ord k := by
            unfold ifP at hi
            by_cases d : wd B st2 11 = 0
            · rw [if_pos d] at hi; exact q_testD _ _ _ _ hi
            · rw [if_neg d] at hi; cases hi; exact q_semE.2
          cases h''
          exact ⟨⟨hfg.1, hfg.2.1, hq⟩, hk, htm, hfg.2.2⟩
theorem q_clsL : ∀ (k : Nat) (CL CL' : List CLS) (st st' : STK), (∀ x ∈ CL, QC ord x) → CL.length ≤ 12 → clsL B n ord k CL st = .ok (CL', st') → (∀ x ∈ CL', QC ord x) ∧ CL'.length ≤ 12 := by
  intro k
  induction k with
  | zero => intro CL CL' st st' h hl e; cases e; exact ⟨h, hl⟩
  | succ k ih =>
    intro CL CL' st st' h hl e
    unfold clsL at e
    by_cases c : wd B st 17 = 0
    · rw [if_pos c] at e
      cases hr : clauseP B n ord CL.length (nxS B n st) with
      | error d => rw [hr] at e; cases e
      | ok y =>
        obtain ⟨x, st1⟩ := y
        rw [hr] at e
        have hcl12 : CL.length < 12 := by
          by_cases d : CL.length < 12
          · exact d
          · exfalso
            unfold clauseP at hr
            rw [if_pos (Or.inl (by omega))] at hr
            cases hr
        refine ih (CL ++ [x]) CL' st1 st' (fun y hy => ?_) (by rw [List.length_append]; show CL.length + 1 ≤ 12; omega) e
        rcases List.mem_append.mp hy with d | d
        · exact h y d
        · have : y = x := by simpa using d
          rw [this]
          exact q_clause hr
    · rw [if_neg c] at e
      cases e
      exact ⟨h, hl⟩
theorem q_text {CL : List CLS} (h : textP B n ord = .ok CL) : (∀ x ∈ CL, QC ord x) ∧ CL.length ≤ 12 := by
  unfold textP at h
  generalize 400 = N at h
  cases hr : clauseP B n ord 0 (nxS B n (0, 0, 0)) with
  | error e => rw [hr] at h; cases h
  | ok y =>
    obtain ⟨x, st⟩ := y
    rw [hr] at h
    have h' : endP n (clsL B n ord N [x] st) = .ok CL := h
    cases hq : clsL B n ord N [x] st with
    | error e => rw [hq] at h'; cases h'
    | ok z =>
      obtain ⟨CL', st'⟩ := z
      rw [hq] at h'
      have h'' : (if st'.1 < n then (Except.error st'.1 : Except Int (List CLS)) else .ok CL') = .ok CL := h'
      by_cases c : st'.1 < n
      · rw [if_pos c] at h''; cases h''
      · rw [if_neg c] at h''
        cases h''
        exact q_clsL N [x] _ st _ (fun y hy => by have e : y = x := (by simpa using hy); rw [e]; exact q_clause hr) (by show 1 ≤ 12; decide) hq
end PTX
