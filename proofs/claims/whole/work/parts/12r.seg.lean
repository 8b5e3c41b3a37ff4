/-! SEGMENTS: a part of a text that answers a sum, a test -/
abbrev SEM : Type := (Int → Int) → Option Int
def Go (I : Int → Int × Int) (W : Int → Int) (b i : Int) (st : List Int) (j : Int) (st' : List Int) : Prop := ∃ k : Nat, (k : Int) ≤ j - i ∧ ∀ n, runP I W b (n + k) i st = runP I W b n j st'
def Bk (I : Int → Int × Int) (W : Int → Int) (b i : Int) (st : List Int) (j : Int) : Prop := ∃ k : Nat, (k : Int) ≤ j - i ∧ ∀ n, runP I W b (n + k) i st = some none
theorem Go.tr {I : Int → Int × Int} {W : Int → Int} {b i j l : Int} {x y z : List Int} (h : Go I W b i x j y) (k : Go I W b j y l z) : Go I W b i x l z := by
  obtain ⟨k1, a1, b1⟩ := h
  obtain ⟨k2, a2, b2⟩ := k
  refine ⟨k2 + k1, by omega, fun n => ?_⟩
  rw [← Nat.add_assoc, b1, b2]
theorem Go.bk {I : Int → Int × Int} {W : Int → Int} {b i j l : Int} {x y : List Int} (h : Go I W b i x j y) (k : Bk I W b j y l) : Bk I W b i x l := by
  obtain ⟨k1, a1, b1⟩ := h
  obtain ⟨k2, a2, b2⟩ := k
  refine ⟨k2 + k1, by omega, fun n => ?_⟩
  rw [← Nat.add_assoc, b1, b2]
theorem Bk.mo {I : Int → Int × Int} {W : Int → Int} {b i j l : Int} {x : List Int} (h : Bk I W b i x j) (hl : j ≤ l) : Bk I W b i x l := by
  obtain ⟨k1, a1, b1⟩ := h
  exact ⟨k1, by omega, b1⟩
theorem Go.rf {I : Int → Int × Int} {W : Int → Int} {b i : Int} {x : List Int} : Go I W b i x i x := ⟨0, by omega, fun _ => rfl⟩
theorem go_num {I : Int → Int × Int} {W : Int → Int} {b i a : Int} {st : List Int} (h : I i = (0, a)) (hb : i < b) : Go I W b i st (i + 1) (a :: st) := by
  refine ⟨1, by omega, fun n => ?_⟩
  rw [runP_s]
  unfold runB
  rw [if_neg (by omega), h, if_pos rfl]
theorem go_word {I : Int → Int × Int} {W : Int → Int} {b i a : Int} {st : List Int} (h : I i = (1, a)) (hb : i < b) : Go I W b i st (i + 1) (W a :: st) := by
  refine ⟨1, by omega, fun n => ?_⟩
  rw [runP_s]
  unfold runB
  rw [if_neg (by omega), h, if_neg (show ¬ (1 : Int) = 0 by decide), if_pos rfl]
theorem go_not {I : Int → Int × Int} {W : Int → Int} {b i a y : Int} {st : List Int} (h : I i = (10, a)) (hb : i < b) : Go I W b i (y :: st) (i + 1) ((1 - y) :: st) := by
  refine ⟨1, by omega, fun n => ?_⟩
  rw [runP_s]
  unfold runB
  rw [if_neg (by omega), h, if_neg (show ¬ (10 : Int) = 0 by decide), if_neg (show ¬ (10 : Int) = 1 by decide)]
  rfl
theorem go_bin {I : Int → Int × Int} {W : Int → Int} {b i op a x y z : Int} {st : List Int} (h : I i = (op, a)) (ho : 2 ≤ op ∧ op ≤ 9) (hb : i < b) (hz : joinP op x y = some z) : Go I W b i (y :: x :: st) (i + 1) (z :: st) := by
  refine ⟨1, by omega, fun n => ?_⟩
  rw [runP_s]
  unfold runB
  rw [if_neg (by omega), h, if_neg (by show ¬ op = 0; omega), if_neg (by show ¬ op = 1; omega)]
  show (if op = 10 then _ else _) = _
  rw [if_neg (by omega), if_pos (by show op < 10; omega)]
  show (match joinP op x y with | none => _ | some z => _) = _
  rw [hz]
theorem bk_bin {I : Int → Int × Int} {W : Int → Int} {b i op a x y : Int} {st : List Int} (h : I i = (op, a)) (ho : 2 ≤ op ∧ op ≤ 9) (hb : i < b) (hz : joinP op x y = none) : Bk I W b i (y :: x :: st) (i + 1) := by
  refine ⟨1, by omega, fun n => ?_⟩
  rw [runP_s]
  unfold runB
  rw [if_neg (by omega), h, if_neg (by show ¬ op = 0; omega), if_neg (by show ¬ op = 1; omega)]
  show (if op = 10 then _ else _) = _
  rw [if_neg (by omega), if_pos (by show op < 10; omega)]
  show (match joinP op x y with | none => _ | some z => _) = _
  rw [hz]
/-- and: 11, or: 12 -/
theorem go_jmp {I : Int → Int × Int} {W : Int → Int} {b i op a y : Int} {st : List Int} (h : I i = (op, a)) (ho : op = 11 ∨ op = 12) (hb : i < b) (hy : y = (if op = 11 then 0 else 1)) (ha : i < a) : Go I W b i (y :: st) a (y :: st) := by
  refine ⟨1, by omega, fun n => ?_⟩
  rw [runP_s]
  unfold runB
  rw [if_neg (by omega), h, if_neg (by show ¬ op = 0; omega), if_neg (by show ¬ op = 1; omega)]
  show (if op = 10 then _ else _) = _
  rw [if_neg (by omega), if_neg (by show ¬ op < 10; omega)]
  show (if y = (if op = 11 then 0 else 1) then _ else _) = _
  rw [if_pos hy, show max (i + 1) a = a by omega]
theorem go_pop {I : Int → Int × Int} {W : Int → Int} {b i op a y : Int} {st : List Int} (h : I i = (op, a)) (ho : op = 11 ∨ op = 12) (hb : i < b) (hy : ¬ y = (if op = 11 then 0 else 1)) : Go I W b i (y :: st) (i + 1) st := by
  refine ⟨1, by omega, fun n => ?_⟩
  rw [runP_s]
  unfold runB
  rw [if_neg (by omega), h, if_neg (by show ¬ op = 0; omega), if_neg (by show ¬ op = 1; omega)]
  show (if op = 10 then _ else _) = _
  rw [if_neg (by omega), if_neg (by show ¬ op < 10; omega)]
  show (if y = (if op = 11 then 0 else 1) then _ else _) = _
  rw [if_neg hy]
def Agr (I I' : Int → Int × Int) (i j : Int) : Prop := ∀ x, i ≤ x → x < j → I' x = I x
theorem Agr.mo {I I' : Int → Int × Int} {i j a b : Int} (h : Agr I I' i j) (h1 : i ≤ a) (h2 : b ≤ j) : Agr I I' a b := fun x hx hy => h x (by omega) (by omega)
theorem Agr.tr {I J K : Int → Int × Int} {i j : Int} (h : Agr I J i j) (k : Agr J K i j) : Agr I K i j := fun x hx hy => (k x hx hy).trans (h x hx hy)
theorem Agr.rf (I : Int → Int × Int) (i j : Int) : Agr I I i j := fun _ _ _ => rfl
/-- what a segment answers -/
def Ans (I : Int → Int × Int) (W : Int → Int) (b i : Int) (st : List Int) (j : Int) : Option Int → Prop
  | none => Bk I W b i st j
  | some z => Go I W b i st j (z :: st)
def Seg (I : Int → Int × Int) (i j : Int) (f : SEM) : Prop := i < j ∧ ∀ I', Agr I I' i j → ∀ W b st, j ≤ b → Ans I' W b i st j (f W)
theorem Seg.agr {I I' : Int → Int × Int} {i j : Int} {f : SEM} (h : Seg I i j f) (k : Agr I I' i j) : Seg I' i j f := ⟨h.1, fun J hJ => h.2 J (k.tr hJ)⟩
theorem Seg.num {I : Int → Int × Int} {i a : Int} (h : I i = (0, a)) : Seg I i (i + 1) (fun _ => some a) := ⟨by omega, fun I' hI W b st hb => go_num (by rw [hI i (by omega) (by omega)]; exact h) (by omega)⟩
theorem Seg.word {I : Int → Int × Int} {i a : Int} (h : I i = (1, a)) : Seg I i (i + 1) (fun W => some (W a)) := ⟨by omega, fun I' hI W b st hb => go_word (by rw [hI i (by omega) (by omega)]; exact h) (by omega)⟩
def binS (op : Int) (f g : SEM) : SEM := fun W => (f W).bind fun x => (g W).bind fun y => joinP op x y
theorem Seg.bin {I : Int → Int × Int} {i j k op a : Int} {f g : SEM} (h : Seg I i j f) (h' : Seg I j k g) (hk : I k = (op, a)) (ho : 2 ≤ op ∧ op ≤ 9) : Seg I i (k + 1) (binS op f g) := by
  have h1 := h.1
  have h2 := h'.1
  refine ⟨by omega, fun I' hI W b st hb => ?_⟩
  have a1 := h.2 I' (hI.mo (by omega) (by omega)) W b st (by omega)
  have hK : I' k = (op, a) := by rw [hI k (by omega) (by omega)]; exact hk
  unfold binS
  cases hf : f W with
  | none =>
    rw [hf] at a1
    exact a1.mo (by omega)
  | some x =>
    rw [hf] at a1
    have a2 := h'.2 I' (hI.mo (by omega) (by omega)) W b (x :: st) (by omega)
    rw [Option.bind_some]
    cases hg : g W with
    | none =>
      rw [hg] at a2
      exact (Go.bk a1 a2).mo (by omega)
    | some y =>
      rw [hg] at a2
      rw [Option.bind_some]
      cases hj : joinP op x y with
      | none => exact Go.bk (Go.tr a1 a2) (bk_bin hK ho (by omega) hj)
      | some z => exact Go.tr (Go.tr a1 a2) (go_bin hK ho (by omega) hj)
def notS (f : SEM) : SEM := fun W => (f W).bind fun x => some (1 - x)
theorem notS_notS (f : SEM) : notS (notS f) = f := by
  funext W
  unfold notS
  cases f W with
  | none => rfl
  | some x => show some (1 - (1 - x)) = some x; congr 1; omega
theorem Seg.not {I : Int → Int × Int} {i j a : Int} {f : SEM} (h : Seg I i j f) (hj : I j = (10, a)) : Seg I i (j + 1) (notS f) := by
  have h1 := h.1
  refine ⟨by omega, fun I' hI W b st hb => ?_⟩
  have a1 := h.2 I' (hI.mo (by omega) (by omega)) W b st (by omega)
  have hJ : I' j = (10, a) := by rw [hI j (by omega) (by omega)]; exact hj
  unfold notS
  cases hf : f W with
  | none => rw [hf] at a1; exact a1.mo (by omega)
  | some x => rw [hf] at a1; exact Go.tr a1 (go_not hJ (by omega))
/-! chains of "and", "or": q is the place of an "or" that leads on to where the chain ends (-1: none) -/
def Ch (I : Int → Int × Int) (i j q : Int) (f g : SEM) : Prop := i < j ∧ (q = -1 ∨ (i ≤ q ∧ q < j)) ∧ ∀ I', (∀ x, i ≤ x → x < j → x ≠ q → I' x = I x) → ∀ t, j ≤ t → (q ≠ -1 → I' q = (12, t)) → ∀ W b st, t ≤ b →
  match f W with
  | none => Bk I' W b i st j
  | some x => (x = 1 → Go I' W b i st t (1 :: st)) ∧ (x ≠ 1 → Ans I' W b i st j (g W))
def orS (f g : SEM) : SEM := fun W => (f W).bind fun x => if x = 1 then some 1 else g W
def andS (f g : SEM) : SEM := fun W => (f W).bind fun x => if x = 0 then some 0 else g W
theorem Ch.start {I : Int → Int × Int} {i j : Int} {g : SEM} (h : Seg I i j g) (hi : 0 ≤ i) : Ch I i j (-1) (fun _ => some 0) g :=
  ⟨h.1, Or.inl rfl, fun I' hI t ht hq W b st hb => ⟨fun e => absurd e (by decide), fun _ => h.2 I' (fun x hx hy => hI x hx hy (by omega)) W b st (by omega)⟩⟩
theorem Ch.and {I J : Int → Int × Int} {i j k q : Int} {f g h : SEM} (hi : 0 ≤ i) (c : Ch I i j q f g) (hs : Seg J (j + 1) k h) (hj : J j = (11, k)) (hJ : ∀ x, i ≤ x → x < j → x ≠ q → J x = I x) : Ch J i k q f (andS g h) := by
  obtain ⟨c1, c2, c3⟩ := c
  have h1 := hs.1
  refine ⟨by omega, by omega, fun I' hI t ht hq W b st hb => ?_⟩
  have a1 := c3 I' (fun x hx hy hxq => by rw [hI x hx (by omega) hxq, hJ x hx hy hxq]) t (by omega) hq W b st hb
  have hK : I' j = (11, k) := by rw [hI j (by omega) (by omega) (by omega)]; exact hj
  cases hf : f W with
  | none => rw [hf] at a1; exact Bk.mo a1 (by omega)
  | some x =>
    rw [hf] at a1
    refine ⟨a1.1, fun hx => ?_⟩
    have a2 := a1.2 hx
    unfold andS
    cases hg : g W with
    | none => rw [hg] at a2; exact Bk.mo a2 (by omega)
    | some z =>
      rw [hg] at a2
      rw [Option.bind_some]
      by_cases ez : z = 0
      · rw [if_pos ez]
        rw [ez] at a2
        exact Go.tr a2 (go_jmp hK (Or.inl rfl) (by omega) rfl (by omega))
      · rw [if_neg ez]
        have a3 := hs.2 I' (fun x hx hy => hI x (by omega) (by omega) (by omega)) W b st (by omega)
        have a4 := Go.tr a2 (go_pop (y := z) (st := st) hK (Or.inl rfl) (by omega) ez)
        cases hh : h W with
        | none => rw [hh] at a3; exact Go.bk a4 a3
        | some y => rw [hh] at a3; exact Go.tr a4 a3
theorem Ch.or {I J : Int → Int × Int} {i j k q a : Int} {f g h : SEM} (hi : 0 ≤ i) (c : Ch I i j q f g) (hs : Seg J (j + 1) k h) (hj : J j = (12, a)) (hJ : ∀ x, i ≤ x → x < j → x ≠ q → J x = I x) (hq : q ≠ -1 → J q = (12, j)) : Ch J i k j (orS f g) h := by
  obtain ⟨c1, c2, c3⟩ := c
  have h1 := hs.1
  refine ⟨by omega, by omega, fun I' hI t ht hQ W b st hb => ?_⟩
  have a1 := c3 I' (fun x hx hy hxq => by rw [hI x hx (by omega) (by omega), hJ x hx hy hxq]) j (by omega) (fun e => by rw [hI q (by omega) (by omega) (by omega)]; exact hq e) W b st (by omega)
  have hK : I' j = (12, t) := hQ (by omega)
  unfold orS
  cases hf : f W with
  | none => rw [hf] at a1; exact Bk.mo a1 (by omega)
  | some x =>
    rw [hf] at a1
    rw [Option.bind_some]
    have key : ∀ z, Go I' W b i st j (z :: st) → (z = 1 → Go I' W b i st t (1 :: st)) ∧ (z ≠ 1 → Ans I' W b i st k (h W)) := by
      intro z hz
      refine ⟨fun e => ?_, fun e => ?_⟩
      · rw [e] at hz
        exact Go.tr hz (go_jmp hK (Or.inr rfl) (by omega) rfl (by omega))
      · have a3 := hs.2 I' (fun x hx hy => hI x (by omega) (by omega) (by omega)) W b st (by omega)
        have a4 := Go.tr hz (go_pop (y := z) (st := st) hK (Or.inr rfl) (by omega) e)
        cases hh : h W with
        | none => rw [hh] at a3; exact Go.bk a4 a3
        | some y => rw [hh] at a3; exact Go.tr a4 a3
    by_cases ex : x = 1
    · rw [if_pos ex]
      exact key 1 (a1.1 ex)
    · rw [if_neg ex]
      have a2 := a1.2 ex
      cases hg : g W with
      | none => rw [hg] at a2; exact Bk.mo a2 (by omega)
      | some z => rw [hg] at a2; exact key z a2
theorem Ch.fin {I J : Int → Int × Int} {i j q : Int} {f g : SEM} (c : Ch I i j q f g) (hJ : ∀ x, i ≤ x → x < j → x ≠ q → J x = I x) (hq : q ≠ -1 → J q = (12, j)) : Seg J i j (orS f g) := by
  obtain ⟨c1, c2, c3⟩ := c
  refine ⟨c1, fun I' hI W b st hb => ?_⟩
  have a1 := c3 I' (fun x hx hy hxq => by rw [hI x hx hy, hJ x hx hy hxq]) j (by omega) (fun e => by rw [hI q (by omega) (by omega)]; exact hq e) W b st hb
  unfold orS
  cases hf : f W with
  | none => rw [hf] at a1; exact a1
  | some x =>
    rw [hf] at a1
    rw [Option.bind_some]
    by_cases ex : x = 1
    · rw [if_pos ex]; exact a1.1 ex
    · rw [if_neg ex]; exact a1.2 ex
/-- a segment, run alone -/
theorem Seg.run {I : Int → Int × Int} {i j : Int} {f : SEM} (h : Seg I i j f) (W : Int → Int) {n : Nat} (hn : j - i < n) : runP I W j n i [] = some ((f W).map fun z => [z]) := by
  have a := h.2 I (Agr.rf I i j) W j [] (by omega)
  cases hf : f W with
  | none =>
    rw [hf] at a
    obtain ⟨k, hk, e⟩ := a
    have := e (n - k)
    rw [show n - k + k = n by omega] at this
    exact this
  | some z =>
    rw [hf] at a
    obtain ⟨k, hk, e⟩ := a
    have := e (n - k)
    rw [show n - k + k = n by omega] at this
    rw [this]
    obtain ⟨m, hm⟩ : ∃ m, n - k = m + 1 := ⟨n - k - 1, by omega⟩
    rw [hm, runP_s]
    unfold runB
    rw [if_pos (by omega)]
    rfl
