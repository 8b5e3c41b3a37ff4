/-! ORDERS, PURELY: pages, what was pushed, how many were run, the latest -/
abbrev OST : Type := PG × LGS × Int × Int
def ordW (se : ST1) (S : OST) : Int → Int := fun z => if z = 0 then se.1 0 else if z = 1 then S.2.2.1 else if z = 2 then S.2.2.2 else if z = 3 then countP S.1 else if z < 12 then freeP S.1 (z - 4) else S.1 4 (z - 12)
def nxO (S : OST) (k lt : Int) (P : PG) : OST := (P, S.2.1 ++ [(k, S.1)], S.2.2.1 + 1, lt)
def actO (se : ST1) (k a b : Int) (S : OST) : Option OST :=
  if k = 0 then (if (0 ≤ a ∧ a ≤ 200) ∧ 0 ≤ b ∧ b ≤ 255 then (if (bringP (lwF se) se.1 (fun _ => b) a S.1).1 = -1 then none else some (nxO S 0 (bringP (lwF se) se.1 (fun _ => b) a S.1).1 (bringP (lwF se) se.1 (fun _ => b) a S.1).2)) else none)
  else if k = 1 then (if recP S.1 a ∧ 0 ≤ b ∧ b ≤ 200 then (if (anewP (lwF se) se.1 (fun _ => 7) b a S.1).1 = -1 then none else some (nxO S 1 S.2.2.2 (anewP (lwF se) se.1 (fun _ => 7) b a S.1).2)) else none)
  else if k = 2 then (if recP S.1 a then some (nxO S 2 S.2.2.2 (takeP S.1 a (-1))) else none)
  else if k = 3 then (if 0 ≤ a ∧ a < 8 then some (nxO S 3 S.2.2.2 (packP S.1 a)) else none)
  else some (nxO S 4 S.2.2.2 (mendP S.1).2)
def oneO (se : ST1) (x : CLS) (S : OST) : Option OST := if x.2.2.2.2 (ordW se S) = some 1 then (match x.2.2.1 (ordW se S), x.2.2.2.1 (ordW se S) with
  | some a, some b => actO se x.1 a b S
  | _, _ => none) else some S
def timO (se : ST1) (x : CLS) : Nat → OST → Option OST
  | 0, S => some S
  | k + 1, S => match oneO se x S with
    | none => none
    | some S' => timO se x k S'
def clsO (se : ST1) : List CLS → Int → OST → Except Int OST
  | [], _, S => .ok S
  | x :: L, i, S => match timO se x x.2.1.toNat S with
    | none => .error i
    | some S' => clsO se L (i + 1) S'
/-- what can be, after d at most -/
def WfO (d : Int) (S : OST) : Prop := PgH S.1 ∧ (∀ y ∈ S.2.1, PgH y.2 ∧ 0 ≤ y.1 ∧ y.1 ≤ 4) ∧ (0 ≤ S.2.2.1 ∧ S.2.2.1 ≤ d) ∧ (-1 ≤ S.2.2.2 ∧ S.2.2.2 < 128)
theorem WfO.mo {d d' : Int} {S : OST} (h : WfO d S) (hd : d ≤ d') : WfO d' S := ⟨h.1, h.2.1, ⟨h.2.2.1.1, by have := h.2.2.1.2; omega⟩, h.2.2.2⟩
theorem ordW_b {se : ST1} {S : OST} {d : Int} (hw : WfT se) (h : WfO d S) (hd : d ≤ 1000) : ∀ z, 0 ≤ z → z < 20 → stB (ordW se S z) := by
  intro z z0 z1
  have a0 := hw.1.2.2.2 0
  have a3 := count_r S.1
  have a4 := freeP_r h.1.1.1.1.1 (z - 4)
  have a5 := h.1.1.1.1.1.2 (z - 12)
  have a1 := h.2.2.1
  have a2 := h.2.2.2
  unfold ordW
  show stB (if z = 0 then _ else _)
  by_cases c0 : z = 0
  · rw [if_pos c0]; exact ⟨by omega, by omega⟩
  rw [if_neg c0]
  by_cases c1 : z = 1
  · rw [if_pos c1]; exact ⟨by omega, by omega⟩
  rw [if_neg c1]
  by_cases c2 : z = 2
  · rw [if_pos c2]; exact ⟨by omega, by omega⟩
  rw [if_neg c2]
  by_cases c3 : z = 3
  · rw [if_pos c3]; exact ⟨by omega, by omega⟩
  rw [if_neg c3]
  by_cases c4 : z < 12
  · rw [if_pos c4]; exact ⟨by omega, by omega⟩
  · rw [if_neg c4]; exact ⟨by omega, by omega⟩
theorem nxO_W {S : OST} {k lt d : Int} {P : PG} (h : WfO d S) (hk : 0 ≤ k ∧ k ≤ 4) (hl : -1 ≤ lt ∧ lt < 128) (hP : PgH P) : WfO (d + 1) (nxO S k lt P) := by
  refine ⟨hP, fun y hy => ?_, ⟨?_, ?_⟩, hl⟩
  · rcases List.mem_append.mp hy with e | e
    · exact h.2.1 y e
    · have e2 : y = (k, S.1) := by simpa using e
      rw [e2]
      exact ⟨h.1, hk.1, hk.2⟩
  · show 0 ≤ S.2.2.1 + 1
    have := h.2.2.1.1
    omega
  · show S.2.2.1 + 1 ≤ d + 1
    have := h.2.2.1.2
    omega
theorem actO_W {se : ST1} {S S' : OST} {k a b d : Int} (h : WfO d S) (e : actO se k a b S = some S') : WfO (d + 1) S' := by
  have hH := h.1
  have hl := h.2.2.2
  unfold actO at e
  by_cases k0 : k = 0
  · rw [if_pos k0] at e
    by_cases c : (0 ≤ a ∧ a ≤ 200) ∧ 0 ≤ b ∧ b ≤ 255
    · have hb : RecB (fun _ => b) a := byte_all ⟨c.2.1, by omega⟩
      have hr := bring_r (o := lwF se) (V := se.1) (P := S.1) hH.1 hb c.1
      rw [if_pos c] at e
      by_cases f : (bringP (lwF se) se.1 (fun _ => b) a S.1).1 = -1
      · rw [if_pos f] at e; cases e
      · rw [if_neg f] at e
        cases e
        exact nxO_W h (by decide) (by omega) (bring_H hH hb c.1)
    · rw [if_neg c] at e; cases e
  rw [if_neg k0] at e
  by_cases k1 : k = 1
  · rw [if_pos k1] at e
    by_cases c : recP S.1 a ∧ 0 ≤ b ∧ b ≤ 200
    · rw [if_pos c] at e
      by_cases f : (anewP (lwF se) se.1 (fun _ => 7) b a S.1).1 = -1
      · rw [if_pos f] at e; cases e
      · rw [if_neg f] at e
        cases e
        exact nxO_W h (by decide) hl (anew_H hH (byte_all (by decide)) c.2 c.1)
    · rw [if_neg c] at e; cases e
  rw [if_neg k1] at e
  by_cases k2 : k = 2
  · rw [if_pos k2] at e
    by_cases c : recP S.1 a
    · rw [if_pos c] at e
      cases e
      exact nxO_W h (by decide) hl (takeP_H hH c).1
    · rw [if_neg c] at e; cases e
  rw [if_neg k2] at e
  by_cases k3 : k = 3
  · rw [if_pos k3] at e
    by_cases c : 0 ≤ a ∧ a < 8
    · rw [if_pos c] at e
      cases e
      exact nxO_W h (by decide) hl (pack_H hH c)
    · rw [if_neg c] at e; cases e
  rw [if_neg k3] at e
  cases e
  exact nxO_W h (by decide) hl (mend_H 8 0 0 S.1 (by decide) (by decide) hH)
theorem oneO_W {se : ST1} {S S' : OST} {x : CLS} {d : Int} (h : WfO d S) (e : oneO se x S = some S') : WfO (d + 1) S' := by
  unfold oneO at e
  by_cases c : x.2.2.2.2 (ordW se S) = some 1
  · rw [if_pos c] at e
    cases h1 : x.2.2.1 (ordW se S) with
    | none => rw [h1] at e; cases e
    | some a =>
      cases h2 : x.2.2.2.1 (ordW se S) with
      | none => rw [h1, h2] at e; cases e
      | some b =>
        rw [h1, h2] at e
        exact actO_W h e
  · rw [if_neg c] at e
    cases e
    exact h.mo (by omega)
theorem timO_W {se : ST1} {x : CLS} : ∀ (k : Nat) (d : Int) (S S' : OST), WfO d S → timO se x k S = some S' → WfO (d + k) S' := by
  intro k
  induction k with
  | zero =>
    intro d S S' h e
    have e' : some S = some S' := e
    cases e'
    exact h.mo (by omega)
  | succ k ih =>
    intro d S S' h e
    unfold timO at e
    cases h1 : oneO se x S with
    | none => rw [h1] at e; cases e
    | some S1 =>
      rw [h1] at e
      exact (ih (d + 1) S1 S' (oneO_W h h1) e).mo (by omega)
theorem clsO_W {se : ST1} : ∀ (L : List CLS) (i d : Int) (S S' : OST), (∀ x ∈ L, QC true x) → WfO d S → clsO se L i S = .ok S' → WfO (d + 20 * L.length) S' := by
  intro L
  induction L with
  | nil =>
    intro i d S S' _ h e
    have e' : (Except.ok S : Except Int OST) = .ok S' := e
    cases e'
    exact h.mo (by show d ≤ d + 20 * ((0 : Nat) : Int); omega)
  | cons x L ih =>
    intro i d S S' hq h e
    have hx := (hq x (by simp)).2.2.1
    unfold clsO at e
    cases h1 : timO se x x.2.1.toNat S with
    | none => rw [h1] at e; cases e
    | some S1 =>
      rw [h1] at e
      have := timO_W _ d S S1 h h1
      exact (ih (i + 1) (d + 20) S1 S' (fun y hy => hq y (by simp [hy])) (this.mo (by omega)) e).mo (by show _ ≤ d + 20 * ((L.length + 1 : Nat) : Int); omega)
/-- what orders answer and leave -/
def ordR (r : Except Int (List CLS)) (se : ST1) (P : PG) : Except Int (Except Int OST) := match r with
  | .error e => .error e
  | .ok CL => .ok (clsO se CL 0 (P, [], 0, -1))
def ordA (r : Except Int (Except Int OST)) : Int := match r with
  | .error _ => -6
  | .ok (.error _) => -3
  | .ok (.ok S) => S.2.2.1
def ordP (r : Except Int (Except Int OST)) (P : PG) : PG := match r with
  | .error _ => P
  | .ok (.error _) => P
  | .ok (.ok S) => S.1
def ordL (r : Except Int (Except Int OST)) (LG : LGS) : LGS := match r with
  | .error _ => LG
  | .ok (.error _) => LG
  | .ok (.ok S) => las (LG ++ S.2.1)
def ordM (r : Except Int (Except Int OST)) (ms : Int → Int) : Int → Int := match r with
  | .error e => msR (bu (bu ms 0 e) 1 (-1)) (-6)
  | .ok (.error i) => msR (bu (bu (bu ms 0 (-1)) 1 (-1)) 1 i) (-3)
  | .ok (.ok _) => msT (bu (bu ms 0 (-1)) 1 (-1))
