/-! RULES of the small machine: blocks, branches, calls, answers; more steps, more depth -/
set_option maxHeartbeats 4000000 in
theorem stepC_rel {β1 β2 : Type} (Rel : β1 → β2 → Prop) (M : MI) (G1 G2 : Prop) (pc : Nat) (ls st : List Value) (s : AS) (K1 : Prop → Nat → List Value → List Value → AS → β1) (K2 : Prop → Nat → List Value → List Value → AS → β2) (bad1 : β1) (bad2 : β2)
    (hK : ∀ (g1 g2 : Prop) (a : Nat) (b c : List Value) (d : AS), ((g1 = G1 ∧ g2 = G2) ∨ ∃ g : Prop, g1 = (G1 ∧ g) ∧ g2 = (G2 ∧ g)) → Rel (K1 g1 a b c d) (K2 g2 a b c d)) (hb : Rel bad1 bad2) :
    Rel (stepC M G1 pc ls st s K1 bad1) (stepC M G2 pc ls st s K2 bad2) := by
  unfold stepC
  split
  · rename_i i len h
    unfold stepI
    split <;> (try simp only [ii2, ll2, ldI, ldJ, ldR, stI, stR, stJ, stepP, stepQ, stepF, stepU, cond_eq_ite]) <;> (repeat' split) <;> first
      | exact hb
      | exact hK _ _ _ _ _ _ (Or.inl ⟨rfl, rfl⟩)
      | exact hK _ _ _ _ _ _ (Or.inr ⟨_, rfl, rfl⟩)
  · exact hb
theorem stepC_shape {β : Type} (M : MI) (G : Prop) (pc : Nat) (ls st : List Value) (s : AS) (K : Prop → Nat → List Value → List Value → AS → β) (bad : β) :
    stepC M G pc ls st s K bad = bad ∨ ∃ g : Prop, (g → G ∧ (step1 M (pc, ls, st, s)).1) ∧ stepC M G pc ls st s K bad = K g (step1 M (pc, ls, st, s)).2.1 (step1 M (pc, ls, st, s)).2.2.1 (step1 M (pc, ls, st, s)).2.2.2.1 (step1 M (pc, ls, st, s)).2.2.2.2 := by
  refine stepC_rel (fun (x : β) (y : Prop × Cf) => x = bad ∨ ∃ g : Prop, (g → G ∧ y.1) ∧ x = K g y.2.1 y.2.2.1 y.2.2.2.1 y.2.2.2.2) M G True pc ls st s K (fun g pc ls st s => (g, (pc, ls, st, s))) bad badC ?_ (Or.inl rfl)
  intro g1 g2 a b c d h
  rcases h with ⟨rfl, rfl⟩ | ⟨g, rfl, rfl⟩
  · exact Or.inr ⟨_, fun h => ⟨h, trivial⟩, rfl⟩
  · exact Or.inr ⟨_, fun h => ⟨h.1, trivial, h.2⟩, rfl⟩
theorem blk_runs (M : MI) {c2 : Cf} {G2 : Prop} : ∀ (k : Nat) (G : Prop) (pc : Nat) (ls st : List Value) (s : AS), blk M k G pc ls st s = (G2, c2) → G2 → G ∧ ∀ (n d : Nat) (out : Option Value × AS), Run n d M c2 out → Run (n + k) d M (pc, ls, st, s) out := by
  intro k
  induction k with
  | zero =>
    intro G pc ls st s h hG
    cases h
    exact ⟨hG, fun n d out h => h⟩
  | succ k ih =>
    intro G pc ls st s h hG
    have h1 : stepC M G pc ls st s (fun g pc' ls' st' s' => blk M k g pc' ls' st' s') badC = (G2, c2) := h
    rcases stepC_shape M G pc ls st s (fun g pc' ls' st' s' => blk M k g pc' ls' st' s') badC with h2 | ⟨g, hg, h2⟩
    · rw [h2] at h1
      cases h1
      exact hG.elim
    · rw [h2] at h1
      obtain ⟨q1, q2⟩ := ih _ _ _ _ _ h1 hG
      obtain ⟨q3, q4⟩ := hg q1
      refine ⟨q3, fun n d out hr => ?_⟩
      have q5 := q2 n d out hr
      exact Or.inr (Or.inl ⟨q4, q5⟩)
theorem Ev_blk {d : Nat} {M : MI} {pc : Nat} {ls st : List Value} {s : AS} {out : Option Value × AS} (k : Nat) {G : Prop} {pc' : Nat} {ls' st' : List Value} {s' : AS} (h : blk M k True pc ls st s = (G, (pc', ls', st', s'))) (hG : G) (e : Ev d M pc' ls' st' s' out) : Ev d M pc ls st s out := by
  obtain ⟨n, hn⟩ := e
  exact ⟨n + k, (blk_runs M k True pc ls st s h hG).2 n d out hn⟩
theorem Run_more : ∀ (n d : Nat) (M : MI) (c : Cf) (out : Option Value × AS), Run n d M c out → ∀ n' d' : Nat, n ≤ n' → d ≤ d' → Run n' d' M c out := by
  intro n
  induction n with
  | zero => intro d M c out h; exact h.elim
  | succ n ih =>
    intro d M c out h n' d' hn hd
    obtain ⟨m, rfl⟩ : ∃ m, n' = m + 1 := ⟨n' - 1, by omega⟩
    rcases h with h | ⟨h1, h2⟩ | ⟨how, x, na, e, as, r, v, s1, h1, h2, h3, h4, h5, hw, hi, h6, h7⟩
    · exact Or.inl h
    · exact Or.inr (Or.inl ⟨h1, ih d M _ out h2 m d' (by omega) hd⟩)
    · exact Or.inr (Or.inr ⟨how, x, na, d' - 1, as, r, v, s1, h1, by omega, h3, h4, h5, hw, hi, ih e _ _ _ h6 m (d' - 1) (by omega) (by omega), ih d M _ out h7 m d' (by omega) hd⟩)
theorem Ev_ret {d : Nat} {M : MI} {pc : Nat} {ls st : List Value} {s : AS} {G : Prop} {v : Option Value} (h : retI M pc st = (G, v)) (hG : G) : Ev d M pc ls st s (v, s) := by
  refine ⟨1, Or.inl ⟨?_, ?_⟩⟩
  · show (retI M pc st).1
    rw [h]; exact hG
  · show (v, s) = ((retI M pc st).2, s)
    rw [h]
theorem Ev_call {d e : Nat} {M M' : MI} {pc : Nat} {ls st : List Value} {s s1 : AS} {out : Option Value × AS} {v : Option Value} (how x na : Nat) (as r : List Value) (hc : callZ M pc = some (how, x, na)) (hM : methZ x = M') (hst : st = as.reverse ++ r) (hna : as.length = (if how = 1 then na else na + 1)) (hr : recvI how M' as s) (hw : Nat.ble (stW r) 8 = true) (hi : Nat.ble (initV as).length M'.2.2.1 = true) (hd : e + 1 ≤ d)
    (h1 : Ev e M' 0 (padV M'.2.2.1 (initV as)) [] s (v, s1)) (h2 : Ev d M (pc + 3) ls (v.toList ++ r) s1 out) : Ev d M pc ls st s out := by
  obtain ⟨n1, h1⟩ := h1
  obtain ⟨n2, h2⟩ := h2
  subst hM
  refine ⟨n1 + n2 + 1, Or.inr (Or.inr ⟨how, x, na, d - 1, as, r, v, s1, hc, by omega, hst, hna, hr, Nat.le_of_ble_eq_true hw, Nat.le_of_ble_eq_true hi, ?_, ?_⟩)⟩
  · exact Run_more _ _ _ _ _ h1 _ _ (by omega) (by omega)
  · exact Run_more _ _ _ _ _ h2 _ _ (by omega) (Nat.le_refl d)
theorem Ev_deep {d d' : Nat} {M : MI} {pc : Nat} {ls st : List Value} {s : AS} {out : Option Value × AS} (h : Ev d M pc ls st s out) (hd : d ≤ d') : Ev d' M pc ls st s out := by
  obtain ⟨n, h⟩ := h
  exact ⟨n, Run_more _ _ _ _ _ h _ _ (Nat.le_refl n) hd⟩
/-! what a model's text says, side by side with the machine -/
theorem gd {α : Type} {c : Prop} [Decidable c] {x : Option α} {o : α} {P : Prop} (h : (if c then x else none) = some o) (k : c → x = some o → P) : P := by
  by_cases hc : c
  · rw [if_pos hc] at h; exact k hc h
  · rw [if_neg hc] at h; cases h
theorem bd {α β : Type} {x : Option α} {f : α → Option β} {o : β} {P : Prop} (h : x.bind f = some o) (k : ∀ v, x = some v → f v = some o → P) : P := by
  cases hx : x with
  | none => rw [hx] at h; cases h
  | some v => rw [hx] at h; exact k v hx h
theorem ib {α : Type} {c : Prop} [Decidable c] {x y : Option α} {o : α} {d : Nat} {M : MI} {a b : Nat} {ls st : List Value} {s : AS} {out : Option Value × AS} (h : (if c then x else y) = some o) (k1 : c → x = some o → Ev d M a ls st s out) (k2 : ¬ c → y = some o → Ev d M b ls st s out) : Ev d M (if c then a else b) ls st s out := by
  by_cases hc : c
  · rw [if_pos hc] at h ⊢; exact k1 hc h
  · rw [if_neg hc] at h ⊢; exact k2 hc h
/-- loops of the models go on for as long -/
def fuel : Nat := 1000000
abbrev inA (i : Int32) (n : Nat) : Prop := ¬ (i < 0 ∨ n ≤ i.toNatClampNeg)
theorem icases {c : Prop} [Decidable c] {d : Nat} {M : MI} {a b : Nat} {ls st : List Value} {s : AS} {out : Option Value × AS} (k1 : c → Ev d M a ls st s out) (k2 : ¬ c → Ev d M b ls st s out) : Ev d M (if c then a else b) ls st s out := by
  by_cases hc : c
  · rw [if_pos hc]; exact k1 hc
  · rw [if_neg hc]; exact k2 hc
/-- making an object, an array: its place, and what is then -/
def nwO (s : AS) (t n : Nat) : Option (Nat × AS) := if sX s < 900000 then some (sX s, newA s t n) else none
def nwA (s : AS) (t : Nat) (n : Int32) : Option (Nat × AS) := if sX s < 900000 ∧ ¬ n < 0 ∧ n.toNatClampNeg ≤ 100000 then some (sX s, newA s t n.toNatClampNeg) else none
theorem nwO_inv {s : AS} {t n : Nat} {r : Nat × AS} (h : nwO s t n = some r) : sX s < 900000 ∧ r.1 = sX s ∧ r.2 = newA s t n := by
  unfold nwO at h
  refine gd h (fun g h => ?_)
  cases h
  exact ⟨g, rfl, rfl⟩
theorem nwA_inv {s : AS} {t : Nat} {n : Int32} {r : Nat × AS} (h : nwA s t n = some r) : (sX s < 900000 ∧ ¬ n < 0 ∧ n.toNatClampNeg ≤ 100000) ∧ r.1 = sX s ∧ r.2 = newA s t n.toNatClampNeg := by
  unfold nwA at h
  refine gd h (fun g h => ?_)
  cases h
  exact ⟨g, rfl, rfl⟩
/-- System.arraycopy between int rows -/
def cpA (s : AS) (a : Nat) (sp : Int32) (b : Nat) (dp n : Int32) : Option AS := if (sT s a = 20 ∧ sT s b = 20) ∧ (¬ sp < 0 ∧ ¬ dp < 0 ∧ ¬ n < 0) ∧ sp.toNatClampNeg + n.toNatClampNeg ≤ sN s a ∧ dp.toNatClampNeg + n.toNatClampNeg ≤ sN s b then some (rowI s b (va_cpy (sI s a) (sI s b) sp.toNatClampNeg dp.toNatClampNeg n.toNatClampNeg)) else none
theorem cpA_inv {s : AS} {a : Nat} {sp : Int32} {b : Nat} {dp n : Int32} {r : AS} (h : cpA s a sp b dp n = some r) : ((sT s a = 20 ∧ sT s b = 20) ∧ (¬ sp < 0 ∧ ¬ dp < 0 ∧ ¬ n < 0) ∧ sp.toNatClampNeg + n.toNatClampNeg ≤ sN s a ∧ dp.toNatClampNeg + n.toNatClampNeg ≤ sN s b) ∧ r = rowI s b (va_cpy (sI s a) (sI s b) sp.toNatClampNeg dp.toNatClampNeg n.toNatClampNeg) := by
  unfold cpA at h
  refine gd h (fun g h => ?_)
  cases h
  exact ⟨g, rfl⟩
