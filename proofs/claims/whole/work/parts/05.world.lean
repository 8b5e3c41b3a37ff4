/-! THE WORLD: what the real heap holds for a state of the small machine -/
/-- classes and slots; where the world begins; the array classes; TERM_MOST; the script: cell, length, ints; the String constants' cells -/
abbrev GE : Type := va_G × Nat × (Nat → ClassId) × Nat × Nat × Nat × (Nat → Int32) × (Nat → Nat) × (Nat → Nat)
def gD (g : GE) : va_G := g.1
def gB (g : GE) : Nat := g.2.1
def gC (g : GE) : Nat → ClassId := g.2.2.1
def gT (g : GE) : Nat := g.2.2.2.1
def gS (g : GE) : Nat := g.2.2.2.2.1
def gN (g : GE) : Nat := g.2.2.2.2.2.1
def gX (g : GE) : Nat → Int32 := g.2.2.2.2.2.2.1
def gK (g : GE) : Nat → Nat := g.2.2.2.2.2.2.2.1
def gV (g : GE) : Nat → Nat := g.2.2.2.2.2.2.2.2
def adZ (g : GE) (n : Nat) : Nat := if n < 1000000 then gB g + (n - 1) else if n = 1000000 then gT g else if n = 1000001 then gS g else gK g (n - strB)
def rfZ (g : GE) (n : Nat) : Value := if n = 0 then .null else .ref (adZ g n)
def roZ (g : GE) (n : Nat) : Option Nat := if n = 0 then none else some (adZ g n)
def conV (g : GE) : Value → Value
  | .ref n => rfZ g n
  | v => v
def fldZ (g : GE) (s : AS) (p j k : Nat) : Value := if k = 2 then .long (sL s p j) else if k = 3 then rfZ g (sR s p j) else .int (sI s p j)
def fldsZ (g : GE) (s : AS) (p : Nat) (ks : List Nat) : List Value := ks.zipIdx.map (fun x => fldZ g s p x.2 x.1)
def celZ (g : GE) (s : AS) (p : Nat) : va_E :=
  if sT s p = 20 then .inl (gC g 20, sN s p, .inl (sI s p))
  else if sT s p = 21 then .inl (gC g 21, sN s p, .inr (.inl (sL s p)))
  else if sT s p = 22 then .inl (gC g 22, sN s p, .inl (sI s p))
  else if 40 ≤ sT s p then .inl (gC g (sT s p), sN s p, .inr (.inr (.inr (.inr (fun j => roZ g (sR s p j))))))
  else .inr (sT s p - 1, fldsZ g s p (fkZ (sT s p - 1)))
def wsZ (g : GE) (s : AS) : va_W := (List.range (sX s - 1)).map (fun i => (gB g + i, celZ g s (i + 1)))
abbrev okT (t : Nat) : Prop := (1 ≤ t ∧ t ≤ 13) ∨ t = 20 ∨ t = 21 ∨ t = 22 ∨ t = 43 ∨ t = 46 ∨ t = 51
def tmZ : List Int32 := [nI 999, nI 10, nI 9]
def Stt (g : GE) (s : AS) : Prop := (1 ≤ sX s ∧ sX s ≤ 900001) ∧ (∀ n, 1 ≤ n → n < sX s → okT (sT s n)) ∧ (∀ n, ¬ (1 ≤ n ∧ n < sX s) → n ≠ 1000000 → n ≠ 1000001 → sT s n = 0) ∧
  (sT s 1000000 = 30 ∧ sN s 1000000 = 3 ∧ ∀ j, j < 3 → sI s 1000000 j = tmZ.getD j 0) ∧ (sT s 1000001 = 30 ∧ sN s 1000001 = gN g ∧ ∀ j, j < gN g → sI s 1000001 j = gX g j)
def Rep (g : GE) (s : AS) (H : Heap) : Prop := va_P (gD g) clsZ (wsZ g s) H ∧ Stt g s
theorem Stt.place {g : GE} {s : AS} (h : Stt g s) {a : Nat} (h0 : sT s a ≠ 0) (h3 : sT s a ≠ 30) : 1 ≤ a ∧ a < sX s := by
  obtain ⟨-, -, h2, ⟨h4, -⟩, ⟨h5, -⟩⟩ := h
  by_cases hp : 1 ≤ a ∧ a < sX s
  · exact hp
  · exfalso
    by_cases e1 : a = 1000000
    · exact h3 (by rw [e1]; exact h4)
    · by_cases e2 : a = 1000001
      · exact h3 (by rw [e2]; exact h5)
      · exact h0 (h2 a hp e1 e2)
theorem adZ_place {g : GE} {s : AS} (h : Stt g s) {a : Nat} (ha : 1 ≤ a ∧ a < sX s) : adZ g a = gB g + (a - 1) := by
  have := h.1.2
  unfold adZ
  rw [if_pos (by omega)]
theorem conV_ref {g : GE} {s : AS} (h : Stt g s) {a : Nat} (ha : 1 ≤ a ∧ a < sX s) : conV g (.ref a) = .ref (gB g + (a - 1)) := by
  show rfZ g a = _
  unfold rfZ
  rw [if_neg (by omega), adZ_place h ha]
theorem conV_int {g : GE} {x : Int32} : conV g (.int x) = .int x := rfl
theorem conV_long {g : GE} {x : Int64} : conV g (.long x) = .long x := rfl
theorem wsZ_get {g : GE} {s : AS} {a : Nat} (ha : 1 ≤ a ∧ a < sX s) : (wsZ g s)[a - 1]? = some (gB g + (a - 1), celZ g s a) := by
  unfold wsZ
  rw [List.getElem?_map, List.getElem?_range (by omega)]
  simp only [Option.map_some]
  rw [show a - 1 + 1 = a by omega]
theorem wsZ_D {g : GE} {s : AS} : va_D (fun q => gB g ≤ q) (wsZ g s) := by
  have key : ∀ (k : Nat) (q : Nat × va_E), (wsZ g s)[k]? = some q → q.1 = gB g + k := by
    intro k q h
    unfold wsZ at h
    rw [List.getElem?_map] at h
    by_cases hk : k < sX s - 1
    · rw [List.getElem?_range hk] at h
      simp only [Option.map_some] at h
      cases h
      rfl
    · rw [List.getElem?_eq_none (by rw [List.length_range]; omega)] at h
      cases h
  refine ⟨fun i j p q hi hj h => ?_, fun k q h => ?_⟩
  · have h1 := key i p hi
    have h2 := key j q hj
    omega
  · show gB g ≤ q.1
    rw [key k q h]
    omega
theorem celZ_obj {g : GE} {s : AS} {a c : Nat} (h : sT s a = c + 1) (hc : c < 13) : celZ g s a = .inr (c, fldsZ g s a (fkZ c)) := by
  unfold celZ
  rw [if_neg (by omega), if_neg (by omega), if_neg (by omega), if_neg (by omega), h]
  rfl
theorem celZ_20 {g : GE} {s : AS} {a : Nat} (h : sT s a = 20) : celZ g s a = .inl (gC g 20, sN s a, .inl (sI s a)) := by
  unfold celZ
  rw [if_pos h]
theorem celZ_21 {g : GE} {s : AS} {a : Nat} (h : sT s a = 21) : celZ g s a = .inl (gC g 21, sN s a, .inr (.inl (sL s a))) := by
  unfold celZ
  rw [if_neg (by omega), if_pos h]
theorem celZ_22 {g : GE} {s : AS} {a : Nat} (h : sT s a = 22) : celZ g s a = .inl (gC g 22, sN s a, .inl (sI s a)) := by
  unfold celZ
  rw [if_neg (by omega), if_neg (by omega), if_pos h]
theorem celZ_40 {g : GE} {s : AS} {a : Nat} (h : 40 ≤ sT s a) : celZ g s a = .inl (gC g (sT s a), sN s a, .inr (.inr (.inr (.inr (fun j => roZ g (sR s a j)))))) := by
  unfold celZ
  rw [if_neg (by omega), if_neg (by omega), if_neg (by omega), if_pos h]
theorem flds_get {g : GE} {s : AS} {p j : Nat} {ks : List Nat} : (fldsZ g s p ks)[j]? = (ks[j]?).map (fun k => fldZ g s p j k) := by
  unfold fldsZ
  rw [List.getElem?_map, List.getElem?_zipIdx]
  cases ks[j]? <;> simp
theorem flds_len {g : GE} {s : AS} {p : Nat} {ks : List Nat} : (fldsZ g s p ks).length = ks.length := by
  unfold fldsZ
  simp
theorem flds_set {g : GE} {s s' : AS} {p j : Nat} {ks : List Nat} {v : Value} (hj : ∀ k, ks[j]? = some k → fldZ g s' p j k = v) (ho : ∀ i k, i ≠ j → fldZ g s' p i k = fldZ g s p i k) : fldsZ g s' p ks = (fldsZ g s p ks).set j v := by
  apply List.ext_getElem?
  intro i
  rw [flds_get, List.getElem?_set]
  by_cases hi : j = i
  · subst hi
    rw [if_pos rfl, flds_len]
    cases hk : ks[j]? with
    | none =>
      rw [if_neg (by simpa using hk)]
      rfl
    | some k =>
      rw [if_pos (List.getElem?_eq_some_iff.mp hk).1]
      simp only [Option.map_some]
      rw [hj k hk]
  · rw [if_neg hi, flds_get]
    cases ks[i]? with
    | none => rfl
    | some k =>
      simp only [Option.map_some]
      rw [ho i k (Ne.symm hi)]
/-- a state that differs at one place alone -/
theorem wsZ_set {g : GE} {s s' : AS} {a : Nat} (ha : 1 ≤ a ∧ a < sX s) (hx : sX s' = sX s) (ho : ∀ q, q ≠ a → celZ g s' q = celZ g s q) : wsZ g s' = (wsZ g s).set (a - 1) (gB g + (a - 1), celZ g s' a) := by
  apply List.ext_getElem?
  intro i
  rw [List.getElem?_set]
  unfold wsZ
  rw [hx]
  by_cases hi : a - 1 = i
  · subst hi
    rw [if_pos rfl, if_pos (by simp; omega), List.getElem?_map, List.getElem?_range (by omega)]
    simp only [Option.map_some]
    rw [show a - 1 + 1 = a by omega]
  · rw [if_neg hi, List.getElem?_map, List.getElem?_map]
    by_cases hk : i < sX s - 1
    · rw [List.getElem?_range hk]
      simp only [Option.map_some]
      rw [ho (i + 1) (by omega)]
    · rw [List.getElem?_eq_none (by rw [List.length_range]; omega)]
      rfl
theorem wsZ_new {g : GE} {s s' : AS} (h1 : 1 ≤ sX s) (hx : sX s' = sX s + 1) (ho : ∀ q, q ≠ sX s → celZ g s' q = celZ g s q) : wsZ g s' = wsZ g s ++ [(gB g + (sX s - 1), celZ g s' (sX s))] := by
  unfold wsZ
  rw [hx, show sX s + 1 - 1 = (sX s - 1) + 1 by omega, List.range_succ, List.map_append, List.map_cons, List.map_nil, show sX s - 1 + 1 = sX s by omega]
  congr 1
  apply List.map_congr_left
  intro i hi
  rw [List.mem_range] at hi
  rw [ho (i + 1) (by omega)]
theorem wsZ_len {g : GE} {s : AS} : (wsZ g s).length = sX s - 1 := by
  unfold wsZ
  simp
/-- what the state's writes leave as it was -/
theorem cel_same {g : GE} {s s' : AS} {q : Nat} (hT : sT s' q = sT s q) (hN : sN s' q = sN s q) (hI : sI s' q = sI s q) (hL : sL s' q = sL s q) (hR : sR s' q = sR s q) : celZ g s' q = celZ g s q := by
  have hf : ∀ ks, fldsZ g s' q ks = fldsZ g s q ks := by
    intro ks
    unfold fldsZ
    apply List.map_congr_left
    intro x _
    unfold fldZ
    rw [hI, hL, hR]
  unfold celZ
  rw [hT, hN, hI, hL, hR, hf]
theorem up2_ne {α : Type} {f : Nat → Nat → α} {p j q : Nat} {v : α} (h : q ≠ p) : up2 f p j v q = f q := by
  funext k
  unfold up2
  rw [if_neg (fun x => h x.1)]
theorem up2_eq {α : Type} {f : Nat → Nat → α} {p j : Nat} {v : α} (k : Nat) : up2 f p j v p k = if k = j then v else f p k := by
  unfold up2
  by_cases h : k = j
  · rw [if_pos ⟨rfl, h⟩, if_pos h]
  · rw [if_neg (fun x => h x.2), if_neg h]
theorem up1_ne {α : Type} {f : Nat → α} {p q : Nat} {v : α} (h : q ≠ p) : up1 f p v q = f q := by
  unfold up1
  rw [if_neg h]
theorem up1_eq {α : Type} {f : Nat → α} {p : Nat} {v : α} : up1 f p v p = v := by
  unfold up1
  rw [if_pos rfl]
theorem Stt.wr {g : GE} {s s' : AS} (h : Stt g s) (hT : sT s' = sT s) (hN : sN s' = sN s) (hX : sX s' = sX s) (h0 : sI s' 1000000 = sI s 1000000) (h1 : sI s' 1000001 = sI s 1000001) : Stt g s' := by
  unfold Stt
  rw [hT, hN, hX, h0, h1]
  exact h
theorem Stt.newA {g : GE} {s : AS} (h : Stt g s) {t n : Nat} (ht : okT t) (hx : sX s < 900000) : Stt g (newA s t n) := by
  obtain ⟨h1, h2, h3, ⟨h4, h5, h6⟩, ⟨h7, h8, h9⟩⟩ := h
  have e : sX (Jvm.Pilot.CRecordHeapLaw_law_r2635_5d75a2.newA s t n) = sX s + 1 := rfl
  refine ⟨⟨by omega, by omega⟩, fun k k1 k2 => ?_, fun k k1 k2 k3 => ?_, ⟨?_, ?_, fun j hj => ?_⟩, ⟨?_, ?_, fun j hj => ?_⟩⟩
  · show okT (up1 (sT s) (sX s) t k)
    by_cases hk : k = sX s
    · rw [hk, up1_eq]; exact ht
    · rw [up1_ne hk]; exact h2 k k1 (by omega)
  · show up1 (sT s) (sX s) t k = 0
    rw [up1_ne (by omega)]
    exact h3 k (by omega) k2 k3
  · show up1 (sT s) (sX s) t 1000000 = 30
    rw [up1_ne (by omega)]; exact h4
  · show up1 (sN s) (sX s) n 1000000 = 3
    rw [up1_ne (by omega)]; exact h5
  · show up1 (sI s) (sX s) _ 1000000 j = _
    rw [up1_ne (by omega)]; exact h6 j hj
  · show up1 (sT s) (sX s) t 1000001 = 30
    rw [up1_ne (by omega)]; exact h7
  · show up1 (sN s) (sX s) n 1000001 = _
    rw [up1_ne (by omega)]; exact h8
  · show up1 (sI s) (sX s) _ 1000001 j = _
    rw [up1_ne (by omega)]; exact h9 j hj
