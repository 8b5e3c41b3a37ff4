/-! TOKENS OF A TAPE; the class reads them -/
def kdC (c : Int) : Int := if c = 32 then 0 else if 97 ≤ c ∧ c ≤ 122 then 2 else if 48 ≤ c ∧ c ≤ 57 then 3 else 1
def kdT (B : Int → Int) (n i : Int) : Int := if i < n then kdC (B i) else -1
def skF (B : Int → Int) (n : Int) : Nat → Int → Int
  | 0, i => i
  | k + 1, i => if i < n ∧ B i = 32 then skF B n k (i + 1) else i
def runE (B : Int → Int) (n q : Int) : Nat → Int → Int
  | 0, i => i
  | k + 1, i => if i < n ∧ kdC (B i) = q then runE B n q k (i + 1) else i
def tokF (B : Int → Int) (n t : Int) : Int := skF B n (n - t).toNat t
def tokE (B : Int → Int) (n f : Int) : Int := if f < n then (if kdC (B f) = 2 ∨ kdC (B f) = 3 then runE B n (kdC (B f)) (n - (f + 1)).toNat (f + 1) else f + 1) else f
theorem kdC_r (c : Int) : 0 ≤ kdC c ∧ kdC c ≤ 3 := by unfold kdC; repeat' split <;> omega
theorem kdC_32 (c : Int) : kdC c = 0 ↔ c = 32 := by
  unfold kdC
  by_cases e : c = 32
  · rw [if_pos e]; exact ⟨fun _ => e, fun _ => rfl⟩
  · rw [if_neg e]
    refine ⟨fun h => ?_, fun h => absurd h e⟩
    split at h
    · omega
    · split at h <;> omega
theorem skF_r {B : Int → Int} {n : Int} : ∀ (k : Nat) (i : Int), i + k = n → i ≤ skF B n k i ∧ skF B n k i ≤ n ∧ (skF B n k i < n → ¬ B (skF B n k i) = 32) := by
  intro k
  induction k with
  | zero => intro i h; unfold skF; exact ⟨by omega, by omega, fun c => by omega⟩
  | succ k ih =>
    intro i h
    unfold skF
    by_cases c : i < n ∧ B i = 32
    · rw [if_pos c]
      have := ih (i + 1) (by omega)
      exact ⟨by omega, this.2⟩
    · rw [if_neg c]
      exact ⟨by omega, by omega, fun h1 h2 => c ⟨h1, h2⟩⟩
theorem runE_r {B : Int → Int} {n q : Int} : ∀ (k : Nat) (i : Int), i + k = n → i ≤ runE B n q k i ∧ runE B n q k i ≤ n := by
  intro k
  induction k with
  | zero => intro i h; unfold runE; omega
  | succ k ih =>
    intro i h
    unfold runE
    split
    · have := ih (i + 1) (by omega); omega
    · omega
theorem tokF_r {B : Int → Int} {n t : Int} (h : t ≤ n) : t ≤ tokF B n t ∧ tokF B n t ≤ n ∧ (tokF B n t < n → ¬ B (tokF B n t) = 32) := skF_r _ _ (by omega)
theorem tokE_r {B : Int → Int} {n f : Int} (h : f ≤ n) : f ≤ tokE B n f ∧ tokE B n f ≤ n ∧ (f < n → f < tokE B n f) := by
  unfold tokE
  by_cases c : f < n
  · rw [if_pos c]
    split
    · have := runE_r (B := B) (n := n) (q := kdC (B f)) (n - (f + 1)).toNat (f + 1) (by omega)
      exact ⟨by omega, by omega, fun _ => by omega⟩
    · exact ⟨by omega, by omega, fun _ => by omega⟩
  · rw [if_neg c]; exact ⟨by omega, by omega, fun h => absurd h c⟩
/-- a reader at work: kinds of the tape's bytes, the tape -/
def RdK (s : AS) (rd tp : Nat) (B : Int → Int) (n : Int) : Prop := sT s rd = 8 ∧ (sR s rd 0 = rd + 1 ∧ sR s rd 1 = rd + 4 ∧ sR s rd 2 = tp) ∧ (sT s (rd + 4) = 20 ∧ sN s (rd + 4) = 401) ∧ (∀ z : Int, 0 ≤ z ∧ z < 401 → sI s (rd + 4) z.toNat = v (kdT B n z)) ∧ RwR s tp 400 B n ∧ (tp < rd ∨ rd + 6 < tp) ∧ (tp + 1 < rd ∨ rd + 6 < tp + 1)
theorem setI_setI (s : AS) (p j : Nat) (x y : Int32) : setI (setI s p j x) p j y = setI s p j y := by
  unfold setI
  congr 1
  funext q k
  show (if q = p ∧ k = j then y else (if q = p ∧ k = j then x else s.1 q k)) = if q = p ∧ k = j then y else s.1 q k
  split <;> rfl
theorem RdK.fr {F : Nat → Prop} {s s' : AS} {rd tp : Nat} {B : Int → Int} {n : Int} (h : RdK s rd tp B n) (hf : Fr F s s') (h1 : ¬ F (rd + 4)) (h2 : ¬ F tp) (h3 : ¬ F (tp + 1)) : RdK s' rd tp B n := by
  obtain ⟨a1, a2, a3, a4, a5, a6, a7⟩ := h
  have hf' := hf
  obtain ⟨⟨t1, t2, t3, -, -⟩, hq⟩ := hf
  refine ⟨by rw [t2]; exact a1, by rw [t1]; exact a2, by rw [t2, t3]; exact a3, ?_, a5.fr hf' h2 h3, a6, a7⟩
  rw [(hq _ h1).1]
  exact a4
section TK
variable {rd tp : Nat} {B : Int → Int} {n : Int}
theorem RdK.set {s : AS} (h : RdK s rd tp B n) (j : Nat) (x : Int32) : RdK (setI s rd j x) rd tp B n := h.fr (Fr.si (F := fun q => q = rd) rfl) (by omega) (by have := h.2.2.2.2.2; omega) (by have := h.2.2.2.2.2; omega)
theorem s_nextRun {q : Int} (hn : 0 ≤ n ∧ n ≤ 400) (hq : -1 ≤ q ∧ q ≤ 3) : ∀ (k m : Nat) (i : Int) (s : AS), i + k = n → 0 ≤ i → k < m → RdK s rd tp B n → sI s rd 5 = v i → 
    l_Reader_next_75 m rd (v q) s = some (setI s rd 5 (v (if q = 2 ∨ q = 3 then runE B n q k i else i))) := by
  intro k
  induction k with
  | zero =>
    intro m i s hi h0 hm h h5
    obtain ⟨m, rfl⟩ : ∃ x, m = x + 1 := ⟨m - 1, by omega⟩
    have hs : setI s rd 5 (v i) = s := by
      rw [← h5]
      unfold setI
      have : up2 s.1 rd 5 (sI s rd 5) = s.1 := by
        funext q k
        show (if q = rd ∧ k = 5 then s.1 rd 5 else s.1 q k) = s.1 q k
        split
        · rename_i e; rw [e.1, e.2]
        · rfl
      rw [this]
    have hr : (if q = 2 ∨ q = 3 then runE B n q 0 i else i) = i := by split <;> rfl
    rw [hr, hs]
    obtain ⟨a1, ⟨-, a2, -⟩, ⟨a3, a4⟩, a5, -⟩ := h
    show b_Reader_next_75 _ _ _ _ = _
    unfold b_Reader_next_75
    rw [if_pos a1, h5, nv400, nv2, nv3]
    by_cases c : i < 400
    · have r := a5 i (by omega)
      have hk : kdT B n i = -1 := by unfold kdT; rw [if_neg (by omega)]
      rw [if_pos (plt (by omega)), a2, a3, a4, if_pos ⟨rfl, v_inA (by omega) (by omega)⟩, v_ix (by omega), r, hk]
      by_cases e : q = -1
      · rw [if_pos (peq e.symm), if_neg (pne (by omega)), if_neg (pne (by omega))]
      · rw [if_neg (pne (by omega))]
    · rw [if_neg (nlt (by omega))]
  | succ k ih =>
    intro m i s hi h0 hm h h5
    obtain ⟨m, rfl⟩ : ∃ x, m = x + 1 := ⟨m - 1, by omega⟩
    have hs : setI s rd 5 (v i) = s := by
      rw [← h5]
      unfold setI
      have : up2 s.1 rd 5 (sI s rd 5) = s.1 := by
        funext q k
        show (if q = rd ∧ k = 5 then s.1 rd 5 else s.1 q k) = s.1 q k
        split
        · rename_i e; rw [e.1, e.2]
        · rfl
      rw [this]
    have h' := h
    obtain ⟨a1, ⟨-, a2, -⟩, ⟨a3, a4⟩, a5, -⟩ := h
    have r := a5 i (by omega)
    have hk : kdT B n i = kdC (B i) := by unfold kdT; rw [if_pos (by omega)]
    have hkr := kdC_r (B i)
    show b_Reader_next_75 _ _ _ _ = _
    unfold b_Reader_next_75 b_Reader_next_108
    rw [if_pos a1, h5, nv400, nv2, nv3, if_pos (plt (by omega)), a2, a3, a4, if_pos ⟨rfl, v_inA (by omega) (by omega)⟩, v_ix (by omega), r, hk, if_pos a1, nv1, v_add]
    have hw := ih m (i + 1) (setI s rd 5 (v (i + 1))) (by omega) (by omega) (by omega) (h'.set 5 _) (by rw [sI_setI, if_pos ⟨rfl, rfl⟩])
    by_cases e : kdC (B i) = q
    · rw [if_pos (peq e)]
      by_cases e2 : q = 2
      · rw [if_pos (peq e2), hw, setI_setI, if_pos (Or.inl e2), if_pos (Or.inl e2)]
        unfold runE
        rw [if_pos ⟨by omega, e⟩]
        cases k <;> rfl
      · rw [if_neg (pne (by omega))]
        by_cases e3 : q = 3
        · rw [if_pos (peq e3), hw, setI_setI, if_pos (Or.inr e3), if_pos (Or.inr e3)]
          unfold runE
          rw [if_pos ⟨by omega, e⟩]
          cases k <;> rfl
        · rw [if_neg (pne (by omega)), if_neg (by omega), hs]
    · rw [if_neg (pne (by omega))]
      have hr : (if q = 2 ∨ q = 3 then runE B n q (k + 1) i else i) = i := by
        split
        · unfold runE; rw [if_neg (fun c => e c.2)]
        · rfl
      rw [hr, hs]
theorem s_next43 (hn : 0 ≤ n ∧ n ≤ 400) {s : AS} {f : Int} (h : RdK s rd tp B n) (hf : 0 ≤ f ∧ f ≤ n) (h4 : sI s rd 4 = v f) (h32 : f < n → ¬ B f = 32) : b_Reader_next_43 rd s = some (setI s rd 5 (v (tokE B n f))) := by
  have h' := h
  obtain ⟨a1, ⟨-, a2, -⟩, ⟨a3, a4⟩, a5, -⟩ := h
  have r := a5 f (by omega)
  have hkr := kdC_r (B f)
  unfold b_Reader_next_43 b_Reader_next_72
  rw [if_pos a1, a2, a3, a4, h4, if_pos ⟨rfl, v_inA (by omega) (by omega)⟩, v_ix (by omega), r, nv1, v_neg, if_pos a1, v_add]
  unfold tokE
  by_cases c : f < n
  · have hk : kdT B n f = kdC (B f) := by unfold kdT; rw [if_pos c]
    rw [hk, if_neg (pne (by omega)), if_pos c, s_nextRun hn (by omega) (n - (f + 1)).toNat fuel (f + 1) _ (by omega) (by omega) (by unfold fuel; omega) (h'.set 5 _) (by rw [sI_setI, if_pos ⟨rfl, rfl⟩]), setI_setI, if_pos a1]
  · have hk : kdT B n f = -1 := by unfold kdT; rw [if_neg c]
    rw [hk, if_pos rfl, if_neg c, s_nextRun hn (by omega) (n - f).toNat fuel f _ (by omega) (by omega) (by unfold fuel; omega) (h'.set 5 _) (by rw [sI_setI, if_pos ⟨rfl, rfl⟩]), setI_setI, if_neg (by omega)]
theorem s_next8 (hn : 0 ≤ n ∧ n ≤ 400) : ∀ (k m : Nat) (i : Int) (s : AS), i + k = n → 0 ≤ i → k < m → RdK s rd tp B n → sI s rd 4 = v i → l_Reader_next_8 m rd s = some (setI (setI s rd 4 (v (skF B n k i))) rd 5 (v (tokE B n (skF B n k i)))) := by
  intro k
  induction k with
  | zero =>
    intro m i s hi h0 hm h h4
    obtain ⟨m, rfl⟩ : ∃ x, m = x + 1 := ⟨m - 1, by omega⟩
    have hs : setI s rd 4 (v i) = s := by
      rw [← h4]
      unfold setI
      have : up2 s.1 rd 4 (sI s rd 4) = s.1 := by
        funext q k
        show (if q = rd ∧ k = 4 then s.1 rd 4 else s.1 q k) = s.1 q k
        split
        · rename_i e; rw [e.1, e.2]
        · rfl
      rw [this]
    have h' := h
    obtain ⟨a1, ⟨-, a2, -⟩, ⟨a3, a4⟩, a5, -⟩ := h
    have h43 := s_next43 hn h' (f := i) (by omega) h4 (fun c => by omega)
    show b_Reader_next_8 _ _ _ = some (setI (setI s rd 4 (v i)) rd 5 (v (tokE B n i)))
    rw [hs]
    unfold b_Reader_next_8
    rw [if_pos a1, h4, nv400, nv0]
    by_cases c : i < 400
    · have r := a5 i (by omega)
      have hk : kdT B n i = -1 := by unfold kdT; rw [if_neg (by omega)]
      rw [if_pos (plt (by omega)), a2, a3, a4, if_pos ⟨rfl, v_inA (by omega) (by omega)⟩, v_ix (by omega), r, hk, if_neg (pne (by omega))]
      exact h43
    · rw [if_neg (nlt (by omega))]
      exact h43
  | succ k ih =>
    intro m i s hi h0 hm h h4
    obtain ⟨m, rfl⟩ : ∃ x, m = x + 1 := ⟨m - 1, by omega⟩
    have hs : setI s rd 4 (v i) = s := by
      rw [← h4]
      unfold setI
      have : up2 s.1 rd 4 (sI s rd 4) = s.1 := by
        funext q k
        show (if q = rd ∧ k = 4 then s.1 rd 4 else s.1 q k) = s.1 q k
        split
        · rename_i e; rw [e.1, e.2]
        · rfl
      rw [this]
    have h' := h
    obtain ⟨a1, ⟨-, a2, -⟩, ⟨a3, a4⟩, a5, -⟩ := h
    have r := a5 i (by omega)
    have hk : kdT B n i = kdC (B i) := by unfold kdT; rw [if_pos (by omega)]
    have hkr := kdC_r (B i)
    have hk32 := kdC_32 (B i)
    show b_Reader_next_8 _ _ _ = _
    unfold b_Reader_next_8
    rw [if_pos a1, h4, nv400, nv0, if_pos (plt (by omega)), a2, a3, a4, if_pos ⟨rfl, v_inA (by omega) (by omega)⟩, v_ix (by omega), r, hk, nv1, v_add]
    unfold skF
    by_cases e : B i = 32
    · rw [if_pos (peq (hk32.mpr e)), if_pos ⟨by omega, e⟩]
      have := ih m (i + 1) (setI s rd 4 (v (i + 1))) (by omega) (by omega) (by omega) (h'.set 4 _) (by rw [sI_setI, if_pos ⟨rfl, rfl⟩])
      rw [setI_setI] at this
      exact this
    · rw [if_neg (pne ⟨by omega, fun c => e (hk32.mp c)⟩), if_neg (fun c => e c.2), hs]
      exact s_next43 hn h' (f := i) (by omega) h4 (fun _ => e)
theorem s_next (hn : 0 ≤ n ∧ n ≤ 400) {s : AS} {t : Int} (h : RdK s rd tp B n) (ht : 0 ≤ t ∧ t ≤ n) (h5 : sI s rd 5 = v t) : f_Reader_next s rd = some (setI (setI s rd 4 (v (tokF B n t))) rd 5 (v (tokE B n (tokF B n t)))) := by
  have := s_next8 hn (n - t).toNat fuel t (setI s rd 4 (v t)) (by omega) (by omega) (by unfold fuel; omega) (h.set 4 _) (by rw [sI_setI, if_pos ⟨rfl, rfl⟩])
  rw [setI_setI] at this
  unfold f_Reader_next
  rw [if_pos h.1, h5]
  exact this
end TK
