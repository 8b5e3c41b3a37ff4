/-! A DESK: its places; copying between rows -/
def IsD (s : AS) (d st mc : Nat) : Prop := sT s d = 3 ∧ (sR s d 0 = st ∧ sR s d 1 = mc ∧ sR s d 2 = d + 1 ∧ sR s d 3 = d + 8 ∧ sR s d 4 = d + 15 ∧ sR s d 5 = d + 17) ∧ IsP s (d + 1) ∧ IsP s (d + 8) ∧ IsRow s (d + 15) 40 ∧ sT s (d + 17) = 20 ∧ sN s (d + 17) = 64
theorem cp_gen {s : AS} {x y m n : Nat} {sp dp k : Int} (hx : sT s x = 20) (hy : sT s y = 20) (nx : sN s x = m) (ny : sN s y = n) (h : (0 ≤ sp ∧ 0 ≤ dp ∧ 0 ≤ k) ∧ sp + k ≤ m ∧ dp + k ≤ n ∧ (m < 100000 ∧ n < 100000)) : cpA s x (v sp) y (v dp) (v k) = some (rowI s y (va_cpy (sI s x) (sI s y) sp.toNat dp.toNat k.toNat)) := by
  have e1 : (v sp).toNatClampNeg = sp.toNat := v_ix (by omega)
  have e2 : (v dp).toNatClampNeg = dp.toNat := v_ix (by omega)
  have e3 : (v k).toNatClampNeg = k.toNat := v_ix (by omega)
  have key : ∀ z : Int, 0 ≤ z ∧ z < 200000 → ¬ v z < 0 := by
    intro z hz
    rw [show (0 : Int32) = v 0 from rfl, v_lt (by omega) (by omega)]
    omega
  unfold cpA
  rw [e1, e2, e3, if_pos ⟨⟨hx, hy⟩, ⟨key _ (by omega), key _ (by omega), key _ (by omega)⟩, by omega, by omega⟩]
theorem cp_val {f g : Nat → Int32} {A B : Int → Int} {sp dp k m n : Int} (hf : ∀ z : Int, 0 ≤ z ∧ z < m → f z.toNat = v (A z)) (hg : ∀ z : Int, 0 ≤ z ∧ z < n → g z.toNat = v (B z)) (h : (0 ≤ sp ∧ 0 ≤ dp ∧ 0 ≤ k) ∧ sp + k ≤ m) : ∀ z : Int, 0 ≤ z ∧ z < n → va_cpy f g sp.toNat dp.toNat k.toNat z.toNat = v (if dp ≤ z ∧ z < dp + k then A (sp + (z - dp)) else B z) := by
  intro z hz
  unfold va_cpy
  by_cases e : dp ≤ z ∧ z < dp + k
  · rw [if_pos (by omega), if_pos e, show sp.toNat + (z.toNat - dp.toNat) = (sp + (z - dp)).toNat by omega]
    exact hf _ (by omega)
  · rw [if_neg (by omega), if_neg e]
    exact hg z hz
