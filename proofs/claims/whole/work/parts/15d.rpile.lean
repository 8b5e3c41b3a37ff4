/-! THE REFERENCE'S READER: its words, its pile -/
/-- its words -/
def WrM (A : MA) : Prop := (∀ (k : Nat) (x : List Nat), (wrdZ 5)[k]? = some x → A 15 k = valR x.reverse) ∧ (∀ (k : Nat) (x : List Nat), (wrdZ 4)[k]? = some x → A 16 k = valR x.reverse) ∧ (∀ (k : Nat) (x : List Nat), (wrdZ 1)[k]? = some x → A 17 k = valR x.reverse) ∧ (∀ (k : Nat) (x : List Nat), (wrdZ 0)[k]? = some x → A 25 k = valR x.reverse)
abbrev wdOK (x : List Nat) : Prop := letW x ∧ 1 ≤ x.length ∧ x.length ≤ 10
theorem wrdZ_ok : ∀ k, k = 0 ∨ k = 1 ∨ k = 4 ∨ k = 5 ∨ k = 8 ∨ k = 9 ∨ k = 10 ∨ k = 11 ∨ k = 12 ∨ k = 16 → ∀ x ∈ wrdZ k, wdOK x := by
  intro k hk
  rcases hk with rfl | rfl | rfl | rfl | rfl | rfl | rfl | rfl | rfl | rfl <;> decide
theorem valR_r {x : List Nat} (h : wdOK x) : 0 ≤ valR x.reverse ∧ valR x.reverse < 1125899906842624 := by
  have gen : ∀ r : List Nat, letW r → 0 ≤ valR r ∧ valR r < pw32 r.length := by
    intro r
    induction r with
    | nil => intro _; exact ⟨Int.le_refl _, by decide⟩
    | cons c r ih =>
      intro h
      have h1 := h c (List.mem_cons_self ..)
      have h2 := ih (fun d hd => h d (List.mem_cons_of_mem _ hd))
      show 0 ≤ valR r * 32 + c - 96 ∧ valR r * 32 + c - 96 < 32 * pw32 r.length
      omega
  have := gen x.reverse (fun c hc => h.1 c (List.mem_reverse.mp hc))
  have h3 := pw32_10 (k := x.reverse.length) (by rw [List.length_reverse]; exact h.2.2)
  omega
section RPL
variable {m : Nat} {B : Int → Int} {n : Int} {st : STK} {s : AS} {A : MA}
theorem m_isWordG (h : MR s m A) {c : Int} (hc : r64 c) (hw : r64 (A 28 16)) (h15 : r32 (A 0 15)) : f_M_isWord s m (w c) = some (v (bi (A 0 15 = 1 ∧ A 28 16 = c))) := by
  unfold f_M_isWord
  rw [if_pos h.t, h.i15, h.i16, nv1, nv0]
  by_cases e : A 0 15 = 1
  · rw [if_pos (peq e)]
    by_cases d : A 28 16 = c
    · rw [if_pos ((wc_eq hw hc).mpr d), bi_t ⟨e, d⟩]
    · rw [if_neg (fun x => d ((wc_eq hw hc).mp x)), bi_f (fun x => d x.2)]
  · rw [if_neg (pne ⟨by omega, e⟩), bi_f (fun x => e x.1)]
theorem m_isSignG (h : MR s m A) {c : Int} (hc : 0 ≤ c ∧ c ≤ 255) (hw : r64 (A 28 16)) (h15 : r32 (A 0 15)) : f_M_isSign s m (v c) = some (v (bi (A 0 15 = 3 ∧ A 28 16 = c))) := by
  unfold f_M_isSign
  rw [if_pos h.t, h.i15, h.i16, nv1, nv0, nv3, v_w (by omega)]
  by_cases e : A 0 15 = 3
  · rw [if_pos (peq e)]
    by_cases d : A 28 16 = c
    · rw [if_pos ((wc_eq hw (by omega)).mpr d), bi_t ⟨e, d⟩]
    · rw [if_neg (fun x => d ((wc_eq hw (by omega)).mp x)), bi_f (fun x => d x.2)]
  · rw [if_neg (pne ⟨by omega, e⟩), bi_f (fun x => e x.1)]
theorem bi_iff {p q : Prop} [Decidable p] [Decidable q] (h : p ↔ q) : bi p = bi q := by
  by_cases c : p
  · rw [bi_t c, bi_t (h.mp c)]
  · rw [bi_f c, bi_f (fun d => c (h.mpr d))]
theorem tok_rng (hT : TpM A B n) (hK : TokM A B n st) (hS : StT B n st) : r64 (A 28 16) ∧ r32 (A 0 15) := by
  have h1 := wthT_r (B := B) (n := n) (f := st.1) hS.1.1.1 (fun z z0 z1 => (hT.2.2 z z0 z1).2)
  have h2 := srtT_r B n st.1
  rw [hK.2.2.1, hK.2.2.2]
  omega
theorem m_wordW (h : MR s m A) (hT : TpM A B n) (hK : TokM A B n st) (hS : StT B n st) {x : List Nat} (hx : wdOK x) : f_M_isWord s m (w (valR x.reverse)) = some (v (bi (isWd B st.1 st.2.1 x = true))) := by
  have hr := tok_rng hT hK hS
  have hv := valR_r hx
  rw [m_isWordG h (by omega) hr.1 hr.2]
  congr 2
  refine bi_iff ?_
  rw [hK.2.2.1, hK.2.2.2]
  exact (isWd_val hS hx.1 hx.2).symm
theorem m_wdK (h : MR s m A) (hT : TpM A B n) (hK : TokM A B n st) (hS : StT B n st) {k i c : Nat} {x : List Nat} (hk : k < 18) (hi : (wrdZ k)[i]? = some x) (hx : wdOK x ∧ valR x.reverse = c) : f_M_isWord s m (lN c) = some (v (bi (wd B st k = i))) := by
  have := m_wordW h hT hK hS hx.1
  rw [hx.2] at this
  rw [lN_w, this]
  congr 2
  exact bi_iff (wd_at hk hi).symm
theorem m_sgK (h : MR s m A) (hT : TpM A B n) (hK : TokM A B n st) (hS : StT B n st) {k i c : Nat} (hk : k < 18) (hi : (wrdZ k)[i]? = some [c]) (hc : kdC c = 1 ∧ c ≤ 255) : f_M_isSign s m (nI c) = some (v (bi (wd B st k = i))) := by
  have hr := tok_rng hT hK hS
  rw [nI_v, m_isSignG h (by omega) hr.1 hr.2]
  congr 2
  refine bi_iff ?_
  rw [hK.2.2.1, hK.2.2.2, wd_at hk hi]
  exact (isWd_sgn hS hc.1).symm
theorem bi_ne0 {p : Prop} [Decidable p] (h : p) : ¬ v (bi p) = v 0 := by rw [bi_t h]; decide
/-- which word of a row of words the token is, told by 1 more -/
def accW (x k : Int) : Int := if 0 ≤ x ∧ x < k then x + 1 else -1
theorem accW_s {x k : Int} (hk : 0 ≤ k) : (if v (bi (x = k)) = v 0 then v (accW x k) else v k + v 1) = v (accW x (k + 1)) := by
  unfold accW
  by_cases e : x = k
  · rw [if_neg (bi_ne0 e), if_pos ⟨by omega, by omega⟩, v_add, e]
  · rw [bi_f e, if_pos rfl]
    by_cases c : 0 ≤ x ∧ x < k
    · rw [if_pos c, if_pos ⟨c.1, by omega⟩]
    · rw [if_neg c, if_neg (fun d => c ⟨d.1, by omega⟩)]
theorem m_partL (h : MR s m A) (hT : TpM A B n) (hK : TokM A B n st) (hS : StT B n st) (hW : WrM A) : ∀ (j N k : Nat), k + j = 7 → j < N → l_M_partAt_4 s N m (v (accW (wd B st 5) k)) (v k) = some (v (accW (wd B st 5) 7)) := by
  intro j
  induction j with
  | zero =>
    intro N k hk hN
    obtain ⟨N, rfl⟩ : ∃ x, N = x + 1 := ⟨N - 1, by omega⟩
    show b_M_partAt_4 _ _ _ _ _ = _
    unfold b_M_partAt_4
    rw [nv7, if_neg (nlt (by omega)), show k = 7 by omega]
    rfl
  | succ j ih =>
    intro N k hk hN
    obtain ⟨N, rfl⟩ : ∃ x, N = x + 1 := ⟨N - 1, by omega⟩
    obtain ⟨x, hx⟩ : ∃ x, (wrdZ 5)[k]? = some x := ⟨(wrdZ 5)[k]'(by show k < 7; omega), List.getElem?_eq_getElem _⟩
    have hq := wrdZ_ok 5 (by omega) x (List.mem_of_getElem? hx)
    have hw := m_wordW h hT hK hS hq
    rw [← hW.1 k x hx] at hw
    have hb : bi (isWd B st.1 st.2.1 x = true) = bi (wd B st 5 = k) := bi_iff (wd_at (by decide) hx).symm
    have hi := ih N (k + 1) (by omega) (by omega)
    show b_M_partAt_4 _ _ _ _ _ = _
    unfold b_M_partAt_4
    rw [nv7, if_pos (plt (by omega)), if_pos h.t, h.r30, h.t30, h.n30, if_pos ⟨rfl, v_inA (by omega) (by omega)⟩, v_ix (by omega), h.a30 k (by omega), hw, Option.bind_some, hb, nv0, nv1, accW_s (by omega), v_add]
    exact hi
theorem m_orderL (h : MR s m A) (hT : TpM A B n) (hK : TokM A B n st) (hS : StT B n st) (hW : WrM A) : ∀ (j N k : Nat), k + j = 6 → j < N → l_M_orderPartAt_4 s N m (v (accW (wd B st 4) k)) (v k) = some (v (accW (wd B st 4) 6)) := by
  intro j
  induction j with
  | zero =>
    intro N k hk hN
    obtain ⟨N, rfl⟩ : ∃ x, N = x + 1 := ⟨N - 1, by omega⟩
    show b_M_orderPartAt_4 _ _ _ _ _ = _
    unfold b_M_orderPartAt_4
    rw [nv6, if_neg (nlt (by omega)), show k = 6 by omega]
    rfl
  | succ j ih =>
    intro N k hk hN
    obtain ⟨N, rfl⟩ : ∃ x, N = x + 1 := ⟨N - 1, by omega⟩
    obtain ⟨x, hx⟩ : ∃ x, (wrdZ 4)[k]? = some x := ⟨(wrdZ 4)[k]'(by show k < 6; omega), List.getElem?_eq_getElem _⟩
    have hq := wrdZ_ok 4 (by omega) x (List.mem_of_getElem? hx)
    have hw := m_wordW h hT hK hS hq
    rw [← hW.2.1 k x hx] at hw
    have hb : bi (isWd B st.1 st.2.1 x = true) = bi (wd B st 4 = k) := bi_iff (wd_at (by decide) hx).symm
    have hi := ih N (k + 1) (by omega) (by omega)
    show b_M_orderPartAt_4 _ _ _ _ _ = _
    unfold b_M_orderPartAt_4
    rw [nv6, if_pos (plt (by omega)), if_pos h.t, h.r31, h.t31, h.n31, if_pos ⟨rfl, v_inA (by omega) (by omega)⟩, v_ix (by omega), h.a31 k (by omega), hw, Option.bind_some, hb, nv0, nv1, accW_s (by omega), v_add]
    exact hi
theorem accW_0 {x : Int} : accW x 0 = -1 := by unfold accW; rw [if_neg (by omega)]
theorem m_partAt (h : MR s m A) (hT : TpM A B n) (hK : TokM A B n st) (hS : StT B n st) (hW : WrM A) : f_M_partAt s m = some (v (accW (wd B st 5) 7)) := by
  have := m_partL h hT hK hS hW 7 fuel 0 (by omega) (by unfold fuel; omega)
  rw [show ((0 : Nat) : Int) = 0 from rfl, accW_0] at this
  exact this
theorem m_orderPartAt (h : MR s m A) (hT : TpM A B n) (hK : TokM A B n st) (hS : StT B n st) (hW : WrM A) : f_M_orderPartAt s m = some (v (accW (wd B st 4) 6)) := by
  have := m_orderL h hT hK hS hW 6 fuel 0 (by omega) (by unfold fuel; omega)
  rw [show ((0 : Nat) : Int) = 0 from rfl, accW_0] at this
  exact this
end RPL
/-! the pile -/
abbrev PIL : Type := List (Int × Int)
abbrev COD : Type := (Int → Int) × (Int → Int) × Int
def bndO (op : Int) : Int := if 31 ≤ op then 0 else if op = 30 then 1 else if op = 29 then 2 else if op = 28 then 3 else if 25 ≤ op then 4 else if 22 ≤ op then 6 else 5
def stl : PIL → COD → COD
  | [], c => c
  | x :: X, (O, R, l) => if x.1 = 29 ∨ x.1 = 30 then stl X (O, bu R x.2 l, l) else stl X (bu O l x.1, bu R l 0, l + 1)
def PlM (A : MA) : PIL → Prop
  | [] => True
  | x :: r => (A 13 r.length = x.1 ∧ A 14 r.length = x.2) ∧ PlM A r
def opnL : PIL → Int
  | [] => 0
  | x :: r => (if 31 ≤ x.1 then 1 else 0) + opnL r
abbrev PlOK (O : Int → Int) (L : PIL) (len : Int) : Prop := ∀ x ∈ L, (20 ≤ x.1 ∧ x.1 ≤ 32) ∧ (x.1 = 29 ∨ x.1 = 30 → (0 ≤ x.2 ∧ x.2 < len) ∧ O x.2 = x.1)
theorem stl_c (x : Int × Int) (X : PIL) (O R : Int → Int) (l : Int) : stl (x :: X) (O, R, l) = if x.1 = 29 ∨ x.1 = 30 then stl X (O, bu R x.2 l, l) else stl X (bu O l x.1, bu R l 0, l + 1) := rfl
theorem stl_app : ∀ (X Y : PIL) (c : COD), stl (X ++ Y) c = stl Y (stl X c) := by
  intro X
  induction X with
  | nil => intro Y c; rfl
  | cons x X ih =>
    intro Y c
    obtain ⟨O, R, l⟩ := c
    rw [List.cons_append, stl_c, stl_c]
    by_cases e : x.1 = 29 ∨ x.1 = 30
    · rw [if_pos e, if_pos e]
      exact ih _ _
    · rw [if_neg e, if_neg e]
      exact ih _ _
theorem PlM.app {A : MA} : ∀ (X Y : PIL), PlM A (X ++ Y) → PlM A Y := by
  intro X
  induction X with
  | nil => intro Y h; exact h
  | cons x X ih => intro Y h; exact ih Y h.2
theorem PlM.fr {A A' : MA} : ∀ {L : PIL}, PlM A L → (∀ z : Int, 0 ≤ z → z < L.length → A' 13 z = A 13 z ∧ A' 14 z = A 14 z) → PlM A' L := by
  intro L
  induction L with
  | nil => intro _ _; trivial
  | cons x r ih =>
    intro h e
    have e1 := e r.length (by omega) (by show (r.length : Int) < ((r.length + 1 : Nat) : Int); omega)
    refine ⟨⟨by rw [e1.1]; exact h.1.1, by rw [e1.2]; exact h.1.2⟩, ih h.2 (fun z z0 z1 => e z z0 ?_)⟩
    show z < ((r.length + 1 : Nat) : Int)
    omega
/-- how long the code is then -/
theorem stl_len : ∀ (X : PIL) (O R : Int → Int) (l : Int), l ≤ (stl X (O, R, l)).2.2 ∧ (stl X (O, R, l)).2.2 ≤ l + X.length := by
  intro X
  induction X with
  | nil => intro O R l; exact ⟨Int.le_refl _, by show l ≤ l + ((0 : Nat) : Int); omega⟩
  | cons x X ih =>
    intro O R l
    unfold stl
    show _ ∧ _ ≤ l + ((X.length + 1 : Nat) : Int)
    split
    · have := ih O (bu R x.2 l) l; omega
    · have := ih (bu O l x.1) (bu R l 0) (l + 1); omega
/-- what it leaves alone -/
theorem stl_O : ∀ (X : PIL) (O R : Int → Int) (l z : Int), z < l → (stl X (O, R, l)).1 z = O z := by
  intro X
  induction X with
  | nil => intro O R l z _; rfl
  | cons x X ih =>
    intro O R l z hz
    unfold stl
    split
    · exact ih _ _ _ _ hz
    · rw [ih _ _ _ _ (by omega)]; unfold bu; rw [if_neg (by omega)]
theorem stl_R : ∀ (X : PIL) (O R : Int → Int) (l z : Int), z < l → (∀ x ∈ X, (x.1 = 29 ∨ x.1 = 30) → x.2 ≠ z) → (stl X (O, R, l)).2.1 z = R z := by
  intro X
  induction X with
  | nil => intro O R l z _ _; rfl
  | cons x X ih =>
    intro O R l z hz hx
    have h1 := hx x (List.mem_cons_self ..)
    have h2 : ∀ y ∈ X, (y.1 = 29 ∨ y.1 = 30) → y.2 ≠ z := fun y hy => hx y (List.mem_cons_of_mem _ hy)
    unfold stl
    split
    · rename_i c
      rw [ih _ _ _ _ hz h2]; unfold bu; rw [if_neg (fun e => h1 c e.symm)]
    · rw [ih _ _ _ _ (by omega) h2]; unfold bu; rw [if_neg (by omega)]
def CodO (O R : Int → Int) (ord : Bool) (len : Int) (L : PIL) : Prop := ∀ z, 0 ≤ z → z < len → (0 ≤ O z ∧ O z ≤ 30) ∧ (0 ≤ R z ∧ R z ≤ 1000) ∧ (O z < 20 → O z = 0 ∨ (ord = false ∧ O z ≤ 7) ∨ (ord = true ∧ O z ≤ 6 ∧ (5 ≤ O z → R z < 8))) ∧ (28 < O z → z < R z ∨ ∃ x ∈ L, (x.1 = 29 ∨ x.1 = 30) ∧ x.2 = z)
theorem stl_cod {ord : Bool} : ∀ (X Y : PIL) (O R : Int → Int) (l : Int), 0 ≤ l ∧ l + X.length ≤ 400 → CodO O R ord l (X ++ Y) → PlOK O (X ++ Y) l → (∀ x ∈ X, x.1 < 31) → CodO (stl X (O, R, l)).1 (stl X (O, R, l)).2.1 ord (stl X (O, R, l)).2.2 Y ∧ PlOK (stl X (O, R, l)).1 Y (stl X (O, R, l)).2.2 := by
  intro X
  induction X with
  | nil => intro Y O R l _ h k _; exact ⟨h, k⟩
  | cons x X ih =>
    intro Y O R l hl hC hP h31
    have hl' : l + ((X.length + 1 : Nat) : Int) ≤ 400 := hl.2
    have hPx := hP x (List.mem_cons_self ..)
    have hx31 := h31 x (List.mem_cons_self ..)
    have hP' : PlOK O (X ++ Y) l := fun y hy => hP y (List.mem_cons_of_mem _ hy)
    unfold stl
    by_cases c : x.1 = 29 ∨ x.1 = 30
    · rw [if_pos c]
      have hat := hPx.2 c
      refine ih Y O (bu R x.2 l) l ⟨hl.1, by omega⟩ (fun z z0 z1 => ?_) hP' (fun y hy => h31 y (List.mem_cons_of_mem _ hy))
      obtain ⟨a1, a2, a3, a4⟩ := hC z z0 z1
      unfold bu
      by_cases e : z = x.2
      · rw [if_pos e]
        refine ⟨a1, by omega, fun c20 => ?_, fun _ => Or.inl (by omega)⟩
        rw [e] at c20
        omega
      · rw [if_neg e]
        refine ⟨a1, a2, a3, fun c28 => ?_⟩
        rcases a4 c28 with d | ⟨y, hy, hy2, hy3⟩
        · exact Or.inl d
        · rcases List.mem_cons.mp hy with rfl | hy
          · exact absurd hy3.symm e
          · exact Or.inr ⟨y, hy, hy2, hy3⟩
    · rw [if_neg c]
      refine ih Y (bu O l x.1) (bu R l 0) (l + 1) ⟨by omega, by omega⟩ (fun z z0 z1 => ?_) (fun y hy => ⟨(hP' y hy).1, fun d => ?_⟩) (fun y hy => h31 y (List.mem_cons_of_mem _ hy))
      · unfold bu
        by_cases e : z = l
        · rw [if_pos e, if_pos e]
          exact ⟨by omega, by omega, fun d => by omega, fun d => by omega⟩
        · rw [if_neg e, if_neg e]
          obtain ⟨a1, a2, a3, a4⟩ := hC z z0 (by omega)
          refine ⟨a1, a2, a3, fun c28 => ?_⟩
          rcases a4 c28 with d | ⟨y, hy, hy2, hy3⟩
          · exact Or.inl d
          · rcases List.mem_cons.mp hy with rfl | hy
            · exact absurd hy2 c
            · exact Or.inr ⟨y, hy, hy2, hy3⟩
      · have := (hP' y hy).2 d
        unfold bu
        rw [if_neg (by omega)]
        omega
