/-! THE REFERENCE'S READER: a part -/
section RPT
variable {m : Nat} {B : Int → Int} {n : Int} {ord : Bool} {st : STK} {s : AS} {A : MA} {len : Int} {L : PIL}
theorem wth_dig {B : Int → Int} {n : Int} {st : STK} (h : srtT B n st.1 = 2) (hs : 0 ≤ st.1) : 0 ≤ wthT B n st.1 ∧ wthT B n st.1 ≤ 10000009 := by
  unfold srtT at h
  unfold wthT
  by_cases cf : st.1 < n
  · rw [if_pos cf] at h
    rw [if_pos cf]
    by_cases c2 : kdC (B st.1) = 2
    · rw [if_pos c2] at h; omega
    · rw [if_neg c2] at h
      rw [if_neg c2]
      by_cases c3 : kdC (B st.1) = 3
      · rw [if_pos c3]
        have hE := tokE_r (B := B) (n := n) (f := st.1) (by omega)
        exact dgV_r (B := B) (f := st.1) (tokE B n st.1 - st.1).toNat (fun j j0 j1 => kd3_b (tok_kd cf c3 (Or.inr rfl) j j0 (by omega)))
      · rw [if_neg c3] at h; omega
  · rw [if_neg cf] at h; omega
theorem m_number (h : RfS s m A B n ord st len L) {lo hi : Int} (hl : 0 ≤ lo ∧ lo ≤ 1000 ∧ 0 ≤ hi ∧ hi ≤ 1000) :
    ∃ s' A', f_M_number s m (w lo) (w hi) = some (v (wthT B n st.1), s') ∧ AF scrR A A' ∧ Fr (inM m) s s' ∧ (nm B n st lo hi ≠ -1 → RfS s' m A' B n ord (nxS B n st) len L ∧ A' 11 = A 11 ∧ A' 12 = A 12 ∧ nm B n st lo hi = wthT B n st.1) ∧ (nm B n st lo hi = -1 → ErM s' m A' st.1) := by
  have hK := h.2.1.2.1
  have hS := h.2.1.2.2
  have hst := hS.1.1
  have hw := wthT_r (B := B) (n := n) (f := st.1) hst.1 (fun z z0 z1 => (h.2.1.1.2.2 z z0 z1).2)
  have hsr := srtT_r B n st.1
  have hv := nm_val hS (lo := lo) (hi := hi) ⟨hl.1, hl.2.2.2⟩
  unfold f_M_number b_M_number_32 b_M_number_33
  rw [if_pos h.1.t, h.1.i15, h.1.i16, hK.2.2.1, hK.2.2.2, nv2, nv0, nv1, w_v, if_pos h.1.t, m_in (by omega) (by omega) (by omega), Option.bind_some, if_pos h.1.t]
  by_cases c : srtT B n st.1 = 2 ∧ lo ≤ wthT B n st.1 ∧ wthT B n st.1 ≤ hi
  · obtain ⟨s1, A1, q1, q2, q3, q4⟩ := m_mustT h
    rw [if_pos c] at hv
    rw [if_pos (peq c.1), bi_t c.2, if_neg (show ¬ v 1 = v 0 by decide), q1, Option.bind_some]
    have hT := nxS_T (B := B) (n := n) hS.1
    exact ⟨s1, A1, rfl, tok_R q3, q4, fun _ => ⟨q2.mo (by have := hT.2.1; omega), q3.row (fun z => by omega), q3.row (fun z => by omega), hv⟩, fun d => by omega⟩
  · obtain ⟨s1, A1, q1, q2, q3, q4⟩ := m_mustF h
    rw [if_neg c] at hv
    refine ⟨s1, A1, ?_, q3, q4, fun d => absurd hv d, fun _ => q2⟩
    by_cases c2 : srtT B n st.1 = 2
    · rw [if_pos (peq c2), bi_f (fun d => c ⟨c2, d⟩), if_pos rfl, q1, Option.bind_some]
    · rw [if_neg (pne ⟨by omega, c2⟩), q1, Option.bind_some]
theorem m_p35 (h : RfS s m A B n ord st len L) {its : Int} (hi : -1 ≤ its ∧ its ≤ 7) :
    b_M_readPart_35 m (v its) s = b_M_readPart_99 m (v its) (v (if nm B n st 0 1000 = -1 then 0 else nm B n st 0 1000)) (v (if its = -1 then 0 else its)) (v (bi (¬ (its = -1 ∧ nm B n st 0 1000 = -1)))) m s := by
  have hK := h.2.1.2.1
  have hS := h.2.1.2.2
  have hst := hS.1.1
  have hw := wthT_r (B := B) (n := n) (f := st.1) hst.1 (fun z z0 z1 => (h.2.1.1.2.2 z z0 z1).2)
  have hsr := srtT_r B n st.1
  have hv := nm_val hS (lo := 0) (hi := 1000) ⟨by omega, by omega⟩
  have hd := fun c => wth_dig (B := B) (n := n) (st := st) c hst.1
  have g60 : ∀ D : Int, (D = 0 ∨ D = 1) → (D = 1 ↔ nm B n st 0 1000 ≠ -1) → (D = 1 → nm B n st 0 1000 = wthT B n st.1) → b_M_readPart_60 m (v its) (v D) s = b_M_readPart_99 m (v its) (v (if nm B n st 0 1000 = -1 then 0 else nm B n st 0 1000)) (v (if its = -1 then 0 else its)) (v (bi (¬ (its = -1 ∧ nm B n st 0 1000 = -1)))) m s := by
    intro D hD h1 h2
    unfold b_M_readPart_60 b_M_readPart_76 b_M_readPart_86
    rw [nv0, nv1, v_neg, if_pos h.1.t, h.1.i16, hK.2.2.2, w_v]
    rcases hD with rfl | rfl
    · have e : nm B n st 0 1000 = -1 := by
        by_cases d : nm B n st 0 1000 = -1
        · exact d
        · have := h1.mpr d; omega
      rw [if_pos e, if_pos rfl]
      by_cases c : its = -1
      · rw [if_pos (peq c), if_pos rfl, if_pos c, bi_f (c := ¬ (its = -1 ∧ nm B n st 0 1000 = -1)) (fun d => d ⟨c, e⟩), if_pos (peq c)]
      · rw [if_neg (pne (by omega)), if_neg c, bi_t (c := ¬ (its = -1 ∧ nm B n st 0 1000 = -1)) (fun d => c d.1), if_neg (pne (by omega))]
    · have e := h1.mp rfl
      rw [if_neg e, if_neg (show ¬ v 1 = v 0 by decide), h2 rfl, if_neg (show ¬ v 1 = v 0 by decide)]
      by_cases c : its = -1
      · rw [if_pos (peq c), if_pos c, bi_t (c := ¬ (its = -1 ∧ wthT B n st.1 = -1)) (fun d => e (by rw [h2 rfl]; exact d.2)), if_pos (peq c)]
      · rw [if_neg (pne (by omega)), if_neg c, bi_t (c := ¬ (its = -1 ∧ wthT B n st.1 = -1)) (fun d => c d.1), if_neg (pne (by omega))]
  unfold b_M_readPart_35 b_M_readPart_59
  rw [if_pos h.1.t, h.1.i15, h.1.i16, hK.2.2.1, hK.2.2.2, nv2, nv0, nv1, show lN 1000 = w 1000 from rfl]
  by_cases c2 : srtT B n st.1 = 2
  · have hd2 := hd c2
    rw [if_pos (peq c2)]
    by_cases c3 : 1000 < wthT B n st.1
    · rw [if_neg (fun d => by omega)] at hv
      rw [if_pos ((wc_gt (by omega) (by omega)).mpr c3)]
      exact g60 0 (Or.inl rfl) ⟨fun d => by omega, fun d => absurd hv d⟩ (fun d => by omega)
    · rw [if_pos ⟨c2, by omega, by omega⟩] at hv
      rw [if_neg (fun d => c3 ((wc_gt (by omega) (by omega)).mp d))]
      exact g60 1 (Or.inr rfl) ⟨fun d => by omega, fun d => rfl⟩ (fun d => hv)
  · rw [if_neg (fun d => c2 d.1)] at hv
    rw [if_neg (pne ⟨by omega, c2⟩)]
    exact g60 0 (Or.inl rfl) ⟨fun d => by omega, fun d => absurd hv d⟩ (fun d => by omega)
theorem wd_srt {B : Int → Int} {n : Int} {st : STK} (hT : StT B n st) {k : Nat} (hk : k = 4 ∨ k = 5) (h : wd B st k ≠ -1) : srtT B n st.1 = 1 := by
  rcases wd_r B st k with e | e
  · exact absurd e h
  · obtain ⟨i, hi⟩ : ∃ i : Nat, wd B st k = i := ⟨(wd B st k).toNat, by omega⟩
    have hx : (wrdZ k)[i]? = some ((wrdZ k)[i]'(by omega)) := List.getElem?_eq_getElem _
    have h2 := (wd_at (by omega) hx).mp hi
    have hok := wrdZ_ok k (by omega) _ (List.mem_of_getElem? hx)
    exact ((isWd_val hT hok.1 hok.2).mp h2).1
def SpcO (r : RSL) (t : Int) (o : Option (Int32 × AS)) (s : AS) (m : Nat) (A : MA) (B : Int → Int) (n : Int) (ord : Bool) (st : STK) (len : Int) (L : PIL) : Prop := match r with
  | .error e => ∃ s' A', o = some (v t, s') ∧ ErM s' m A' e ∧ AF scrR A A' ∧ Fr (inM m) s s'
  | .ok (g, st') => ∃ s' A', o = some (v t, s') ∧ RfS s' m A' B n ord st' (len + 1) L ∧ Seg (insR ord A') len (len + 1) g ∧ CodK A A' len ∧ AF scrR A A' ∧ Fr (inM m) s s' ∧ st.1 < st'.1
theorem cod_bu {A A' : MA} {len op arg : Int} (h1 : A' 11 = bu (A 11) len op) (h2 : A' 12 = bu (A 12) len arg) : CodK A A' len := fun z z0 z1 => ⟨by rw [h1]; unfold bu; rw [if_neg (by omega)], by rw [h2]; unfold bu; rw [if_neg (by omega)]⟩
theorem ins_bu {A' A : MA} {ord : Bool} {len op arg : Int} (h1 : A' 11 = bu (A 11) len op) (h2 : A' 12 = bu (A 12) len arg) : insR ord A' len = insM ord op arg := by
  show insM ord (A' 11 len) (A' 12 len) = _
  rw [h1, h2]
  unfold bu
  rw [if_pos rfl, if_pos rfl]
/-- the argument of the latest instruction is told later -/
theorem Rf_arg (h : RfS s m A B n ord st len L) {k x : Int} (hk : 0 ≤ k ∧ k < len) (hx : 0 ≤ x ∧ x ≤ 1000) (ho : A 11 k < 20 ∧ (5 ≤ A 11 k → x < 8)) : RfS (setI s (m + 12) k.toNat (v x)) m (pu A 12 k x) B n ord st len L := by
  obtain ⟨h1, ⟨h2, h3, h4⟩, ⟨h5, h6, h7, h8⟩, ⟨h9, h10, h11⟩, ⟨h12, h13, h14⟩, ⟨h15, h16⟩, h17, h18⟩ := h
  have hst := h4.1.1
  have hn := h2.2.1
  have a1 : AF scrR A (pu A 12 k x) := AF.pu (Or.inr (Or.inr (by omega)))
  refine ⟨h1.si 12 (by decide) (by decide) ⟨hk.1, by show k < 400; omega⟩, ⟨h2.fr a1 (by omega) (fun z => by omega), ⟨?_, ?_, ?_, ?_⟩, h4⟩, ⟨?_, ?_, ?_, h8.fr a1 (fun j z hj => by omega)⟩, ⟨?_, ?_, h11⟩, ⟨h12.fr (fun z _ _ => ⟨pu_row _ _ _ _ (by decide) _, pu_row _ _ _ _ (by decide) _⟩), ?_, ?_⟩, ⟨?_, ?_⟩, h17, h18⟩
  · rw [pu_row _ _ _ _ (by decide)]; exact h3.1
  · rw [pu_row _ _ _ _ (by decide)]; exact h3.2.1
  · rw [pu_row _ _ _ _ (by decide)]; exact h3.2.2.1
  · rw [pu_row _ _ _ _ (by decide)]; exact h3.2.2.2
  · rw [pu_row _ _ _ _ (by decide)]; exact h5
  · rw [pu_row _ _ _ _ (by decide)]; exact h6
  · rw [pu_row _ _ _ _ (by decide)]; exact h7
  · rw [pu_row _ _ _ _ (by decide)]; exact h9
  · rw [pu_row _ _ _ _ (by decide)]; exact h10
  · rw [pu_row _ _ _ _ (by decide)]; exact h13
  · rw [pu_row _ _ _ _ (by decide)]; exact h14
  · rw [pu_f (by decide), pu_b]
    intro z z0 z1
    obtain ⟨b1, b2, b3, b4⟩ := h15 z z0 z1
    unfold bu
    by_cases e : z = k
    · rw [if_pos e]
      rw [← e] at ho
      refine ⟨b1, hx, fun d => ?_, fun d => by omega⟩
      rcases b3 d with c | c | c
      · exact Or.inl c
      · exact Or.inr (Or.inl c)
      · exact Or.inr (Or.inr ⟨c.1, c.2.1, ho.2⟩)
    · rw [if_neg e]
      exact ⟨b1, b2, b3, b4⟩
  · rw [pu_f (by decide)]; exact h16
theorem Er_arg {s : AS} {A : MA} {e k x : Int} (h : ErM s m A e) (hk : 0 ≤ k ∧ k < 400) : ErM (setI s (m + 12) k.toNat (v x)) m (pu A 12 k x) e := by
  obtain ⟨h1, ⟨h2, h3⟩, len, L, h4, h5, h6, h7, h8⟩ := h
  refine ⟨h1.si 12 (by decide) (by decide) ⟨hk.1, by show k < 400; omega⟩, ⟨?_, ?_⟩, len, L, ?_, h5.fr (fun z _ _ => ⟨pu_row _ _ _ _ (by decide) _, pu_row _ _ _ _ (by decide) _⟩), ?_, h7, ?_⟩
  · rw [pu_row _ _ _ _ (by decide)]; exact h2
  · rw [pu_row _ _ _ _ (by decide)]; exact h3
  · rw [pu_row _ _ _ _ (by decide)]; exact h4
  · rw [pu_row _ _ _ _ (by decide)]; exact h6
  · rw [pu_f (by decide)]; exact h8
theorem m_onePart (h : RfS s m A B n ord st len L) {its : Int} (hi : its = if wd B st (if ord = true then 4 else 5) = -1 then -1 else wd B st (if ord = true then 4 else 5) + 1) :
    SpcO (oneP B n ord st) 3 (b_M_readPart_35 m (v its) s) s m A B n ord st len L := by
  have hS := h.2.1.2.2
  have hst : 0 ≤ st.1 ∧ st.1 ≤ st.2.1 ∧ st.2.1 ≤ n := hS.1.1
  have hs0 : 0 ≤ st.2.2 := hS.1.2
  have hwr := wd_r B st (if ord = true then 4 else 5)
  have hsrt := wd_srt hS (k := if ord = true then 4 else 5) (by split <;> omega)
  have hv := nm_val hS (lo := 0) (hi := 1000) ⟨by omega, by omega⟩
  have hnr := numP_r (B := B) (n := n) (f := st.1) (t := st.2.1) (lo := 0) (hi := 1000) (by decide)
  have hnm : nm B n st 0 1000 = -1 ∨ (0 ≤ nm B n st 0 1000 ∧ nm B n st 0 1000 ≤ 1000) := hnr
  have hwl : ((wrdZ (if ord = true then 4 else 5)).length : Int) = if ord = true then 6 else 7 := by split <;> rfl
  have hfl := h.2.2.2.2.2.2
  have e50 := h.2.2.2.1.2.2
  have hn := h.2.1.1.2.1
  unfold oneP
  generalize hw : wd B st (if ord = true then 4 else 5) = W at *
  have hW7 : W = -1 ∨ (0 ≤ W ∧ W < if ord = true then 6 else 7) := by
    rcases hwr with e | e
    · exact Or.inl e
    · exact Or.inr ⟨e.1, by omega⟩
  have hW8 : -1 ≤ W ∧ W < 7 := by
    split at hW7 <;> omega
  have hits : -1 ≤ its ∧ its ≤ 7 := by rw [hi]; split <;> omega
  rw [m_p35 h hits]
  -- the reference refuses
  have bad : (50 ≤ st.2.2 ∨ (nm B n st 0 1000 = -1 ∧ W = -1)) → SpcO (.error st.1) 3 (b_M_readPart_99 m (v its) (v (if nm B n st 0 1000 = -1 then 0 else nm B n st 0 1000)) (v (if its = -1 then 0 else its)) (v (bi (¬ (its = -1 ∧ nm B n st 0 1000 = -1)))) m s) s m A B n ord st len L := by
    intro hb
    have hb' : ¬ ¬ (its = -1 ∧ nm B n st 0 1000 = -1) ∨ 50 ≤ st.2.2 := by
      rcases hb with c | c
      · exact Or.inr c
      · refine Or.inl (fun d => d ⟨?_, c.1⟩)
        rw [hi, if_pos c.2]
    obtain ⟨s1, A1, q1, q2, q3, q4⟩ := m_leafF h hb' (op := if its = -1 then 0 else its) (arg := if nm B n st 0 1000 = -1 then 0 else nm B n st 0 1000)
    refine ⟨s1, A1, ?_, q2, q3, q4⟩
    unfold b_M_readPart_99
    rw [if_pos h.1.t, q1, Option.bind_some, if_pos q2.1.t, Er_bad q2, nv0, nv3, nv5]
    by_cases c1 : sI s1 m 19 = v 0
    · rw [if_pos c1]
    · rw [if_neg c1]
      by_cases c2 : its < 5
      · rw [if_pos (plt (by omega))]
      · rw [if_neg (nlt (by omega)), if_neg (show ¬ v 1 = v 0 by decide)]
  by_cases cE : 50 ≤ st.2.2 ∨ (nm B n st 0 1000 = -1 ∧ W = -1)
  · rw [if_pos cE]
    exact bad cE
  · rw [if_neg cE]
    have hlt : st.1 < st.2.1 := by
      rcases hwr with e | e
      · have hnm2 : nm B n st 0 1000 ≠ -1 := fun c => cE (Or.inr ⟨c, e⟩)
        have hfn : st.1 < n := by
          by_cases c : st.1 < n
          · exact c
          · exfalso
            apply hnm2
            unfold nm numP
            rw [if_neg (fun d => c d.1)]
        have := (tokE_r (B := B) (n := n) (f := st.1) (by omega)).2.2 hfn
        rw [← hS.2.1] at this
        exact this
      · exact e.2.2
    have h50 : st.2.2 < 50 := by omega
    have hT := nxS_T (B := B) (n := n) (st := (st.1, st.2.1, st.2.2 + 1)) ⟨hst, by show 0 ≤ st.2.2 + 1; omega⟩
    have hnx : st.2.1 ≤ (nxS B n (st.1, st.2.1, st.2.2 + 1)).1 := hT.2.1
    have h19 : ∀ {s1 : AS} {A1 : MA} {st1 : STK} {l : Int}, RfS s1 m A1 B n ord st1 l L → sI s1 m 19 = v (if ord = true then 1 else 0) := fun k => by rw [k.1.i19, k.2.2.1.2.2.1]
    by_cases cn : nm B n st 0 1000 = -1
    · -- a word
      have hWn : ¬ W = -1 := fun c => cE (Or.inr ⟨cn, c⟩)
      rw [if_neg (fun c => c cn)]
      have hie : its = W + 1 := by rw [hi, if_neg hWn]
      have hop : (0 ≤ its ∧ its < 20) ∧ (0 ≤ (0 : Int) ∧ (0 : Int) ≤ 1000) ∧ (its = 0 ∨ (ord = false ∧ its ≤ 7) ∨ (ord = true ∧ its ≤ 6 ∧ (5 ≤ its → (0 : Int) < 8))) := by
        refine ⟨by omega, by omega, Or.inr ?_⟩
        cases ord with
        | false => exact Or.inl ⟨rfl, by omega⟩
        | true =>
          have hW7' : W = -1 ∨ (0 ≤ W ∧ W < 6) := hW7
          exact Or.inr ⟨rfl, by omega, fun _ => by omega⟩
      obtain ⟨s1, A1, q1, q2, q3, q4, q5, q6⟩ := m_leafT h hlt h50 hop
      have hc : CodK A A1 len := cod_bu q3 q4
      have hins := ins_bu (ord := ord) q3 q4
      unfold b_M_readPart_99
      rw [if_pos cn, if_neg (show ¬ its = -1 by omega), bi_t (c := ¬ (its = -1 ∧ nm B n st 0 1000 = -1)) (fun d => by omega), if_pos h.1.t, q1, Option.bind_some, if_pos q2.1.t, h19 q2, nv0, nv3, nv5]
      cases ord with
      | false =>
        have hWf : W = wd B st 5 := hw.symm
        rw [if_pos (show v (if false = true then 1 else 0) = v 0 by decide), if_neg (fun c => by cases c.1)]
        refine ⟨s1, A1, rfl, q2, Seg.word ?_, hc, q5, q6, by omega⟩
        rw [hins]
        unfold insM
        rw [if_neg (by omega), if_pos (by omega)]
        show (1, its - 1) = (1, W)
        rw [hie, show W + 1 - 1 = W by omega]
      | true =>
        have hW7' : W = -1 ∨ (0 ≤ W ∧ W < 6) := hW7
        have hww : wd B st 4 = W := hw
        rw [if_neg (show ¬ v (if true = true then 1 else 0) = v 0 by decide), hww]
        by_cases c4 : W < 4
        · rw [if_pos (plt (by omega)), if_neg (fun c => by omega)]
          refine ⟨s1, A1, rfl, q2, Seg.word ?_, hc, q5, q6, by omega⟩
          rw [hins]
          unfold insM
          rw [if_neg (by omega), if_pos (by omega), if_pos rfl, if_pos (by omega), hie, show W + 1 - 1 = W by omega]
        · rw [if_neg (nlt (by omega)), if_pos ⟨rfl, by omega⟩, Rf_bad q2, if_pos rfl, show lN 0 = w 0 from rfl, show lN 7 = w 7 from rfl]
          obtain ⟨s2, A2, y1, y2, y3, y4, y5⟩ := m_number q2 (lo := 0) (hi := 7) (by omega)
          have hnr2 := numP_r (B := B) (n := n) (f := (nxS B n (st.1, st.2.1, st.2.2 + 1)).1) (t := (nxS B n (st.1, st.2.1, st.2.2 + 1)).2.1) (lo := 0) (hi := 7) (by decide)
          have hnm2 : nm B n (nxS B n (st.1, st.2.1, st.2.2 + 1)) 0 7 = -1 ∨ (0 ≤ nm B n (nxS B n (st.1, st.2.1, st.2.2 + 1)) 0 7 ∧ nm B n (nxS B n (st.1, st.2.1, st.2.2 + 1)) 0 7 ≤ 7) := hnr2
          have hfl1 := q2.2.2.2.2.2.2
          have hst1 := q2.2.1.2.2.1.1
          have hl1 : 0 ≤ len ∧ len < 400 := by omega
          have e22 : A1 0 22 = len + 1 := q2.2.2.2.1.1
          have hm2 : sT s2 (m + 12) = 20 ∧ sN s2 (m + 12) = 400 := by
            by_cases d : nm B n (nxS B n (st.1, st.2.1, st.2.2 + 1)) 0 7 = -1
            · exact ⟨(y5 d).1.t24, (y5 d).1.n24⟩
            · exact ⟨(y4 d).1.1.t24, (y4 d).1.1.n24⟩
          rw [y1, Option.bind_some, q2.1.r24, q2.1.i22, e22, nv1, v_sub, show len + 1 - 1 = len by omega]
          show SpcO _ 3 (if sT s2 (m + 12) = 20 ∧ inA (v len) (sN s2 (m + 12)) then some (v 3, setI s2 (m + 12) (v len).toNatClampNeg (v (wthT B n (nxS B n (st.1, st.2.1, st.2.2 + 1)).1))) else none) s m A B n true st len L
          rw [if_pos (show sT s2 (m + 12) = 20 ∧ inA (v len) (sN s2 (m + 12)) from ⟨hm2.1, by rw [hm2.2]; exact v_inA (by omega) (by omega)⟩), v_ix (by omega)]
          by_cases cp : nm B n (nxS B n (st.1, st.2.1, st.2.2 + 1)) 0 7 = -1
          · rw [if_pos cp]
            exact ⟨_, _, rfl, Er_arg (y5 cp) hl1, (q5.tr y2).tr (AF.pu (Or.inr (Or.inr (by omega)))), (q6.tr y3).tr (inM_s (by decide))⟩
          · rw [if_neg cp]
            obtain ⟨z1, z2, z3, z4⟩ := y4 cp
            have a11 : A2 11 = bu (A 11) len its := by rw [z2, q3]
            have a12 : A2 12 = bu (A 12) len 0 := by rw [z3, q4]
            have o11 : A2 11 len = its := by rw [a11]; unfold bu; rw [if_pos rfl]
            have hT2 := nxS_T (B := B) (n := n) (st := nxS B n (st.1, st.2.1, st.2.2 + 1)) hT.1.1
            have hge : (nxS B n (st.1, st.2.1, st.2.2 + 1)).1 ≤ (nxS B n (nxS B n (st.1, st.2.1, st.2.2 + 1))).1 := by
              have b1 := hT.1.1.1.2.1
              have b2 := hT2.2.1
              omega
            have k1 := Rf_arg z1 (k := len) (x := wthT B n (nxS B n (st.1, st.2.1, st.2.2 + 1)).1) (by omega) (by omega) ⟨by omega, fun _ => by omega⟩
            refine ⟨_, _, rfl, k1, Seg.word ?_, ?_, (q5.tr y2).tr (AF.pu (Or.inr (Or.inr (by omega)))), (q6.tr y3).tr (inM_s (by decide)), by omega⟩
            · show insM true (pu A2 12 len _ 11 len) (pu A2 12 len _ 12 len) = _
              rw [pu_row _ _ _ _ (by decide), pu_eq, o11, ← z4]
              unfold insM
              rw [if_neg (by omega), if_pos (by omega), if_pos rfl, if_neg (by omega)]
              by_cases c5 : its = 5
              · rw [if_pos c5, show W = 4 by omega]
                simp
              · rw [if_neg c5, show W = 5 by omega]
                simp
            · intro z z0 z1'
              refine ⟨?_, ?_⟩
              · rw [pu_row _ _ _ _ (by decide), a11]; unfold bu; rw [if_neg (by omega)]
              · rw [pu_ne _ _ _ _ (by omega), a12]; unfold bu; rw [if_neg (by omega)]
    · -- a number
      have hsr : srtT B n st.1 = 2 := by
        by_cases d : srtT B n st.1 = 2 ∧ 0 ≤ wthT B n st.1 ∧ wthT B n st.1 ≤ 1000
        · exact d.1
        · rw [if_neg d] at hv; exact absurd hv cn
      have hW1 : W = -1 := by
        by_cases d : W = -1
        · exact d
        · have := hsrt d; omega
      have hie : its = -1 := by rw [hi, if_pos hW1]
      rw [if_pos cn]
      obtain ⟨s1, A1, q1, q2, q3, q4, q5, q6⟩ := m_leafT h hlt h50 (op := 0) (arg := nm B n st 0 1000) ⟨by omega, by omega, Or.inl rfl⟩
      have hc : CodK A A1 len := cod_bu q3 q4
      have hins := ins_bu (ord := ord) q3 q4
      unfold b_M_readPart_99
      rw [if_neg cn, if_pos hie, bi_t (c := ¬ (its = -1 ∧ nm B n st 0 1000 = -1)) (fun d => cn d.2), if_pos h.1.t, q1, Option.bind_some, if_pos q2.1.t, h19 q2, nv0, nv3, nv5]
      have fin : SpcO (.ok (fun _ => some (nm B n st 0 1000), nxS B n (st.1, st.2.1, st.2.2 + 1))) 3 (some (v 3, s1)) s m A B n ord st len L := by
        refine ⟨s1, A1, rfl, q2, Seg.num ?_, hc, q5, q6, by omega⟩
        rw [hins]
        unfold insM
        rw [if_pos rfl]
      by_cases c19 : v (if ord = true then 1 else 0) = v 0
      · rw [if_pos c19]
        exact fin
      · rw [if_neg c19, if_pos (plt (by omega))]
        exact fin
theorem accW_if {B : Int → Int} {st : STK} {k : Nat} {j : Int} (hj : ((wrdZ k).length : Int) = j) : accW (wd B st k) j = if wd B st k = -1 then -1 else wd B st k + 1 := by
  unfold accW
  rcases wd_r B st k with e | e
  · rw [if_neg (by omega), if_pos e]
  · rw [if_pos ⟨e.1, by omega⟩, if_neg (by omega)]
theorem m_readPart (h : RfS s m A B n ord st len L) (hb : wd B st 2 ≠ 0) : SpcO (oneP B n ord st) 3 (f_M_readPart s m) s m A B n ord st len L := by
  obtain ⟨h2, h3, h4⟩ := h.2.1
  have h8 := h.2.2.1.2.2.2
  have e19 := h.2.2.1.2.2.1
  have hs : f_M_isSign s m (nI 91) = some (v (bi (wd B st 2 = 0))) := m_sgK h.1 h2 h3 h4 (k := 2) (i := 0) (c := 91) (by decide) rfl (by decide)
  unfold f_M_readPart
  rw [if_pos h.1.t, hs, Option.bind_some, bi_f hb, nv0, if_pos rfl, h.1.i19, e19]
  cases ord with
  | false =>
    rw [if_pos (show v (if false = true then 1 else 0) = v 0 by decide), m_partAt h.1 h2 h3 h4 h8, Option.bind_some]
    exact m_onePart h (accW_if rfl)
  | true =>
    rw [if_neg (show ¬ v (if true = true then 1 else 0) = v 0 by decide), m_orderPartAt h.1 h2 h3 h4 h8, Option.bind_some]
    exact m_onePart h (accW_if rfl)
theorem m_readSquare (h : RfS s m A B n ord st len L) (hb : wd B st 2 = 0) : ∃ s' A', f_M_readPart s m = some (v 1, s') ∧ AF scrR A A' ∧ Fr (inM m) s s' ∧ (opnL L < 8 → RfS s' m A' B n ord (nxS B n st) len ((32, 0) :: L) ∧ A' 11 = A 11 ∧ A' 12 = A 12) ∧ (¬ opnL L < 8 → ErM s' m A' st.1) := by
  obtain ⟨h2, h3, h4⟩ := h.2.1
  have hs : f_M_isSign s m (nI 91) = some (v (bi (wd B st 2 = 0))) := m_sgK h.1 h2 h3 h4 (k := 2) (i := 0) (c := 91) (by decide) rfl (by decide)
  have hlt : st.1 < st.2.1 := by
    rcases wd_r B st 2 with e | e
    · omega
    · exact e.2.2
  obtain ⟨s1, A1, q1, q2⟩ := m_open h hlt (op := 32) (Or.inr rfl)
  refine ⟨s1, A1, ?_, q2⟩
  unfold f_M_readPart
  rw [if_pos h.1.t, hs, Option.bind_some, bi_t hb, nv0, if_neg (show ¬ v 1 = v 0 by decide), nv32, q1, Option.bind_some, nv1]
end RPT
