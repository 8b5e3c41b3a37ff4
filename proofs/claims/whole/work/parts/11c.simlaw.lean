/-! THE LAW'S OWN CODE, WALKED -/
def SimL (M : MI) (n : Nat) : Prop := ∀ (d : Nat), ∀ (pc : Nat) (ls st : List Value) (s : AS) (out : Option Value × AS), Run n d M (pc, ls, st, s) out → ∀ (X : MC) (g : GE) (E : AS) (cc : ByteArray), CtxZ X g M cc → (d + 6 ≤ (xR X).frames ∧ 64 * (d + 6) ≤ (xR X).locals) → (sX out.2 - sX E ≤ (xR X).cells ∧ sZ out.2 - sZ E ≤ (xR X).slots) →
  (∀ pc ls st s, (retI M pc st).1 → out = ((retI M pc st).2, s) → AtZ X g E M.2.2.1 pc ls st s) → AtZ X g E M.2.2.1 pc ls st s
theorem simL (AL : AllZ) {M : MI} (hM16 : M.2.1 < 16) : ∀ n, SimL M n := by
  intro n
  induction n with
  | zero => intro d pc ls st s out h; exact h.elim
  | succ n ih =>
    intro d pc ls st s out h X g E cc C hF hB HR
    have hmono := Run_mono _ _ _ _ _ h
    obtain ⟨AC, AM, AO, AA⟩ := id AL
    obtain ⟨oc, ol, op⟩ := AO _ hM16
    have hE : EnvZ g (xs X) (xa X) := C.2.2.2.2.2.2.2.2.1
    have hts := hE.2.1
    rcases h with ⟨h1, h2⟩ | ⟨h1, h2⟩ | ⟨how, x, na, e, as, r, v, s1, h1, h2, h3, h4, h5, hw, hi, h6, h7⟩
    · exact HR pc ls st s h1 h2
    · have hm2 := Run_mono _ _ _ _ _ h2
      exact z_step C AC (op.prm hts) ⟨hts _ AA.1, hts _ AA.2.1, hts _ AA.2.2⟩ hB h1 hm2 (ih d _ _ _ _ out h2 X g E cc C hF hB HR)
    · dsimp only at h1 h3 h5 h6 h7
      have hm1 := Run_mono _ _ _ _ _ h6
      have hm2 := Run_mono _ _ _ _ _ h7
      dsimp only at hm1 hm2
      subst h3
      have hnext := ih d _ _ _ _ out h7 X g E cc C hF hB HR
      intro A H locs q1 q2 q3 q4 q5 q6
      refine W_size (fun hsz => ?_)
      have hHsz : H.size + 1 = gB g + sX s := by
        have hl := q4.1
        have hgb : gB g ≤ (xs X).heap.size := hE.2.2.2.2.2.2.2.2
        have h1s := q3.2.1.1
        rcases Nat.lt_or_ge 1 (sX s) with hx | hx
        · have hw := wsZ_get (g := g) (s := s) (a := sX s - 1) ⟨by omega, by omega⟩
          have hlt := (q3.1 _ _ hw).lt
          have : gB g + (sX s - 1 - 1) < H.size := hlt
          omega
        · omega
      have hcat := catW (g := g) r
      -- the link
      unfold callZ at h1
      have cont : ∀ {f : JFrame} {a : Array Value}, f = F0 (xm X) pc A ((as.reverse ++ r).map (conV g)) → va_Run X.1 X.2.1 X.2.2.1 X.2.2.2.1 X.2.2.2.2.1 X.2.2.2.2.2.1 X.2.2.2.2.2.2.1 X.2.2.2.2.2.2.2.1 X.2.2.2.2.2.2.2.2.1 X.2.2.2.2.2.2.2.2.2.1 H locs (sX s - sX E) (sZ s - sZ E) (sX s1 - sX s) (sZ s1 - sZ s) f (r.map (conV g)) (QcZ g (v, s1) a) (inW g) → WX X H locs (sX s - sX E) (sZ s - sZ E) f := by
        intro f a hf hrun
        subst hf
        refine W_run hrun (fun v' st₀ t H1 L e0 e1 hq hL => ?_)
        obtain ⟨p1, p2, p3, p4⟩ := hq
        cases p1
        rw [e1] at p2 p3 p4
        rw [e0] at p3 p4
        have hS1 : va_S (inW g) (xs X).heap H1 (locs ++ L) := by
          refine ⟨Nat.le_trans q4.1 p4, fun q hq1 hq2 => ?_, fun q hq => ?_⟩
          · rw [p3 q (Nat.not_le.mp hq2)]
            exact q4.2.1 q hq1 hq2
          · rcases List.mem_append.mp hq with hq | hq
            · exact q4.2.2 q hq
            · exact hL q hq
        have hk := hnext A H1 (locs ++ L) q1 q2 p2 hS1 ⟨by omega, by omega⟩ q6
        rw [show sX s - sX E + (sX s1 - sX s) = sX s1 - sX E by omega, show sZ s - sZ E + (sZ s1 - sZ s) = sZ s1 - sZ E by omega]
        cases v with
        | none => exact hk
        | some v => exact hk
      have hfit : sX s - sX E + (sX s1 - sX s) ≤ X.2.2.2.1.cells ∧ sZ s - sZ E + (sZ s1 - sZ s) ≤ X.2.2.2.1.slots := by
        have hB1 : sX out.2 - sX E ≤ X.2.2.2.1.cells := hB.1
        have hB2 : sZ out.2 - sZ E ≤ X.2.2.2.1.slots := hB.2
        exact ⟨by omega, by omega⟩
      have hroom : ∀ {mL : Nat}, mL ≤ 45 → (rmZ e (sX s1 - sX s) (sZ s1 - sZ s)).frames + 1 ≤ X.2.2.2.1.frames ∧ 8 + (mL + 11) + (rmZ e (sX s1 - sX s) (sZ s1 - sZ s)).locals ≤ X.2.2.2.1.locals := by
        intro mL hmL
        have hF1 : d + 6 ≤ X.2.2.2.1.frames := hF.1
        have hF2 : 64 * (d + 6) ≤ X.2.2.2.1.locals := hF.2
        have w1 : (rmZ e (sX s1 - sX s) (sZ s1 - sZ s)).frames = e + 6 := rfl
        have w2 : (rmZ e (sX s1 - sX s) (sZ s1 - sZ s)).locals = 64 * (e + 6) := rfl
        rw [w1, w2]
        exact ⟨by omega, Nat.le_trans (room_le h2 hmL) hF2⟩
      have pcU : ∀ U : State, U.heap = H → (xs X).WarmedH U.vm → PcZ g as s (as.map (conV g)).toArray U := fun U hU hW => ⟨rfl, hE.envP.go q4 hU hW, by rw [hU]; exact q3, by rw [hU]; exact hHsz⟩
      have hsl : A.size = M.2.2.1 := by rw [q1.1]; exact q2
      have hstW : 2 * (F0 (xm X) pc A ((as.reverse ++ r).map (conV g))).monitorRoom + ((r.map (conV g)).map fun v => v.category).sum ≤ 8 := by show 2 * 0 + _ ≤ 8; omega
      split at h1
      · rename_i idx len hM
        have hd := C.dec hM (by simp [lenI])
        split at h1
        · rename_i x' na' hlk
          cases h1
          obtain ⟨c1, c2, c3, c4, c5, c6⟩ := oc _ _ _ _ hlk (by decide)
          obtain ⟨n1, n2, n3, n4, n5, n6, n7, n8, n9, n10, n11⟩ := AM x c1
          have hM2 := met_of AL (simZ AL n) X.2.1 c1 (g := g) h6 hi
          rw [if_pos rfl] at h4
          refine cont (a := (as.map (conV g)).toArray) rfl ?_
          rcases c3 with c3 | ⟨hh, c3⟩
          · exact va_runS (Ts := TsZ) (own := ownZ M.2.1) (As := as.map (conV g)) ⟨C.1, C.2.1, C.2.2.1, C.2.2.2.1, hts⟩ hM2 ⟨callB_of na hts (goodW n3) rfl rfl rfl (hts _ n9) (hts _ c3) ⟨n8.1, n8.2, c2⟩ (hroom n7), hts _ (c4 rfl)⟩ ⟨blindZ, pcU⟩ rfl (by rw [List.length_map]; exact h4) hsl (call_stack as r) hstW hd hfit
          · exact va_runSN (Ts := TsZ) (own := ownZ M.2.1) (host := hh) (As := as.map (conV g)) ⟨C.1, C.2.1, C.2.2.1, C.2.2.2.1, hts⟩ hM2 ⟨va_cnB na hts (goodW n3) rfl rfl rfl (hE.2.2.1 _ c3) (hts _ n9) ⟨n8.1, n8.2, c2⟩ (hroom n7), hts _ (c4 rfl), trivial⟩ ⟨blindZ, pcU⟩ rfl (by rw [List.length_map]; exact h4) hsl (call_stack as r) hstW hd hfit
        · cases h1
      · rename_i idx len hM
        have hd := C.dec hM (by simp [lenI])
        split at h1
        · rename_i x' na' hlk
          cases h1
          obtain ⟨c1, c2, c3, c4, c5, c6⟩ := oc _ _ _ _ hlk (by decide)
          obtain ⟨n1, n2, n3, n4, n5, n6, n7, n8, n9, n10, n11⟩ := AM x c1
          obtain ⟨i1, i2, i3⟩ := c5 rfl
          have hM2 := met_of AL (simZ AL n) X.2.1 c1 (g := g) h6 hi
          rw [if_neg (by decide)] at h4
          obtain ⟨a, as', rfl, h5'⟩ := recv2 h5
          have hpl := q3.2.place (a := a) (by omega) (by omega)
          have hcell := va_recv hE.1 q3.1 (AC _ i3).1 (by rw [wsZ_get hpl, celZ_obj h5' i3])
          have hcls : clC (methZ x).2.1 = (yZ x).cls := by
            rw [n2]
            have : ∀ o, o < 13 → clC o = ownZ o := by decide +kernel
            exact this _ i3
          refine cont (a := (Value.ref (gB g + (a - 1)) :: as'.map (conV g)).toArray) rfl ?_
          have hst : (((Value.ref a :: as').reverse ++ r).map (conV g)) = (as'.map (conV g)).reverse ++ .ref (gB g + (a - 1)) :: r.map (conV g) := by
            rw [call_stack, List.map_cons, List.reverse_cons, conV_ref q3.2 hpl, List.append_assoc]
            rfl
          have pcU' : ∀ U : State, U.heap = H → (xs X).WarmedH U.vm → PcZ g (.ref a :: as') s (Value.ref (gB g + (a - 1)) :: as'.map (conV g)).toArray U := by
            intro U hU hW
            have := pcU U hU hW
            rw [List.map_cons, conV_ref q3.2 hpl] at this
            exact this
          have hl4 : (as'.map (conV g)).length = na := by rw [List.length_map]; simpa using h4
          rcases c3 with c3 | ⟨hh, c3⟩
          · exact va_runV (Ts := TsZ) (own := ownZ M.2.1) (C := (yZ x).cls) (As := as'.map (conV g)) ⟨C.1, C.2.1, C.2.2.1, C.2.2.2.1, hts⟩ hM2 ⟨callB_of na hts (goodW n3) rfl rfl rfl (hts _ n9) (hts _ c3) ⟨n8.1, n8.2, c2⟩ (hroom n7), hts _ i1, hts _ i2⟩ ⟨blindZ, by rw [← hcls]; exact hcell, pcU'⟩ rfl hl4 hsl hst hstW hd hfit
          · exact va_runVN (Ts := TsZ) (own := ownZ M.2.1) (C := (yZ x).cls) (host := hh) (As := as'.map (conV g)) ⟨C.1, C.2.1, C.2.2.1, C.2.2.2.1, hts⟩ hM2 ⟨va_cnB na hts (goodW n3) rfl rfl rfl (hE.2.2.1 _ c3) (hts _ n9) ⟨n8.1, n8.2, c2⟩ (hroom n7), hts _ i1, hts _ i2⟩ ⟨blindZ, by rw [← hcls]; exact hcell, pcU'⟩ rfl hl4 hsl hst hstW hd hfit
        · cases h1
      · rename_i idx len hM
        have hd := C.dec hM (by simp [lenI])
        split at h1
        · rename_i x' na' hlk
          cases h1
          obtain ⟨c1, c2, c3, c4, c5, c6⟩ := oc _ _ _ _ hlk (by decide)
          obtain ⟨n1, n2, n3, n4, n5, n6, n7, n8, n9, n10, n11⟩ := AM x c1
          obtain ⟨i1, i2, i3⟩ := c6 rfl
          have hM2 := met_of AL (simZ AL n) X.2.1 c1 (g := g) h6 hi
          rw [if_neg (by decide)] at h4
          obtain ⟨a, as', rfl, h5'⟩ := recv3 h5
          have hca : conV g (.ref a) = .ref (adZ g a) := by show rfZ g a = _; unfold rfZ; rw [if_neg h5']
          refine cont (a := (Value.ref (adZ g a) :: as'.map (conV g)).toArray) rfl ?_
          have hst : (((Value.ref a :: as').reverse ++ r).map (conV g)) = (as'.map (conV g)).reverse ++ .ref (adZ g a) :: r.map (conV g) := by
            rw [call_stack, List.map_cons, List.reverse_cons, hca, List.append_assoc]
            rfl
          have pcU' : ∀ U : State, U.heap = H → (xs X).WarmedH U.vm → PcZ g (.ref a :: as') s (Value.ref (adZ g a) :: as'.map (conV g)).toArray U := by
            intro U hU hW
            have := pcU U hU hW
            rw [List.map_cons, hca] at this
            exact this
          have hl4 : (as'.map (conV g)).length = na := by rw [List.length_map]; simpa using h4
          have hn3 : Cond.code (yZ x) (bZ x) (methZ x).2.2.1 none ∈ TsZ := by rw [← i3]; exact n3
          have hwq : wZ x = Cond.code (yZ x) (bZ x) (methZ x).2.2.1 none :: TsZ := by rw [← i3]
          rcases c3 with c3 | ⟨hh, c3⟩
          · exact va_runI (Ts := TsZ) (own := ownZ M.2.1) (As := as'.map (conV g)) ⟨C.1, C.2.1, C.2.2.1, C.2.2.2.1, hts⟩ hM2 ⟨callB_of na hts (goodW n3) hwq rfl rfl (hts _ n9) (hts _ c3) ⟨n8.1, n8.2, c2⟩ (hroom n7), i2, hts _ i1⟩ ⟨blindZ, pcU'⟩ rfl hl4 hsl hst hstW hd hfit
          · exact va_runIN (Ts := TsZ) (own := ownZ M.2.1) (host := hh) (As := as'.map (conV g)) ⟨C.1, C.2.1, C.2.2.1, C.2.2.2.1, hts⟩ hM2 ⟨va_cnB na hts (goodW n3) hwq rfl rfl (hE.2.2.1 _ c3) (hts _ n9) ⟨n8.1, n8.2, c2⟩ (hroom n7), i2, hts _ i1⟩ ⟨blindZ, pcU'⟩ rfl hl4 hsl hst hstW hd hfit
        · cases h1
      · cases h1

