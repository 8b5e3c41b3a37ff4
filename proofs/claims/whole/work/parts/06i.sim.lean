/-! THE SIMULATION -/
theorem init_len {g : GE} : ∀ av : List Value, (initV av).length = (lg_sl (av.map (conV g))).length
  | [] => rfl
  | w :: l => by
    have ih := init_len (g := g) l
    have e : lg_sl ((w :: l).map (conV g)) = (if (conV g w).category = 2 then [.val (conV g w), .second] else [.val (conV g w)]) ++ lg_sl (l.map (conV g)) := rfl
    rw [e, cat_con, List.length_append, ← ih]
    by_cases hc : w.category = 2
    · rw [if_pos hc]
      have h2 : initV (w :: l) = w :: .retAddr 0 :: initV l := by
        cases w <;> first | rfl | (exfalso; simp [Value.category] at hc)
      rw [h2, List.length_cons, List.length_cons]
      show _ = 2 + _
      omega
    · rw [if_neg hc]
      have h2 : initV (w :: l) = w :: initV l := by
        cases w <;> first | rfl | (exfalso; simp [Value.category] at hc)
      rw [h2, List.length_cons]
      show _ = 1 + _
      omega
theorem init_lg {g : GE} : ∀ (av : List Value) (i : Nat) (v : Value), (initV av)[i]? = some v → (∀ n, v ≠ .retAddr n) → (lg_sl (av.map (conV g)))[i]? = some (.val (conV g v))
  | [], i, v, h, hn => by
    rw [show initV [] = [] from rfl] at h
    simp at h
  | w :: l, i, v, h, hn => by
    have ih := init_lg (g := g) l
    have e : lg_sl ((w :: l).map (conV g)) = (if (conV g w).category = 2 then [.val (conV g w), .second] else [.val (conV g w)]) ++ lg_sl (l.map (conV g)) := rfl
    rw [e, cat_con]
    by_cases hc : w.category = 2
    · rw [if_pos hc]
      have h2 : (w :: .retAddr 0 :: initV l)[i]? = some v := by
        cases w <;> first | exact h | (exfalso; simp [Value.category] at hc)
      match i, h2 with
      | 0, h2 => cases h2; rfl
      | 1, h2 => cases h2; exact absurd rfl (hn 0)
      | i + 2, h2 => exact ih i v h2 hn
    · rw [if_neg hc]
      have h2 : (w :: initV l)[i]? = some v := by
        cases w <;> first | exact h | (exfalso; simp [Value.category] at hc)
      match i, h2 with
      | 0, h2 => cases h2; rfl
      | i + 1, h2 => exact ih i v h2 hn
theorem pad_len {n : Nat} {l : List Value} (h : l.length ≤ n) : (padV n l).length = n := by
  unfold padV
  rw [List.length_append, List.length_replicate]
  omega
theorem LVZ.entry {g : GE} {av : List Value} {n : Nat} (h : (initV av).length ≤ n) : LVZ g (padV n (initV av)) ((lg_sl (av.map (conV g)) ++ List.replicate (n - (lg_sl (av.map (conV g))).length) Slot.unset).toArray) := by
  have hl := lv_entry (av.map (conV g)) (n := n) (by rw [← init_len]; exact h)
  refine ⟨by rw [pad_len h]; exact hl.1, hl.2.1, fun i v hv hn => ?_⟩
  unfold padV at hv
  rcases Nat.lt_or_ge i (initV av).length with q | q
  · rw [List.getElem?_append_left q] at hv
    have h1 := init_lg (g := g) av i v hv hn
    rw [List.getElem?_toArray, List.getElem?_append_left (by rw [← init_len]; exact q)]
    exact h1
  · rw [List.getElem?_append_right q, List.getElem?_replicate] at hv
    split at hv
    · cases hv
      exact absurd rfl (hn 0)
    · cases hv
abbrev xQ (X : MC) : State → Prop := X.2.2.2.2.2.2.2.2.2.2
abbrev xb (X : MC) : List Frame := X.2.2.2.2.2.2.2.1
theorem p_ret {X : MC} {g : GE} {k : Nat} {E : AS} {cc : ByteArray} {out : Option Value × AS} (C : CtxZ X g (methZ k) cc) (hr : (xw X).sig.returnType = rZ k) (hRet : RetZ k) (hlocks : (xw X).locks = false) (hQ : xQ X = MQ (xb X) (QcZ g out) (xa X) (xs X) (sX out.2 - sX E) (sZ out.2 - sZ E) (inW g)) :
    ∀ pc ls st s, (retI (methZ k) pc st).1 → out = ((retI (methZ k) pc st).2, s) → AtZ X g E (methZ k).2.2.1 pc ls st s := by
  intro pc ls st s hG ho A H locs h1 h2 h3 h4 h5 h6
  have hE : EnvZ g (xs X) (xa X) := C.2.2.2.2.2.2.2.2.1
  have hgb : gB g ≤ (xs X).heap.size := hE.2.2.2.2.2.2.2.2
  have hs : out.2 = s := by rw [ho]
  have post : ∀ (o : Option Value) (t : State), out.1 = o → t.heap = H → QcZ g out (xa X) (xs X) (.returned (o.map (conV g))) t := by
    intro o t ho1 ht
    refine ⟨by rw [ho1], by rw [hs, ht]; exact h3, fun q hq => ?_, by rw [ht]; exact h4.1⟩
    rw [ht]
    exact h4.2.1 q (Nat.lt_of_lt_of_le hq hgb) (Nat.not_le.mpr hq)
  have hf : ∀ q ∈ locs, inW g q.base := h4.2.2
  unfold RetZ at hRet
  show W _ _ _ _ _ _ _ _ _ _ _ _ _ _ (xQ X) _
  rw [hQ, hs]
  unfold retI at hG ho
  split at hG
  · rename_i len heq
    rw [heq] at ho
    split at hG
    · rename_i y x hrk
      rw [hrk] at hRet ho
      have ho1 : out.1 = some (.int x) := congrArg Prod.fst ho
      exact W.iret (v := x) C.1 C.2.1 (hr.trans hRet) (fun t ht _ => post (some (.int x)) t ho1 ht) hf (C.dec heq (by simp [lenI])) hlocks
    · rename_i y x hrk
      rw [hrk] at hRet ho
      have ho1 : out.1 = some (.int x) := congrArg Prod.fst ho
      exact W.zret (v := x) C.1 C.2.1 (hr.trans hRet) (n_bit hG).1 (fun t ht _ => post (some (.int x)) t ho1 ht) hf (C.dec heq (by simp [lenI])) hlocks
    · exact hG.elim
  · rename_i len heq
    rw [heq] at ho
    split at hG
    · rename_i y x hrk
      rw [hrk] at hRet ho
      have ho1 : out.1 = some (.long x) := congrArg Prod.fst ho
      exact W.lret (v := x) C.1 C.2.1 (hr.trans hRet) (fun t ht _ => post (some (.long x)) t ho1 ht) hf (C.dec heq (by simp [lenI])) hlocks
    · exact hG.elim
  · rename_i len heq
    rw [heq] at ho
    split at hG
    · rename_i y x hrk
      rw [hrk] at hRet ho
      have ho1 : out.1 = some (.ref x) := congrArg Prod.fst ho
      have hRet' : (∃ n, rZ k = some (.object n)) ∨ ∃ t, rZ k = some (.array t) := hRet
      have hv : conV g (.ref x) = .null ∨ ∃ a, conV g (.ref x) = .ref a := by
        show rfZ g x = _ ∨ ∃ a, rfZ g x = _
        unfold rfZ
        split
        · exact Or.inl rfl
        · exact Or.inr ⟨_, rfl⟩
      rcases hRet' with ⟨n, hR⟩ | ⟨u, hR⟩
      · exact W.aret (v := conV g (.ref x)) C.1 C.2.1 (hr.trans hR) (Or.inl ⟨n, rfl⟩) hv (fun t ht _ => post (some (.ref x)) t ho1 ht) hf (C.dec heq (by simp [lenI])) hlocks
      · exact W.aret (v := conV g (.ref x)) C.1 C.2.1 (hr.trans hR) (Or.inr ⟨u, rfl⟩) hv (fun t ht _ => post (some (.ref x)) t ho1 ht) hf (C.dec heq (by simp [lenI])) hlocks
    · exact hG.elim
  · rename_i len heq
    rw [heq] at ho
    split at hG
    · rename_i hst hrk
      rw [hrk] at hRet ho
      have ho1 : out.1 = none := congrArg Prod.fst ho
      exact W.vret C.1 C.2.1 (hr.trans hRet) (fun t ht _ => post none t ho1 ht) hf (C.dec heq (by simp [lenI])) hlocks
    · exact hG.elim
  · exact hG.elim
def SimZ (n : Nat) : Prop := ∀ (d k : Nat), k < 271 → ∀ (pc : Nat) (ls st : List Value) (s : AS) (out : Option Value × AS), Run n d (methZ k) (pc, ls, st, s) out → ∀ (X : MC) (g : GE) (E : AS) (cc : ByteArray), CtxZ X g (methZ k) cc → (d + 6 ≤ (xR X).frames ∧ 64 * (d + 6) ≤ (xR X).locals) → (sX out.2 - sX E ≤ (xR X).cells ∧ sZ out.2 - sZ E ≤ (xR X).slots) →
  (∀ pc ls st s, (retI (methZ k) pc st).1 → out = ((retI (methZ k) pc st).2, s) → AtZ X g E (methZ k).2.2.1 pc ls st s) → AtZ X g E (methZ k).2.2.1 pc ls st s
theorem met_of (AL : AllZ) {n : Nat} (hS : SimZ n) (l : Launch) {d k : Nat} (hk : k < 271) {g : GE} {av : List Value} {s : AS} {out : Option Value × AS} (hR : Run n d (methZ k) (0, padV (methZ k).2.2.1 (initV av), [], s) out) (hlen : (initV av).length ≤ (methZ k).2.2.1) :
    Met l (yZ k) (wZ k) (rmZ d (sX out.2 - sX s) (sZ out.2 - sZ s)) (PcZ g av s) (QcZ g out) (sX out.2 - sX s) (sZ out.2 - sZ s) (inW g) := by
  obtain ⟨AC, AM, AO, AA⟩ := AL
  obtain ⟨m1, m2, m3, m4, m5, m6, m7, m8, m9, m10, m11⟩ := AM k hk
  refine Met.ofW (cc := bZ k) (maxL := (methZ k).2.2.1) (ret := rZ k) m1 rfl ?_
  intro p e s0 m args below meth c s₁ B hml hv
  obtain ⟨rfl, hE, hRep, hsz⟩ := hv
  have hts := atoms_spec (ws := wZ k) B.pre
  have hts' : ∀ w ∈ TsZ, w.before (av.map (conV g)).toArray s0 = true := fun w hw => hts w (List.mem_cons_of_mem _ hw)
  have hown : s0.vm.findClass (ownZ (methZ k).2.1) = some m.cls := by rw [← m2]; exact findClass_of_methodNamed B.named
  have hnm : meth.name = (yZ k).name := (name_of_methodNamed B.named B.method).1
  obtain ⟨-, ol, op⟩ := AO _ m11
  rw [lg_entry_eq]
  have C : CtxZ (p, l, e, rmZ d (sX out.2 - sX s) (sZ out.2 - sZ s), s0, m, (av.map (conV g)).toArray, below, meth, c, MQ below (QcZ g out) (av.map (conV g)).toArray s0 (sX out.2 - sX s) (sZ out.2 - sZ s) (inW g)) g (methZ k) (bZ k) :=
    ⟨B.exec, B.bytes, hml, hown, m4, by rw [show xw (p, l, e, rmZ d (sX out.2 - sX s) (sZ out.2 - sZ s), s0, m, (av.map (conV g)).toArray, below, meth, c, MQ below (QcZ g out) (av.map (conV g)).toArray s0 (sX out.2 - sX s) (sZ out.2 - sZ s) (inW g)) = meth from rfl, hnm]; exact m5, m6, ol.lnk hts' hE.2.1, hE.env hts', Nat.le_add_left 6 d, by show 384 ≤ 64 * (d + 6); omega⟩
  have hW := hS d k hk 0 _ [] s out hR _ g s (bZ k) C ⟨Nat.le_refl _, Nat.le_refl _⟩ ⟨Nat.le_refl _, Nat.le_refl _⟩ (p_ret C B.returns m10 B.notSynchronized rfl)
  have hW2 := hW _ s0.heap [] (LVZ.entry hlen) (pad_len hlen) hRep va_S.rf ⟨Nat.le_refl _, Nat.le_refl _⟩ hsz
  rw [Nat.sub_self, Nat.sub_self] at hW2
  exact hW2
theorem goodW {x : Nat} (h : Cond.code (yZ x) (bZ x) (methZ x).2.2.1 (rZ x) ∈ TsZ) : GoodIn TsZ (wZ x) := by
  intro w hw
  rcases List.mem_cons.mp hw with rfl | hw
  · exact ⟨h, goodT h⟩
  · exact ⟨hw, goodT hw⟩
theorem call_stack {g : GE} (as r : List Value) : (as.reverse ++ r).map (conV g) = (as.map (conV g)).reverse ++ r.map (conV g) := by
  rw [List.map_append, List.map_reverse]
theorem recv2 {M : MI} {as : List Value} {s : AS} (h : recvI 2 M as s) : ∃ a l, as = .ref a :: l ∧ sT s a = M.2.1 + 1 := by
  cases as with
  | nil => exact h.elim
  | cons v l => cases v <;> first | exact h.elim | exact ⟨_, _, rfl, h⟩
theorem recv3 {M : MI} {as : List Value} {s : AS} (h : recvI 3 M as s) : ∃ a l, as = .ref a :: l ∧ ¬ a = 0 := by
  cases as with
  | nil => exact h.elim
  | cons v l => cases v <;> first | exact h.elim | exact ⟨_, _, rfl, h⟩
theorem room_le {a b c : Nat} (h1 : a + 1 = b) (h2 : c ≤ 45) : 8 + (c + 11) + 64 * (a + 6) ≤ 64 * (b + 6) := by omega
theorem simZ (AL : AllZ) : ∀ n, SimZ n := by
  intro n
  induction n with
  | zero => intro d k hk pc ls st s out h; exact h.elim
  | succ n ih =>
    intro d k hk pc ls st s out h X g E cc C hF hB HR
    have hmono := Run_mono _ _ _ _ _ h
    obtain ⟨AC, AM, AO, AA⟩ := id AL
    obtain ⟨oc, ol, op⟩ := AO _ (AM k hk).2.2.2.2.2.2.2.2.2.2
    have hE : EnvZ g (xs X) (xa X) := C.2.2.2.2.2.2.2.2.1
    have hts := hE.2.1
    rcases h with ⟨h1, h2⟩ | ⟨h1, h2⟩ | ⟨how, x, na, e, as, r, v, s1, h1, h2, h3, h4, h5, hw, hi, h6, h7⟩
    · exact HR pc ls st s h1 h2
    · have hm2 := Run_mono _ _ _ _ _ h2
      exact z_step C AC (op.prm hts) ⟨hts _ AA.1, hts _ AA.2.1, hts _ AA.2.2⟩ hB h1 hm2 (ih d k hk _ _ _ _ out h2 X g E cc C hF hB HR)
    · dsimp only at h1 h3 h5 h6 h7
      have hm1 := Run_mono _ _ _ _ _ h6
      have hm2 := Run_mono _ _ _ _ _ h7
      dsimp only at hm1 hm2
      subst h3
      have hnext := ih d k hk _ _ _ _ out h7 X g E cc C hF hB HR
      intro A H locs q1 q2 q3 q4 q5 q6
      refine W_size (fun hsz => ?_)
      have hHsz : H.size + 1 = gB g + sX s := by
        have hl := q4.1
        have hgb : gB g ≤ (xs X).heap.size := hE.2.2.2.2.2.2.2.2
        have h1s := q3.2.1.1
        rcases Nat.lt_or_ge 1 (sX s) with hx | hx
        · have hw := wsZ_get (g := g) (s := s) (a := sX s - 1) ⟨by omega, by omega⟩
          have hlt := (q3.1 _ _ hw).lt
          have : gB g + (sX s - 1 - 1) < H.size := hlt
          omega
        · omega
      have hcat := catW (g := g) r
      -- the link
      unfold callZ at h1
      have cont : ∀ {f : JFrame} {a : Array Value}, f = F0 (xm X) pc A ((as.reverse ++ r).map (conV g)) → va_Run X.1 X.2.1 X.2.2.1 X.2.2.2.1 X.2.2.2.2.1 X.2.2.2.2.2.1 X.2.2.2.2.2.2.1 X.2.2.2.2.2.2.2.1 X.2.2.2.2.2.2.2.2.1 X.2.2.2.2.2.2.2.2.2.1 H locs (sX s - sX E) (sZ s - sZ E) (sX s1 - sX s) (sZ s1 - sZ s) f (r.map (conV g)) (QcZ g (v, s1) a) (inW g) → WX X H locs (sX s - sX E) (sZ s - sZ E) f := by
        intro f a hf hrun
        subst hf
        refine W_run hrun (fun v' st₀ t H1 L e0 e1 hq hL => ?_)
        obtain ⟨p1, p2, p3, p4⟩ := hq
        cases p1
        rw [e1] at p2 p3 p4
        rw [e0] at p3 p4
        have hS1 : va_S (inW g) (xs X).heap H1 (locs ++ L) := by
          refine ⟨Nat.le_trans q4.1 p4, fun q hq1 hq2 => ?_, fun q hq => ?_⟩
          · rw [p3 q (Nat.not_le.mp hq2)]
            exact q4.2.1 q hq1 hq2
          · rcases List.mem_append.mp hq with hq | hq
            · exact q4.2.2 q hq
            · exact hL q hq
        have hk := hnext A H1 (locs ++ L) q1 q2 p2 hS1 ⟨by omega, by omega⟩ q6
        rw [show sX s - sX E + (sX s1 - sX s) = sX s1 - sX E by omega, show sZ s - sZ E + (sZ s1 - sZ s) = sZ s1 - sZ E by omega]
        cases v with
        | none => exact hk
        | some v => exact hk
      have hfit : sX s - sX E + (sX s1 - sX s) ≤ X.2.2.2.1.cells ∧ sZ s - sZ E + (sZ s1 - sZ s) ≤ X.2.2.2.1.slots := by
        have hB1 : sX out.2 - sX E ≤ X.2.2.2.1.cells := hB.1
        have hB2 : sZ out.2 - sZ E ≤ X.2.2.2.1.slots := hB.2
        exact ⟨by omega, by omega⟩
      have hroom : ∀ {mL : Nat}, mL ≤ 45 → (rmZ e (sX s1 - sX s) (sZ s1 - sZ s)).frames + 1 ≤ X.2.2.2.1.frames ∧ 8 + (mL + 11) + (rmZ e (sX s1 - sX s) (sZ s1 - sZ s)).locals ≤ X.2.2.2.1.locals := by
        intro mL hmL
        have hF1 : d + 6 ≤ X.2.2.2.1.frames := hF.1
        have hF2 : 64 * (d + 6) ≤ X.2.2.2.1.locals := hF.2
        have w1 : (rmZ e (sX s1 - sX s) (sZ s1 - sZ s)).frames = e + 6 := rfl
        have w2 : (rmZ e (sX s1 - sX s) (sZ s1 - sZ s)).locals = 64 * (e + 6) := rfl
        rw [w1, w2]
        exact ⟨by omega, Nat.le_trans (room_le h2 hmL) hF2⟩
      have pcU : ∀ U : State, U.heap = H → (xs X).WarmedH U.vm → PcZ g as s (as.map (conV g)).toArray U := fun U hU hW => ⟨rfl, hE.envP.go q4 hU hW, by rw [hU]; exact q3, by rw [hU]; exact hHsz⟩
      have hsl : A.size = (methZ k).2.2.1 := by rw [q1.1]; exact q2
      have hstW : 2 * (F0 (xm X) pc A ((as.reverse ++ r).map (conV g))).monitorRoom + ((r.map (conV g)).map fun v => v.category).sum ≤ 8 := by show 2 * 0 + _ ≤ 8; omega
      split at h1
      · rename_i idx len hM
        have hd := C.dec hM (by simp [lenI])
        split at h1
        · rename_i x' na' hlk
          cases h1
          obtain ⟨c1, c2, c3, c4, c5, c6⟩ := oc _ _ _ _ hlk (by decide)
          obtain ⟨n1, n2, n3, n4, n5, n6, n7, n8, n9, n10, n11⟩ := AM x c1
          have hM2 := met_of AL ih X.2.1 c1 (g := g) h6 hi
          rw [if_pos rfl] at h4
          refine cont (a := (as.map (conV g)).toArray) rfl ?_
          rcases c3 with c3 | ⟨hh, c3⟩
          · exact va_runS (Ts := TsZ) (own := ownZ (methZ k).2.1) (As := as.map (conV g)) ⟨C.1, C.2.1, C.2.2.1, C.2.2.2.1, hts⟩ hM2 ⟨callB_of na hts (goodW n3) rfl rfl rfl (hts _ n9) (hts _ c3) ⟨n8.1, n8.2, c2⟩ (hroom n7), hts _ (c4 rfl)⟩ ⟨blindZ, pcU⟩ rfl (by rw [List.length_map]; exact h4) hsl (call_stack as r) hstW hd hfit
          · exact va_runSN (Ts := TsZ) (own := ownZ (methZ k).2.1) (host := hh) (As := as.map (conV g)) ⟨C.1, C.2.1, C.2.2.1, C.2.2.2.1, hts⟩ hM2 ⟨va_cnB na hts (goodW n3) rfl rfl rfl (hE.2.2.1 _ c3) (hts _ n9) ⟨n8.1, n8.2, c2⟩ (hroom n7), hts _ (c4 rfl), trivial⟩ ⟨blindZ, pcU⟩ rfl (by rw [List.length_map]; exact h4) hsl (call_stack as r) hstW hd hfit
        · cases h1
      · rename_i idx len hM
        have hd := C.dec hM (by simp [lenI])
        split at h1
        · rename_i x' na' hlk
          cases h1
          obtain ⟨c1, c2, c3, c4, c5, c6⟩ := oc _ _ _ _ hlk (by decide)
          obtain ⟨n1, n2, n3, n4, n5, n6, n7, n8, n9, n10, n11⟩ := AM x c1
          obtain ⟨i1, i2, i3⟩ := c5 rfl
          have hM2 := met_of AL ih X.2.1 c1 (g := g) h6 hi
          rw [if_neg (by decide)] at h4
          obtain ⟨a, as', rfl, h5'⟩ := recv2 h5
          have hpl := q3.2.place (a := a) (by omega) (by omega)
          have hcell := va_recv hE.1 q3.1 (AC _ i3).1 (by rw [wsZ_get hpl, celZ_obj h5' i3])
          have hcls : clC (methZ x).2.1 = (yZ x).cls := by
            rw [n2]
            have : ∀ o, o < 13 → clC o = ownZ o := by decide +kernel
            exact this _ i3
          refine cont (a := (Value.ref (gB g + (a - 1)) :: as'.map (conV g)).toArray) rfl ?_
          have hst : (((Value.ref a :: as').reverse ++ r).map (conV g)) = (as'.map (conV g)).reverse ++ .ref (gB g + (a - 1)) :: r.map (conV g) := by
            rw [call_stack, List.map_cons, List.reverse_cons, conV_ref q3.2 hpl, List.append_assoc]
            rfl
          have pcU' : ∀ U : State, U.heap = H → (xs X).WarmedH U.vm → PcZ g (.ref a :: as') s (Value.ref (gB g + (a - 1)) :: as'.map (conV g)).toArray U := by
            intro U hU hW
            have := pcU U hU hW
            rw [List.map_cons, conV_ref q3.2 hpl] at this
            exact this
          have hl4 : (as'.map (conV g)).length = na := by rw [List.length_map]; simpa using h4
          rcases c3 with c3 | ⟨hh, c3⟩
          · exact va_runV (Ts := TsZ) (own := ownZ (methZ k).2.1) (C := (yZ x).cls) (As := as'.map (conV g)) ⟨C.1, C.2.1, C.2.2.1, C.2.2.2.1, hts⟩ hM2 ⟨callB_of na hts (goodW n3) rfl rfl rfl (hts _ n9) (hts _ c3) ⟨n8.1, n8.2, c2⟩ (hroom n7), hts _ i1, hts _ i2⟩ ⟨blindZ, by rw [← hcls]; exact hcell, pcU'⟩ rfl hl4 hsl hst hstW hd hfit
          · exact va_runVN (Ts := TsZ) (own := ownZ (methZ k).2.1) (C := (yZ x).cls) (host := hh) (As := as'.map (conV g)) ⟨C.1, C.2.1, C.2.2.1, C.2.2.2.1, hts⟩ hM2 ⟨va_cnB na hts (goodW n3) rfl rfl rfl (hE.2.2.1 _ c3) (hts _ n9) ⟨n8.1, n8.2, c2⟩ (hroom n7), hts _ i1, hts _ i2⟩ ⟨blindZ, by rw [← hcls]; exact hcell, pcU'⟩ rfl hl4 hsl hst hstW hd hfit
        · cases h1
      · rename_i idx len hM
        have hd := C.dec hM (by simp [lenI])
        split at h1
        · rename_i x' na' hlk
          cases h1
          obtain ⟨c1, c2, c3, c4, c5, c6⟩ := oc _ _ _ _ hlk (by decide)
          obtain ⟨n1, n2, n3, n4, n5, n6, n7, n8, n9, n10, n11⟩ := AM x c1
          obtain ⟨i1, i2, i3⟩ := c6 rfl
          have hM2 := met_of AL ih X.2.1 c1 (g := g) h6 hi
          rw [if_neg (by decide)] at h4
          obtain ⟨a, as', rfl, h5'⟩ := recv3 h5
          have hca : conV g (.ref a) = .ref (adZ g a) := by show rfZ g a = _; unfold rfZ; rw [if_neg h5']
          refine cont (a := (Value.ref (adZ g a) :: as'.map (conV g)).toArray) rfl ?_
          have hst : (((Value.ref a :: as').reverse ++ r).map (conV g)) = (as'.map (conV g)).reverse ++ .ref (adZ g a) :: r.map (conV g) := by
            rw [call_stack, List.map_cons, List.reverse_cons, hca, List.append_assoc]
            rfl
          have pcU' : ∀ U : State, U.heap = H → (xs X).WarmedH U.vm → PcZ g (.ref a :: as') s (Value.ref (adZ g a) :: as'.map (conV g)).toArray U := by
            intro U hU hW
            have := pcU U hU hW
            rw [List.map_cons, hca] at this
            exact this
          have hl4 : (as'.map (conV g)).length = na := by rw [List.length_map]; simpa using h4
          have hn3 : Cond.code (yZ x) (bZ x) (methZ x).2.2.1 none ∈ TsZ := by rw [← i3]; exact n3
          have hwq : wZ x = Cond.code (yZ x) (bZ x) (methZ x).2.2.1 none :: TsZ := by rw [← i3]
          rcases c3 with c3 | ⟨hh, c3⟩
          · exact va_runI (Ts := TsZ) (own := ownZ (methZ k).2.1) (As := as'.map (conV g)) ⟨C.1, C.2.1, C.2.2.1, C.2.2.2.1, hts⟩ hM2 ⟨callB_of na hts (goodW n3) hwq rfl rfl (hts _ n9) (hts _ c3) ⟨n8.1, n8.2, c2⟩ (hroom n7), i2, hts _ i1⟩ ⟨blindZ, pcU'⟩ rfl hl4 hsl hst hstW hd hfit
          · exact va_runIN (Ts := TsZ) (own := ownZ (methZ k).2.1) (host := hh) (As := as'.map (conV g)) ⟨C.1, C.2.1, C.2.2.1, C.2.2.2.1, hts⟩ hM2 ⟨va_cnB na hts (goodW n3) hwq rfl rfl (hE.2.2.1 _ c3) (hts _ n9) ⟨n8.1, n8.2, c2⟩ (hroom n7), i2, hts _ i1⟩ ⟨blindZ, pcU'⟩ rfl hl4 hsl hst hstW hd hfit
        · cases h1
      · cases h1
