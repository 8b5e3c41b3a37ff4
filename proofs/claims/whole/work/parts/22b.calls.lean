/-! A CALL, on both (gen22.py) -/
theorem vie_W {P : PG} {a : Int} {vw : (Int → Int) × Int} (hP : PgH P) (hv : 0 ≤ vw.2 ∧ vw.2 ≤ 200) : 0 ≤ (vieW P a vw).2 ∧ (vieW P a vw).2 ≤ 200 := by
  unfold vieW
  by_cases r : recP P a
  · obtain ⟨⟨hI, rk, hL⟩, wt, hwt⟩ := hP
    have hs := size_rec hI.1.1 hL hwt r
    rw [if_pos r]
    exact ⟨hs.1, hs.2.1⟩
  · rw [if_neg r]
    exact hv
section STP
variable {L : Nat} {xs : Nat → Int32} {s : AS} {cn : Nat}
theorem st_terms (h : Bth L xs s cn) (hn : cn + 1 ≤ 600) {x1 x2 : Int32} : StO L xs (f_C_terms s 1 x1 x2) (fun s1 => f_M_terms s1 78 x1 x2) (cn + 1) := by
  obtain ⟨⟨D, tp, se, P, LG, IM, ms, vw, dr, A, h1, m1, r1, w1, w2, w3, w4, w5, w6⟩, t, sc⟩ := h
  obtain ⟨y1, z1, e1⟩ := v_of x1
  subst e1
  obtain ⟨y2, z2, e2⟩ := v_of x2
  subst e2
  exact go_O m1 t sc (c_terms h1 t z1 z2) (fun s1 m => r_terms m r1 z1 z2) ⟨w1, trmS_W w2, w3, w4, w5, w6⟩ (by omega)
theorem st_feed (h : Bth L xs s cn) (hn : cn + 1 ≤ 600) {x1 x2 x3 x4 x5 : Int32} : StO L xs (f_C_feed s 1 x1 x2 x3 x4 x5) (fun s1 => f_M_feed s1 78 x1 x2 x3 x4 x5) (cn + 1) := by
  obtain ⟨⟨D, tp, se, P, LG, IM, ms, vw, dr, A, h1, m1, r1, w1, w2, w3, w4, w5, w6⟩, t, sc⟩ := h
  exact go_O m1 t sc (c_feed h1 w1 x1 x2 x3 x4 x5) (fun s1 m => r_feed m r1 w1 x1 x2 x3 x4 x5) ⟨fed_B w1, w2, w3, w4, w5, w6⟩ (by omega)
theorem st_end (h : Bth L xs s cn) (hn : cn + 1 ≤ 600) {x1 : Int32} : StO L xs (f_C_end s 1 x1) (fun s1 => f_M_end s1 78 x1) (cn + 1) := by
  obtain ⟨⟨D, tp, se, P, LG, IM, ms, vw, dr, A, h1, m1, r1, w1, w2, w3, w4, w5, w6⟩, t, sc⟩ := h
  obtain ⟨y1, z1, e1⟩ := v_of x1
  subst e1
  exact go_O m1 t sc (c_end h1 w1 z1) (fun s1 m => r_end m r1 w1 z1) ⟨end_B w1, w2, w3, w4, w5, w6⟩ (by omega)
theorem st_law (h : Bth L xs s cn) (hn : cn + 1 ≤ 600) : StO L xs (f_C_law s 1) (fun s1 => f_M_law s1 78) (cn + 1) := by
  obtain ⟨⟨D, tp, se, P, LG, IM, ms, vw, dr, A, h1, m1, r1, w1, w2, w3, w4, w5, w6⟩, t, sc⟩ := h
  exact go_O m1 t sc (c_law h1 w1 w2 hn) (fun s1 m => r_law m r1 w2) ⟨w1.nil, law_W w2, w3, w4, w5, w6⟩ (by omega)
theorem st_orders (h : Bth L xs s cn) (hn : cn + 1 ≤ 600) : StO L xs (f_C_orders s 1) (fun s1 => f_M_orders s1 78) (cn + 1) := by
  obtain ⟨⟨D, tp, se, P, LG, IM, ms, vw, dr, A, h1, m1, r1, w1, w2, w3, w4, w5, w6⟩, t, sc⟩ := h
  exact go_O m1 t sc (c_orders h1 w1 w2 w3 w4.1) (fun s1 m => r_orders m r1 w2 w3) ⟨w1.nil, w2, (ord_W w2 w3 w4).1, (ord_W w2 w3 w4).2, w5, w6⟩ (by omega)
theorem st_fault (h : Bth L xs s cn) (hn : cn + 1 ≤ 600) : StP L xs (f_C_fault s 1) (f_M_fault s 78) (cn + 1) := by
  obtain ⟨⟨D, tp, se, P, LG, IM, ms, vw, dr, A, h1, m1, r1, w1, w2, w3, w4, w5, w6⟩, t, sc⟩ := h
  exact go_P h1 t sc (c_fault h1) (r_fault m1 r1) ⟨w1, w2, w3, w4, w5, w6⟩ (by omega)
theorem st_stopped (h : Bth L xs s cn) (hn : cn + 1 ≤ 600) : StP L xs (f_C_stopped s 1) (f_M_stopped s 78) (cn + 1) := by
  obtain ⟨⟨D, tp, se, P, LG, IM, ms, vw, dr, A, h1, m1, r1, w1, w2, w3, w4, w5, w6⟩, t, sc⟩ := h
  exact go_P h1 t sc (c_stopped h1) (r_stopped m1 r1) ⟨w1, w2, w3, w4, w5, w6⟩ (by omega)
theorem st_force (h : Bth L xs s cn) (hn : cn + 1 ≤ 600) {x1 : Int32} : StO L xs (f_C_force s 1 x1) (fun s1 => f_M_force s1 78 x1) (cn + 1) := by
  obtain ⟨⟨D, tp, se, P, LG, IM, ms, vw, dr, A, h1, m1, r1, w1, w2, w3, w4, w5, w6⟩, t, sc⟩ := h
  obtain ⟨y1, z1, e1⟩ := v_of x1
  subst e1
  exact go_O m1 t sc (c_force h1 w2 z1) (fun s1 m => r_force m r1 w2 z1) ⟨w1, frcS_W w2, w3, w4, w5, w6⟩ (by omega)
theorem st_put (h : Bth L xs s cn) (hn : cn + 1 ≤ 600) : StO L xs (f_C_put s 1) (fun s1 => f_M_put s1 78) (cn + 1) := by
  obtain ⟨⟨D, tp, se, P, LG, IM, ms, vw, dr, A, h1, m1, r1, w1, w2, w3, w4, w5, w6⟩, t, sc⟩ := h
  exact go_O m1 t sc (c_put h1 w1 w2 w3 w4.1) (fun s1 m => r_put m r1 w1 w2 w3) ⟨w1.nil, w2, (put_W w1 w3 w4).1, (put_W w1 w3 w4).2, w5, w6⟩ (by omega)
theorem st_rewrite (h : Bth L xs s cn) (hn : cn + 1 ≤ 600) {x1 : Int32} : StO L xs (f_C_rewrite s 1 x1) (fun s1 => f_M_rewrite s1 78 x1) (cn + 1) := by
  obtain ⟨⟨D, tp, se, P, LG, IM, ms, vw, dr, A, h1, m1, r1, w1, w2, w3, w4, w5, w6⟩, t, sc⟩ := h
  obtain ⟨y1, z1, e1⟩ := v_of x1
  subst e1
  exact go_O m1 t sc (c_rewrite h1 w1 w2 w3 w4.1 z1) (fun s1 m => r_rewrite m r1 w1 w2 w3 z1) ⟨w1.nil, w2, (rew_W w1 w3 w4).1, (rew_W w1 w3 w4).2, w5, w6⟩ (by omega)
theorem st_drop (h : Bth L xs s cn) (hn : cn + 1 ≤ 600) {x1 : Int32} : StO L xs (f_C_drop s 1 x1) (fun s1 => f_M_drop s1 78 x1) (cn + 1) := by
  obtain ⟨⟨D, tp, se, P, LG, IM, ms, vw, dr, A, h1, m1, r1, w1, w2, w3, w4, w5, w6⟩, t, sc⟩ := h
  obtain ⟨y1, z1, e1⟩ := v_of x1
  subst e1
  exact go_O m1 t sc (c_drop h1 w2 w3 w4.1 z1) (fun s1 m => r_drop m r1 w2 w3 z1) ⟨w1, w2, (drop_W w3 w4).1, (drop_W w3 w4).2, w5, w6⟩ (by omega)
theorem st_pack (h : Bth L xs s cn) (hn : cn + 1 ≤ 600) {x1 : Int32} : StO L xs (f_C_pack s 1 x1) (fun s1 => f_M_pack s1 78 x1) (cn + 1) := by
  obtain ⟨⟨D, tp, se, P, LG, IM, ms, vw, dr, A, h1, m1, r1, w1, w2, w3, w4, w5, w6⟩, t, sc⟩ := h
  obtain ⟨y1, z1, e1⟩ := v_of x1
  subst e1
  exact go_O m1 t sc (c_pack h1 w2 w3 w4.1 z1) (fun s1 m => r_pack m r1 w2 w3 z1) ⟨w1, w2, (pack_W w3 w4).1, (pack_W w3 w4).2, w5, w6⟩ (by omega)
theorem st_mend (h : Bth L xs s cn) (hn : cn + 1 ≤ 600) : StO L xs (f_C_mend s 1) (fun s1 => f_M_mend s1 78) (cn + 1) := by
  obtain ⟨⟨D, tp, se, P, LG, IM, ms, vw, dr, A, h1, m1, r1, w1, w2, w3, w4, w5, w6⟩, t, sc⟩ := h
  exact go_O m1 t sc (c_mend h1 w2 w3 w4.1) (fun s1 m => r_mend m r1 w2 w3) ⟨w1, w2, mend_H 8 0 0 P (by decide) (by decide) w3, push_W w4 w3 (by decide), w5, w6⟩ (by omega)
theorem st_undo (h : Bth L xs s cn) (hn : cn + 1 ≤ 600) : StO L xs (f_C_undo s 1) (fun s1 => f_M_undo s1 78) (cn + 1) := by
  obtain ⟨⟨D, tp, se, P, LG, IM, ms, vw, dr, A, h1, m1, r1, w1, w2, w3, w4, w5, w6⟩, t, sc⟩ := h
  exact go_O m1 t sc (c_undo h1 w4) (fun s1 m => r_undo m r1 w4) ⟨w1, w2, (und_W w3 w4).1, (und_W w3 w4).2, w5, w6⟩ (by omega)
theorem st_view (h : Bth L xs s cn) (hn : cn + 1 ≤ 600) {x1 : Int32} : StO L xs (f_C_view s 1 x1) (fun s1 => f_M_view s1 78 x1) (cn + 1) := by
  obtain ⟨⟨D, tp, se, P, LG, IM, ms, vw, dr, A, h1, m1, r1, w1, w2, w3, w4, w5, w6⟩, t, sc⟩ := h
  obtain ⟨y1, z1, e1⟩ := v_of x1
  subst e1
  exact go_O m1 t sc (c_view h1 w3 z1) (fun s1 m => r_view m r1 w3 z1) ⟨w1, w2, w3, w4, w5, vie_W w3 w6⟩ (by omega)
theorem st_sign (h : Bth L xs s cn) (hn : cn + 1 ≤ 600) {x1 : Int32} : StP L xs (f_C_sign s 1 x1) (f_M_sign s 78 x1) (cn + 1) := by
  obtain ⟨⟨D, tp, se, P, LG, IM, ms, vw, dr, A, h1, m1, r1, w1, w2, w3, w4, w5, w6⟩, t, sc⟩ := h
  obtain ⟨y1, z1, e1⟩ := v_of x1
  subst e1
  exact go_P h1 t sc (c_sign h1 w6 z1) (r_sign m1 r1 w6 z1) ⟨w1, w2, w3, w4, w5, w6⟩ (by omega)
theorem st_page (h : Bth L xs s cn) (hn : cn + 1 ≤ 600) {x1 x2 : Int32} : StP L xs (f_C_page s 1 x1 x2) (f_M_page s 78 x1 x2) (cn + 1) := by
  obtain ⟨⟨D, tp, se, P, LG, IM, ms, vw, dr, A, h1, m1, r1, w1, w2, w3, w4, w5, w6⟩, t, sc⟩ := h
  obtain ⟨y1, z1, e1⟩ := v_of x1
  subst e1
  obtain ⟨y2, z2, e2⟩ := v_of x2
  subst e2
  exact go_P h1 t sc (c_page h1.lv w3 z1 z2) (r_page m1 r1 w3 z1 z2) ⟨w1, w2, w3, w4, w5, w6⟩ (by omega)
theorem st_slot (h : Bth L xs s cn) (hn : cn + 1 ≤ 600) {x1 x2 x3 : Int32} : StP L xs (f_C_slot s 1 x1 x2 x3) (f_M_slot s 78 x1 x2 x3) (cn + 1) := by
  obtain ⟨⟨D, tp, se, P, LG, IM, ms, vw, dr, A, h1, m1, r1, w1, w2, w3, w4, w5, w6⟩, t, sc⟩ := h
  obtain ⟨y1, z1, e1⟩ := v_of x1
  subst e1
  obtain ⟨y2, z2, e2⟩ := v_of x2
  subst e2
  obtain ⟨y3, z3, e3⟩ := v_of x3
  subst e3
  exact go_P h1 t sc (c_slot h1.lv w3 z1 z2 z3) (r_slot m1 r1 w3 z1 z2 z3) ⟨w1, w2, w3, w4, w5, w6⟩ (by omega)
theorem st_map (h : Bth L xs s cn) (hn : cn + 1 ≤ 600) {x1 : Int32} : StP L xs (f_C_map s 1 x1) (f_M_map s 78 x1) (cn + 1) := by
  obtain ⟨⟨D, tp, se, P, LG, IM, ms, vw, dr, A, h1, m1, r1, w1, w2, w3, w4, w5, w6⟩, t, sc⟩ := h
  obtain ⟨y1, z1, e1⟩ := v_of x1
  subst e1
  exact go_P h1 t sc (c_map h1.lv w3 z1) (r_map m1 r1 w3 z1) ⟨w1, w2, w3, w4, w5, w6⟩ (by omega)
theorem st_search (h : Bth L xs s cn) (hn : cn + 1 ≤ 600) {x1 : Int32} : StO L xs (f_C_search s 1 x1) (fun s1 => f_M_search s1 78 x1) (cn + 1) := by
  obtain ⟨⟨D, tp, se, P, LG, IM, ms, vw, dr, A, h1, m1, r1, w1, w2, w3, w4, w5, w6⟩, t, sc⟩ := h
  obtain ⟨y1, z1, e1⟩ := v_of x1
  subst e1
  exact go_O m1 t sc (c_search h1 w2 w3 z1) (fun s1 m => r_search m r1 w2 w3 z1) ⟨w1, w2, w3, w4, w5, w6⟩ (by omega)
theorem st_scan (h : Bth L xs s cn) (hn : cn + 1 ≤ 600) {x1 : Int32} : StP L xs (f_C_scan s 1 x1) (f_M_scan s 78 x1) (cn + 1) := by
  obtain ⟨⟨D, tp, se, P, LG, IM, ms, vw, dr, A, h1, m1, r1, w1, w2, w3, w4, w5, w6⟩, t, sc⟩ := h
  obtain ⟨y1, z1, e1⟩ := v_of x1
  subst e1
  exact go_P h1 t sc (c_scan h1.lv w3 z1) (r_scan m1 r1 w3 z1) ⟨w1, w2, w3, w4, w5, w6⟩ (by omega)
theorem st_above (h : Bth L xs s cn) (hn : cn + 1 ≤ 600) {x1 : Int32} : StP L xs (f_C_above s 1 x1) (f_M_above s 78 x1) (cn + 1) := by
  obtain ⟨⟨D, tp, se, P, LG, IM, ms, vw, dr, A, h1, m1, r1, w1, w2, w3, w4, w5, w6⟩, t, sc⟩ := h
  obtain ⟨y1, z1, e1⟩ := v_of x1
  subst e1
  exact go_P h1 t sc (c_above h1.lv w3 z1) (r_above m1 r1 w3 z1) ⟨w1, w2, w3, w4, w5, w6⟩ (by omega)
theorem st_pieces (h : Bth L xs s cn) (hn : cn + 1 ≤ 600) {x1 x2 : Int32} : StP L xs (f_C_pieces s 1 x1 x2) (f_M_pieces s 78 x1 x2) (cn + 1) := by
  obtain ⟨⟨D, tp, se, P, LG, IM, ms, vw, dr, A, h1, m1, r1, w1, w2, w3, w4, w5, w6⟩, t, sc⟩ := h
  obtain ⟨y1, z1, e1⟩ := v_of x1
  subst e1
  obtain ⟨y2, z2, e2⟩ := v_of x2
  subst e2
  exact go_P h1 t sc (c_pieces h1.lv w3 z1 z2) (r_pieces m1 r1 w3 z1 z2) ⟨w1, w2, w3, w4, w5, w6⟩ (by omega)
theorem st_sorted (h : Bth L xs s cn) (hn : cn + 1 ≤ 600) {x1 : Int32} : StP L xs (f_C_sorted s 1 x1) (f_M_sorted s 78 x1) (cn + 1) := by
  obtain ⟨⟨D, tp, se, P, LG, IM, ms, vw, dr, A, h1, m1, r1, w1, w2, w3, w4, w5, w6⟩, t, sc⟩ := h
  obtain ⟨y1, z1, e1⟩ := v_of x1
  subst e1
  exact go_P h1 t sc (c_sorted h1.lv w3 z1) (r_sorted m1 r1 w3 z1) ⟨w1, w2, w3, w4, w5, w6⟩ (by omega)
theorem st_find (h : Bth L xs s cn) (hn : cn + 1 ≤ 600) : StO L xs (f_C_find s 1) (fun s1 => f_M_find s1 78) (cn + 1) := by
  obtain ⟨⟨D, tp, se, P, LG, IM, ms, vw, dr, A, h1, m1, r1, w1, w2, w3, w4, w5, w6⟩, t, sc⟩ := h
  exact go_O m1 t sc (c_find h1 w1 w3) (fun s1 m => r_find m r1 w1 w3) ⟨w1.nil, w2, w3, w4, w5, w6⟩ (by omega)
theorem st_fit (h : Bth L xs s cn) (hn : cn + 1 ≤ 600) {x1 : Int32} : StO L xs (f_C_fit s 1 x1) (fun s1 => f_M_fit s1 78 x1) (cn + 1) := by
  obtain ⟨⟨D, tp, se, P, LG, IM, ms, vw, dr, A, h1, m1, r1, w1, w2, w3, w4, w5, w6⟩, t, sc⟩ := h
  obtain ⟨y1, z1, e1⟩ := v_of x1
  subst e1
  exact go_O m1 t sc (c_fit h1 w2 w3 z1) (fun s1 m => r_fit m r1 w2 w3 z1) ⟨w1, w2, w3, w4, w5, w6⟩ (by omega)
theorem st_worst (h : Bth L xs s cn) (hn : cn + 1 ≤ 600) {x1 : Int32} : StP L xs (f_C_worst s 1 x1) (f_M_worst s 78 x1) (cn + 1) := by
  obtain ⟨⟨D, tp, se, P, LG, IM, ms, vw, dr, A, h1, m1, r1, w1, w2, w3, w4, w5, w6⟩, t, sc⟩ := h
  obtain ⟨y1, z1, e1⟩ := v_of x1
  subst e1
  exact go_P h1 t sc (c_worst h1.lv w3 z1) (r_worst m1 r1 w3 z1) ⟨w1, w2, w3, w4, w5, w6⟩ (by omega)
theorem st_few (h : Bth L xs s cn) (hn : cn + 1 ≤ 600) {x1 x2 : Int32} : StW L xs (f_C_few s 1 x1 x2) (fun s1 => f_M_few s1 78 x1 x2) (cn + 1) := by
  obtain ⟨⟨D, tp, se, P, LG, IM, ms, vw, dr, A, h1, m1, r1, w1, w2, w3, w4, w5, w6⟩, t, sc⟩ := h
  obtain ⟨y1, z1, e1⟩ := v_of x1
  subst e1
  obtain ⟨y2, z2, e2⟩ := v_of x2
  subst e2
  exact go_W m1 t sc (c_few h1 w2 z1 z2) (fun s1 m => r_few m r1 w2 z1 z2) ⟨w1, w2, w3, w4, w5, w6⟩ (by omega)
theorem st_compare (h : Bth L xs s cn) (hn : cn + 1 ≤ 600) {x1 x2 : Int32} : StO L xs (f_C_compare s 1 x1 x2) (fun s1 => f_M_compare s1 78 x1 x2) (cn + 1) := by
  obtain ⟨⟨D, tp, se, P, LG, IM, ms, vw, dr, A, h1, m1, r1, w1, w2, w3, w4, w5, w6⟩, t, sc⟩ := h
  obtain ⟨y1, z1, e1⟩ := v_of x1
  subst e1
  obtain ⟨y2, z2, e2⟩ := v_of x2
  subst e2
  exact go_O m1 t sc (c_compare h1 w2 w3 z1 z2) (fun s1 m => r_compare m r1 w2 w3 z1 z2) ⟨w1, w2, w3, w4, w5, w6⟩ (by omega)
theorem st_days (h : Bth L xs s cn) (hn : cn + 1 ≤ 600) {x1 x2 : Int32} : StO L xs (f_C_days s 1 x1 x2) (fun s1 => f_M_days s1 78 x1 x2) (cn + 1) := by
  obtain ⟨⟨D, tp, se, P, LG, IM, ms, vw, dr, A, h1, m1, r1, w1, w2, w3, w4, w5, w6⟩, t, sc⟩ := h
  obtain ⟨y1, z1, e1⟩ := v_of x1
  subst e1
  obtain ⟨y2, z2, e2⟩ := v_of x2
  subst e2
  exact go_O m1 t sc (c_days h1 w2 w3 z1 z2) (fun s1 m => r_days m r1 w2 w3 z1 z2) ⟨w1, w2, w3, w4, w5, w6⟩ (by omega)
theorem st_drawn (h : Bth L xs s cn) (hn : cn + 1 ≤ 600) {x1 x2 : Int32} : StP L xs (f_C_drawn s 1 x1 x2) (f_M_drawn s 78 x1 x2) (cn + 1) := by
  obtain ⟨⟨D, tp, se, P, LG, IM, ms, vw, dr, A, h1, m1, r1, w1, w2, w3, w4, w5, w6⟩, t, sc⟩ := h
  obtain ⟨y1, z1, e1⟩ := v_of x1
  subst e1
  obtain ⟨y2, z2, e2⟩ := v_of x2
  subst e2
  exact go_P h1 t sc (c_drawn h1 z1 z2) (r_drawn m1 r1 z1 z2) ⟨w1, w2, w3, w4, w5, w6⟩ (by omega)
theorem st_image (h : Bth L xs s cn) (hn : cn + 1 ≤ 600) {x1 : Int32} : StO L xs (f_C_image s 1 x1) (fun s1 => f_M_image s1 78 x1) (cn + 1) := by
  obtain ⟨⟨D, tp, se, P, LG, IM, ms, vw, dr, A, h1, m1, r1, w1, w2, w3, w4, w5, w6⟩, t, sc⟩ := h
  obtain ⟨y1, z1, e1⟩ := v_of x1
  subst e1
  exact go_O m1 t sc (c_image h1 w2 z1) (fun s1 m => r_image m r1 (fun k x hk => (w5 k x hk).1) w2 z1) ⟨w1, w2, w3, w4, img_W w5 w2 w3, w6⟩ (by omega)
theorem st_back (h : Bth L xs s cn) (hn : cn + 1 ≤ 600) {x1 : Int32} : StO L xs (f_C_back s 1 x1) (fun s1 => f_M_back s1 78 x1) (cn + 1) := by
  obtain ⟨⟨D, tp, se, P, LG, IM, ms, vw, dr, A, h1, m1, r1, w1, w2, w3, w4, w5, w6⟩, t, sc⟩ := h
  obtain ⟨y1, z1, e1⟩ := v_of x1
  subst e1
  exact go_O m1 t sc (c_back h1 (fun k x hk => (w5 k x hk).1) z1) (fun s1 m => r_back m r1 (fun k x hk => (w5 k x hk).1) z1) ⟨w1, (bck_W w5 w2 w3 w4).1.1, (bck_W w5 w2 w3 w4).1.2, (bck_W w5 w2 w3 w4).2, w5, w6⟩ (by omega)
theorem st_count (h : Bth L xs s cn) (hn : cn + 1 ≤ 600) {x1 : Int32} : StP L xs (f_C_count s 1 x1) (f_M_count s 78 x1) (cn + 1) := by
  obtain ⟨⟨D, tp, se, P, LG, IM, ms, vw, dr, A, h1, m1, r1, w1, w2, w3, w4, w5, w6⟩, t, sc⟩ := h
  obtain ⟨y1, z1, e1⟩ := v_of x1
  subst e1
  exact go_P h1 t sc (c_count h1 w3 z1) (r_count m1 r1 w3 z1) ⟨w1, w2, w3, w4, w5, w6⟩ (by omega)
theorem st_status (h : Bth L xs s cn) (hn : cn + 1 ≤ 600) : StP L xs (f_C_status s 1) (f_M_status s 78) (cn + 1) := by
  obtain ⟨⟨D, tp, se, P, LG, IM, ms, vw, dr, A, h1, m1, r1, w1, w2, w3, w4, w5, w6⟩, t, sc⟩ := h
  exact go_P h1 t sc (c_status h1) (r_status m1 r1) ⟨w1, w2, w3, w4, w5, w6⟩ (by omega)
end STP
