theorem inJ6_X2_roadsAhead : Cond.initialized RJ6 ∈ wsX2_roadsAhead := by decide +kernel
theorem ml86_X2_roadsAhead : Cond.methodLink RX2 86 yJ6_bitCount_0f7a4 ∈ wsX2_roadsAhead := by decide +kernel
theorem stJ6_X2_roadsAhead : Cond.static yJ6_bitCount_0f7a4 ∈ wsX2_roadsAhead := by decide +kernel
theorem iw_X2_roadsAhead_2 : ∀ w ∈ u_ws RX2 TX2 9, w ∈ wsX2_roadsAhead := by decide +kernel
theorem fl_X2_roadsAhead_27 : Cond.fieldLink RX2 27 (TX2 0).1 (TX2 0).2.1 (TX2 0).2.2.1 ∈ wsX2_roadsAhead := by decide +kernel
theorem iw_X2_roadsAhead_3 : ∀ w ∈ u_ws RX3 TX3 6, w ∈ wsX2_roadsAhead := by decide +kernel
theorem fl_X2_roadsAhead_71 : Cond.fieldLink RX2 71 (TX3 1).1 (TX3 1).2.1 (TX3 1).2.2.1 ∈ wsX2_roadsAhead := by decide +kernel
theorem inX4_X2_roadsAhead : Cond.initialized RX4 ∈ wsX2_roadsAhead := by decide +kernel
theorem stX4_contains_X2_roadsAhead : Cond.static yX4_contains ∈ wsX2_roadsAhead := by decide +kernel
set_option maxHeartbeats 400000 in
set_option maxRecDepth 100000 in
theorem c_X2_roadsAhead (l : Launch) (E : EE) (sz : Nat) (s0 t0 sP sD sS sL sF q1 q2 q3 q4 : Nat) (sc : Int32) (k : Nat) (pc ds pr : Int32) (x r : Nat) (ow : Int32) (po lS : Nat → Int32) (g1 : x < 16) (g2 : r < 30) (gk : k ≤ 30) : Ci l yX2_roadsAhead wsX2_roadsAhead 2 44 E [.ref s0, .int (nI x), .int (nI r), .int ow] [(s0, .inr (2, [.ref t0, .ref sP, .ref sD, .ref sS, .ref sL, .ref sF, .int pc, .int ds, .int pr])), (t0, .inr (3, [.int sc, .int (nI k), .ref q1, .ref q2, .ref q3, .ref q4])), (sP, aI E 16 po), (sL, aI E 30 lS)] sz (nI (rAh po lS x r ow k)) [(s0, .inr (2, [.ref t0, .ref sP, .ref sD, .ref sS, .ref sL, .ref sF, .int pc, .int ds, .int pr])), (t0, .inr (3, [.int sc, .int (nI k), .ref q1, .ref q2, .ref q3, .ref q4])), (sP, aI E 16 po), (sL, aI E 30 lS)] := by
  refine C_of (QQ := QI E (nI (rAh po lS x r ow k)) [(s0, .inr (2, [.ref t0, .ref sP, .ref sD, .ref sS, .ref sL, .ref sF, .int pc, .int ds, .int pr])), (t0, .inr (3, [.int sc, .int (nI k), .ref q1, .ref q2, .ref q3, .ref q4])), (sP, aI E 16 po), (sL, aI E 30 lS)]) (cc := cX2_roadsAhead) (maxL := 7) (ret := (some .int)) (by decide +kernel) rfl (Nat.le_of_ble_eq_true rfl) ?_
  intro p e s m args below meth c A R Q ls hx hb hr hts hown hml hlocks hA hK hN hP hD hS hl hR hQ
  have hown : s.vm.findClass RX2 = some m.cls := hown
  have hl : lv_has ls 7 [(0, .ref s0), (1, .int (nI x)), (2, .int (nI r)), (3, .int ow)] := hl
  refine lv_aload_n hx hb dX2_roadsAhead_0 rfl (lv_at hl 0 rfl) ?_
  refine lv_iload_n hx hb dX2_roadsAhead_1 rfl (lv_at hl 1 rfl) ?_
  refine lv_iload_n hx hb dX2_roadsAhead_2 rfl (lv_at hl 2 rfl) ?_
  refine kV_i (E := E) (As := [.int (nI x), .int (nI r)]) (rest := []) (wr := [(t0, .inr (3, [.int sc, .int (nI k), .ref q1, .ref q2, .ref q3, .ref q4]))]) ⟨hx, hb, hml, hown, hts⟩ (c_X2_squaresBehind (l := l) (E := E) (sz := _) (s0 := s0) (t0 := t0) (sP := sP) (sD := sD) (sS := sS) (sL := sL) (sF := sF) (q1 := 0) (q2 := 0) (q3 := 0) (q4 := 0) (pc := pc) (ds := ds) (pr := pr) (x := x) (r := r) (po := po) (lS := lS) (g1 := by first | assumption | omega) (g2 := by first | assumption | omega)) (cwV 2 hts gX2_roadsAhead_X2_squaresBehind rfl rfl rfl (by decide +kernel) ⟨by rw [hR]; decide, by rw [hR]; decide⟩) hK hN hP hD hS hA [0, 2, 3] [1] rfl (by decide) rfl (by decide) (by decide) 0 2 rfl rfl rfl hl.1 rfl (Nat.le_of_ble_eq_true rfl) dX2_roadsAhead_3 ⟨Nat.zero_le _, Nat.zero_le _⟩ (fun H locs hP hD hS => ?_)
  have hP : va_P E.1 vwCl [(t0, .inr (3, [.int sc, .int (nI k), .ref q1, .ref q2, .ref q3, .ref q4])), (s0, .inr (2, [.ref t0, .ref sP, .ref sD, .ref sS, .ref sL, .ref sF, .int pc, .int ds, .int pr])), (sP, aI E 16 po), (sL, aI E 30 lS)] H := hP
  have hD : va_D A [(t0, .inr (3, [.int sc, .int (nI k), .ref q1, .ref q2, .ref q3, .ref q4])), (s0, .inr (2, [.ref t0, .ref sP, .ref sD, .ref sS, .ref sL, .ref sF, .int pc, .int ds, .int pr])), (sP, aI E 16 po), (sL, aI E 30 lS)] := hD
  refine kS_i (E := E) (As := [.int (sqB po lS x r)]) (rest := []) (wr := [(t0, .inr (3, [.int sc, .int (nI k), .ref q1, .ref q2, .ref q3, .ref q4])), (s0, .inr (2, [.ref t0, .ref sP, .ref sD, .ref sS, .ref sL, .ref sF, .int pc, .int ds, .int pr])), (sP, aI E 16 po), (sL, aI E 30 lS)]) ⟨hx, hb, hml, hown, hts⟩ (c_J6_bitCount_0f7a4 (l := l) (E := E) (sz := _) (x := sqB po lS x r)) ⟨callB_of 1 hts ggX2_roadsAhead_J6_bitCount_0f7a4 rfl rfl rfl (hts _ inJ6_X2_roadsAhead) (hts _ ml86_X2_roadsAhead) (by decide +kernel) ⟨by rw [hR]; decide, by rw [hR]; decide⟩, hts _ stJ6_X2_roadsAhead⟩ hK hN hP hD hS hA [] [0, 1, 2, 3] rfl (by decide) rfl (by decide) (by decide) rfl hl.1 rfl (Nat.le_of_ble_eq_true rfl) dX2_roadsAhead_6 ⟨Nat.zero_le _, Nat.zero_le _⟩ (fun H locs hP hD hS => ?_)
  have hP : va_P E.1 vwCl [(t0, .inr (3, [.int sc, .int (nI k), .ref q1, .ref q2, .ref q3, .ref q4])), (s0, .inr (2, [.ref t0, .ref sP, .ref sD, .ref sS, .ref sL, .ref sF, .int pc, .int ds, .int pr])), (sP, aI E 16 po), (sL, aI E 30 lS)] H := hP
  have hD : va_D A [(t0, .inr (3, [.int sc, .int (nI k), .ref q1, .ref q2, .ref q3, .ref q4])), (s0, .inr (2, [.ref t0, .ref sP, .ref sD, .ref sS, .ref sL, .ref sF, .int pc, .int ds, .int pr])), (sP, aI E 16 po), (sL, aI E 30 lS)] := hD
  refine lv_istore (lv' := [(4, .int (nI (popc (sqB po lS x r)))), (0, .ref s0), (1, .int (nI x)), (2, .int (nI r)), (3, .int ow)]) hx hb dX2_roadsAhead_9 hl (by decide) rfl (fun ls hl => ?_)
  refine lv_iconst (v := nI 0) hx hb dX2_roadsAhead_11 (by decide) ?_
  refine lv_istore (lv' := [(5, .int (nI 0)), (4, .int (nI (popc (sqB po lS x r)))), (0, .ref s0), (1, .int (nI x)), (2, .int (nI r)), (3, .int ow)]) hx hb dX2_roadsAhead_12 hl (by decide) rfl (fun ls hl => ?_)
  refine lv_iconst (v := nI 0) hx hb dX2_roadsAhead_14 (by decide) ?_
  refine lv_istore (lv' := [(6, .int (nI 0)), (5, .int (nI 0)), (4, .int (nI (popc (sqB po lS x r)))), (0, .ref s0), (1, .int (nI x)), (2, .int (nI r)), (3, .int ow)]) hx hb dX2_roadsAhead_15 hl (by decide) rfl (fun ls hl => ?_)
  have L17 : ∀ (fu : Nat) (cn i : Nat), (ec : cn = rAh po lS x r ow i) → (gi : i ≤ k) → k - i < fu → ∀ (H : Heap) (locs : List Loc), va_P E.1 vwCl [(t0, .inr (3, [.int sc, .int (nI k), .ref q1, .ref q2, .ref q3, .ref q4])), (s0, .inr (2, [.ref t0, .ref sP, .ref sD, .ref sS, .ref sL, .ref sF, .int pc, .int ds, .int pr])), (sP, aI E 16 po), (sL, aI E 30 lS)] H → va_D A [(t0, .inr (3, [.int sc, .int (nI k), .ref q1, .ref q2, .ref q3, .ref q4])), (s0, .inr (2, [.ref t0, .ref sP, .ref sD, .ref sS, .ref sL, .ref sF, .int pc, .int ds, .int pr])), (sP, aI E 16 po), (sL, aI E 30 lS)] → va_S A s.heap H locs → ∀ (ls : Array Slot), lv_has ls 7 [(6, .int (nI i)), (5, .int (nI cn)), (4, .int (nI (popc (sqB po lS x r)))), (0, .ref s0), (1, .int (nI x)), (2, .int (nI r)), (3, .int ow)] → W p l e R s m args below meth c H locs 0 0 Q (F0 m 17 ls []) := by
    intro fu
    induction fu with
    | zero => intro cn i ec gi hfu; exact absurd hfu (Nat.not_lt_zero _)
    | succ fu ih17 =>
      intro cn i ec gi hfu H locs hP hD hS ls hl
      refine lv_iload hx hb dX2_roadsAhead_17 (lv_at hl 0 rfl) ?_
      refine lv_aload_n hx hb dX2_roadsAhead_19 rfl (lv_at hl 3 rfl) ?_
      refine rk_get (ci := 2) (C := RX2) (T := TX2) (N := 9) hx hb hts iw_X2_roadsAhead_2 hown hK hP 1 rfl rfl 0 (by decide) fl_X2_roadsAhead_27 rfl (v := .ref t0) rfl dX2_roadsAhead_20 ?_
      refine rk_get (ci := 3) (C := RX3) (T := TX3) (N := 6) hx hb hts iw_X2_roadsAhead_3 hown hK hP 0 rfl rfl 1 (by decide) fl_X2_roadsAhead_71 rfl (v := .int (nI k)) rfl dX2_roadsAhead_23 ?_
      refine rk_geN (tgt := 62) hx hb (by omega) (by omega) dX2_roadsAhead_26 (by decide) (fun zc26 => ?_) (fun zc26 => ?_)
      · refine lv_iload hx hb dX2_roadsAhead_62 (lv_at hl 1 rfl) ?_
        exact ret_i hQ hx hb hr hlocks (hP.sub [1, 0, 2, 3] rfl) (hD.sub [1, 0, 2, 3] (by decide) rfl) hS dX2_roadsAhead_64 (by obtain rfl : k = i := (by omega); rw [ec])
      · refine lv_iload_n hx hb dX2_roadsAhead_29 rfl (lv_at hl 6 rfl) ?_
        refine lv_iload hx hb dX2_roadsAhead_30 (lv_at hl 0 rfl) ?_
        refine kSN_i (E := E) (As := [.int ow, .int (nI i)]) (rest := []) (wr := [(t0, .inr (3, [.int sc, .int (nI k), .ref q1, .ref q2, .ref q3, .ref q4])), (s0, .inr (2, [.ref t0, .ref sP, .ref sD, .ref sS, .ref sL, .ref sF, .int pc, .int ds, .int pr])), (sP, aI E 16 po), (sL, aI E 30 lS)]) ⟨hx, hb, hml, hown, hts⟩ (c_X4_contains (l := l) (E := E) (sz := _) (x := ow) (y := nI i) ) ⟨va_cnB 2 hts gX2_roadsAhead_X4_contains_n52 rfl rfl rfl hN.2.1 (hts _ inX4_X2_roadsAhead) (by decide +kernel) ⟨by rw [hR]; decide, by rw [hR]; decide⟩, hts _ stX4_contains_X2_roadsAhead, trivial⟩ hK hN hP hD hS hA [] [0, 1, 2, 3] rfl (by decide) rfl (by decide) (by decide) rfl hl.1 rfl (Nat.le_of_ble_eq_true rfl) dX2_roadsAhead_32 ⟨Nat.zero_le _, Nat.zero_le _⟩ (fun H locs hP hD hS => ?_)
        have hP : va_P E.1 vwCl [(t0, .inr (3, [.int sc, .int (nI k), .ref q1, .ref q2, .ref q3, .ref q4])), (s0, .inr (2, [.ref t0, .ref sP, .ref sD, .ref sS, .ref sL, .ref sF, .int pc, .int ds, .int pr])), (sP, aI E 16 po), (sL, aI E 30 lS)] H := hP
        have hD : va_D A [(t0, .inr (3, [.int sc, .int (nI k), .ref q1, .ref q2, .ref q3, .ref q4])), (s0, .inr (2, [.ref t0, .ref sP, .ref sD, .ref sS, .ref sL, .ref sF, .int pc, .int ds, .int pr])), (sP, aI E 16 po), (sL, aI E 30 lS)] := hD
        refine rk_if_eqB (tgt := 56) hx hb dX2_roadsAhead_35 (by decide) (fun zc35 => ?_) (fun zc35 => ?_)
        · refine lv_iinc (v := nI (i + 1)) (lv' := [(6, .int (nI (i + 1))), (5, .int (nI cn)), (4, .int (nI (popc (sqB po lS x r)))), (0, .ref s0), (1, .int (nI x)), (2, .int (nI r)), (3, .int ow)]) hx hb dX2_roadsAhead_56 hl (k := 0) rfl (by rw [show Int32.ofInt 1 = nI 1 by decide]; exact nI_add _ _) (by decide) rfl (fun ls hl => ?_)
          refine lv_goto (tgt := 17) hx hb dX2_roadsAhead_59 (by decide) ?_
          exact ih17 cn (i + 1) (by subst ec; simp only [rAh]; exact (ifn1 (by rw [zc35]; decide)).symm) (by first | assumption | omega | rfl) (by omega) _ _ (hP.sub [0, 1, 2, 3] rfl) (hD.sub [0, 1, 2, 3] (by decide) rfl) hS ls (lv_sub hl [0, 1, 2, 3, 4, 5, 6] rfl)
        · refine lv_aload_n hx hb dX2_roadsAhead_38 rfl (lv_at hl 3 rfl) ?_
          refine lv_iload_n hx hb dX2_roadsAhead_39 rfl (lv_at hl 4 rfl) ?_
          refine lv_iload hx hb dX2_roadsAhead_40 (lv_at hl 0 rfl) ?_
          refine kV_i (E := E) (As := [.int (nI x), .int (nI i)]) (rest := []) (wr := [(t0, .inr (3, [.int sc, .int (nI k), .ref q1, .ref q2, .ref q3, .ref q4]))]) ⟨hx, hb, hml, hown, hts⟩ (c_X2_squaresBehind (l := l) (E := E) (sz := _) (s0 := s0) (t0 := t0) (sP := sP) (sD := sD) (sS := sS) (sL := sL) (sF := sF) (q1 := 0) (q2 := 0) (q3 := 0) (q4 := 0) (pc := pc) (ds := ds) (pr := pr) (x := x) (r := i) (po := po) (lS := lS) (g1 := by first | assumption | omega) (g2 := by first | assumption | omega)) (cwV 2 hts gX2_roadsAhead_X2_squaresBehind rfl rfl rfl (by decide +kernel) ⟨by rw [hR]; decide, by rw [hR]; decide⟩) hK hN hP hD hS hA [1, 2, 3] [0] rfl (by decide) rfl (by decide) (by decide) 1 2 rfl rfl rfl hl.1 rfl (Nat.le_of_ble_eq_true rfl) dX2_roadsAhead_42 ⟨Nat.zero_le _, Nat.zero_le _⟩ (fun H locs hP hD hS => ?_)
          have hP : va_P E.1 vwCl [(t0, .inr (3, [.int sc, .int (nI k), .ref q1, .ref q2, .ref q3, .ref q4])), (s0, .inr (2, [.ref t0, .ref sP, .ref sD, .ref sS, .ref sL, .ref sF, .int pc, .int ds, .int pr])), (sP, aI E 16 po), (sL, aI E 30 lS)] H := hP
          have hD : va_D A [(t0, .inr (3, [.int sc, .int (nI k), .ref q1, .ref q2, .ref q3, .ref q4])), (s0, .inr (2, [.ref t0, .ref sP, .ref sD, .ref sS, .ref sL, .ref sF, .int pc, .int ds, .int pr])), (sP, aI E 16 po), (sL, aI E 30 lS)] := hD
          refine kS_i (E := E) (As := [.int (sqB po lS x i)]) (rest := []) (wr := [(t0, .inr (3, [.int sc, .int (nI k), .ref q1, .ref q2, .ref q3, .ref q4])), (s0, .inr (2, [.ref t0, .ref sP, .ref sD, .ref sS, .ref sL, .ref sF, .int pc, .int ds, .int pr])), (sP, aI E 16 po), (sL, aI E 30 lS)]) ⟨hx, hb, hml, hown, hts⟩ (c_J6_bitCount_0f7a4 (l := l) (E := E) (sz := _) (x := sqB po lS x i)) ⟨callB_of 1 hts ggX2_roadsAhead_J6_bitCount_0f7a4 rfl rfl rfl (hts _ inJ6_X2_roadsAhead) (hts _ ml86_X2_roadsAhead) (by decide +kernel) ⟨by rw [hR]; decide, by rw [hR]; decide⟩, hts _ stJ6_X2_roadsAhead⟩ hK hN hP hD hS hA [] [0, 1, 2, 3] rfl (by decide) rfl (by decide) (by decide) rfl hl.1 rfl (Nat.le_of_ble_eq_true rfl) dX2_roadsAhead_45 ⟨Nat.zero_le _, Nat.zero_le _⟩ (fun H locs hP hD hS => ?_)
          have hP : va_P E.1 vwCl [(t0, .inr (3, [.int sc, .int (nI k), .ref q1, .ref q2, .ref q3, .ref q4])), (s0, .inr (2, [.ref t0, .ref sP, .ref sD, .ref sS, .ref sL, .ref sF, .int pc, .int ds, .int pr])), (sP, aI E 16 po), (sL, aI E 30 lS)] H := hP
          have hD : va_D A [(t0, .inr (3, [.int sc, .int (nI k), .ref q1, .ref q2, .ref q3, .ref q4])), (s0, .inr (2, [.ref t0, .ref sP, .ref sD, .ref sS, .ref sL, .ref sF, .int pc, .int ds, .int pr])), (sP, aI E 16 po), (sL, aI E 30 lS)] := hD
          refine lv_iload hx hb dX2_roadsAhead_48 (lv_at hl 2 rfl) ?_
          refine rk_leN (tgt := 56) hx hb (popc_lt _) (popc_lt _) dX2_roadsAhead_50 (by decide) (fun zc50 => ?_) (fun zc50 => ?_)
          · refine lv_iinc (v := nI (i + 1)) (lv' := [(6, .int (nI (i + 1))), (5, .int (nI cn)), (4, .int (nI (popc (sqB po lS x r)))), (0, .ref s0), (1, .int (nI x)), (2, .int (nI r)), (3, .int ow)]) hx hb dX2_roadsAhead_56 hl (k := 0) rfl (by rw [show Int32.ofInt 1 = nI 1 by decide]; exact nI_add _ _) (by decide) rfl (fun ls hl => ?_)
            refine lv_goto (tgt := 17) hx hb dX2_roadsAhead_59 (by decide) ?_
            exact ih17 cn (i + 1) (by subst ec; simp only [rAh]; exact (ifn2 (Nat.not_lt.mpr zc50)).symm) (by first | assumption | omega | rfl) (by omega) _ _ (hP.sub [0, 1, 2, 3] rfl) (hD.sub [0, 1, 2, 3] (by decide) rfl) hS ls (lv_sub hl [0, 1, 2, 3, 4, 5, 6] rfl)
          · refine lv_iinc (v := nI (cn + 1)) (lv' := [(5, .int (nI (cn + 1))), (6, .int (nI i)), (4, .int (nI (popc (sqB po lS x r)))), (0, .ref s0), (1, .int (nI x)), (2, .int (nI r)), (3, .int ow)]) hx hb dX2_roadsAhead_53 hl (k := 1) rfl (by rw [show Int32.ofInt 1 = nI 1 by decide]; exact nI_add _ _) (by decide) rfl (fun ls hl => ?_)
            refine lv_iinc (v := nI (i + 1)) (lv' := [(6, .int (nI (i + 1))), (5, .int (nI (cn + 1))), (4, .int (nI (popc (sqB po lS x r)))), (0, .ref s0), (1, .int (nI x)), (2, .int (nI r)), (3, .int ow)]) hx hb dX2_roadsAhead_56 hl (k := 1) rfl (by rw [show Int32.ofInt 1 = nI 1 by decide]; exact nI_add _ _) (by decide) rfl (fun ls hl => ?_)
            refine lv_goto (tgt := 17) hx hb dX2_roadsAhead_59 (by decide) ?_
            exact ih17 (cn + 1) (i + 1) (by subst ec; simp only [rAh]; exact (if_pos (And.intro zc35 zc50)).symm) (by first | assumption | omega | rfl) (by omega) _ _ (hP.sub [0, 1, 2, 3] rfl) (hD.sub [0, 1, 2, 3] (by decide) rfl) hS ls (lv_sub hl [0, 1, 2, 3, 4, 5, 6] rfl)
  exact L17 ((k - 0) + 1) 0 0 (rfl) (by first | assumption | omega | rfl) (Nat.lt_succ_self _) _ _ (hP.sub [0, 1, 2, 3] rfl) (hD.sub [0, 1, 2, 3] (by decide) rfl) hS ls (lv_sub hl [0, 1, 2, 3, 4, 5, 6] rfl)
theorem iw_X2_roadOnWay_2 : ∀ w ∈ u_ws RX2 TX2 9, w ∈ wsX2_roadOnWay := by decide +kernel
theorem fl_X2_roadOnWay_27 : Cond.fieldLink RX2 27 (TX2 0).1 (TX2 0).2.1 (TX2 0).2.2.1 ∈ wsX2_roadOnWay := by decide +kernel
theorem iw_X2_roadOnWay_3 : ∀ w ∈ u_ws RX3 TX3 6, w ∈ wsX2_roadOnWay := by decide +kernel
theorem fl_X2_roadOnWay_71 : Cond.fieldLink RX2 71 (TX3 1).1 (TX3 1).2.1 (TX3 1).2.2.1 ∈ wsX2_roadOnWay := by decide +kernel
theorem inX4_X2_roadOnWay : Cond.initialized RX4 ∈ wsX2_roadOnWay := by decide +kernel
theorem stX4_contains_X2_roadOnWay : Cond.static yX4_contains ∈ wsX2_roadOnWay := by decide +kernel
set_option maxHeartbeats 400000 in
set_option maxRecDepth 100000 in
theorem c_X2_roadOnWay (l : Launch) (E : EE) (sz : Nat) (s0 t0 sP sD sS sL sF q1 q2 q3 q4 : Nat) (sc : Int32) (k : Nat) (pc ds pr : Int32) (x : Nat) (y pl : Int32) (po lS : Nat → Int32) (g1 : x < 16) (gk : k ≤ 30) : Ci l yX2_roadOnWay wsX2_roadOnWay 3 70 E [.ref s0, .int (nI x), .int y, .int pl] [(s0, .inr (2, [.ref t0, .ref sP, .ref sD, .ref sS, .ref sL, .ref sF, .int pc, .int ds, .int pr])), (t0, .inr (3, [.int sc, .int (nI k), .ref q1, .ref q2, .ref q3, .ref q4])), (sP, aI E 16 po), (sL, aI E 30 lS)] sz (fst6 (rOWp po lS x (rBt po lS x y k) pl k) 0 k) [(s0, .inr (2, [.ref t0, .ref sP, .ref sD, .ref sS, .ref sL, .ref sF, .int pc, .int ds, .int pr])), (t0, .inr (3, [.int sc, .int (nI k), .ref q1, .ref q2, .ref q3, .ref q4])), (sP, aI E 16 po), (sL, aI E 30 lS)] := by
  refine C_of (QQ := QI E (fst6 (rOWp po lS x (rBt po lS x y k) pl k) 0 k) [(s0, .inr (2, [.ref t0, .ref sP, .ref sD, .ref sS, .ref sL, .ref sF, .int pc, .int ds, .int pr])), (t0, .inr (3, [.int sc, .int (nI k), .ref q1, .ref q2, .ref q3, .ref q4])), (sP, aI E 16 po), (sL, aI E 30 lS)]) (cc := cX2_roadOnWay) (maxL := 6) (ret := (some .int)) (by decide +kernel) rfl (Nat.le_of_ble_eq_true rfl) ?_
  intro p e s m args below meth c A R Q ls hx hb hr hts hown hml hlocks hA hK hN hP hD hS hl hR hQ
  have hown : s.vm.findClass RX2 = some m.cls := hown
  have hl : lv_has ls 6 [(0, .ref s0), (1, .int (nI x)), (2, .int y), (3, .int pl)] := hl
  refine lv_aload_n hx hb dX2_roadOnWay_0 rfl (lv_at hl 0 rfl) ?_
  refine lv_iload_n hx hb dX2_roadOnWay_1 rfl (lv_at hl 1 rfl) ?_
  refine lv_iload_n hx hb dX2_roadOnWay_2 rfl (lv_at hl 2 rfl) ?_
  refine kV_i (E := E) (As := [.int (nI x), .int y]) (rest := []) (wr := []) ⟨hx, hb, hml, hown, hts⟩ (c_X2_roadsBetween (l := l) (E := E) (sz := _) (s0 := s0) (t0 := t0) (sP := sP) (sD := sD) (sS := sS) (sL := sL) (sF := sF) (q1 := q1) (q2 := q2) (q3 := q3) (q4 := q4) (sc := sc) (k := k) (pc := pc) (ds := ds) (pr := pr) (x := x) (y := y) (po := po) (lS := lS) (g1 := by first | assumption | omega) (gk := by first | assumption | omega)) (cwV 2 hts gX2_roadOnWay_X2_roadsBetween rfl rfl rfl (by decide +kernel) ⟨by rw [hR]; decide, by rw [hR]; decide⟩) hK hN hP hD hS hA [0, 1, 2, 3] [] rfl (by decide) rfl (by decide) (by decide) 0 2 rfl rfl rfl hl.1 rfl (Nat.le_of_ble_eq_true rfl) dX2_roadOnWay_3 ⟨Nat.zero_le _, Nat.zero_le _⟩ (fun H locs hP hD hS => ?_)
  have hP : va_P E.1 vwCl [(s0, .inr (2, [.ref t0, .ref sP, .ref sD, .ref sS, .ref sL, .ref sF, .int pc, .int ds, .int pr])), (t0, .inr (3, [.int sc, .int (nI k), .ref q1, .ref q2, .ref q3, .ref q4])), (sP, aI E 16 po), (sL, aI E 30 lS)] H := hP
  have hD : va_D A [(s0, .inr (2, [.ref t0, .ref sP, .ref sD, .ref sS, .ref sL, .ref sF, .int pc, .int ds, .int pr])), (t0, .inr (3, [.int sc, .int (nI k), .ref q1, .ref q2, .ref q3, .ref q4])), (sP, aI E 16 po), (sL, aI E 30 lS)] := hD
  refine lv_istore (lv' := [(4, .int (rBt po lS x y k)), (0, .ref s0), (1, .int (nI x)), (2, .int y), (3, .int pl)]) hx hb dX2_roadOnWay_6 hl (by decide) rfl (fun ls hl => ?_)
  refine lv_iconst (v := nI 0) hx hb dX2_roadOnWay_8 (by decide) ?_
  refine lv_istore (lv' := [(5, .int (nI 0)), (4, .int (rBt po lS x y k)), (0, .ref s0), (1, .int (nI x)), (2, .int y), (3, .int pl)]) hx hb dX2_roadOnWay_9 hl (by decide) rfl (fun ls hl => ?_)
  have L11 : ∀ (fu : Nat) (i : Nat), (he : fst6 (rOWp po lS x (rBt po lS x y k) pl k) 0 k = fst6 (rOWp po lS x (rBt po lS x y k) pl k) i (k - i)) → (gi : i ≤ k) → k - i < fu → ∀ (H : Heap) (locs : List Loc), va_P E.1 vwCl [(s0, .inr (2, [.ref t0, .ref sP, .ref sD, .ref sS, .ref sL, .ref sF, .int pc, .int ds, .int pr])), (t0, .inr (3, [.int sc, .int (nI k), .ref q1, .ref q2, .ref q3, .ref q4])), (sP, aI E 16 po), (sL, aI E 30 lS)] H → va_D A [(s0, .inr (2, [.ref t0, .ref sP, .ref sD, .ref sS, .ref sL, .ref sF, .int pc, .int ds, .int pr])), (t0, .inr (3, [.int sc, .int (nI k), .ref q1, .ref q2, .ref q3, .ref q4])), (sP, aI E 16 po), (sL, aI E 30 lS)] → va_S A s.heap H locs → ∀ (ls : Array Slot), lv_has ls 6 [(5, .int (nI i)), (4, .int (rBt po lS x y k)), (0, .ref s0), (1, .int (nI x)), (2, .int y), (3, .int pl)] → W p l e R s m args below meth c H locs 0 0 Q (F0 m 11 ls []) := by
    intro fu
    induction fu with
    | zero => intro i he gi hfu; exact absurd hfu (Nat.not_lt_zero _)
    | succ fu ih11 =>
      intro i he gi hfu H locs hP hD hS ls hl
      refine lv_iload hx hb dX2_roadOnWay_11 (lv_at hl 0 rfl) ?_
      refine lv_aload_n hx hb dX2_roadOnWay_13 rfl (lv_at hl 2 rfl) ?_
      refine rk_get (ci := 2) (C := RX2) (T := TX2) (N := 9) hx hb hts iw_X2_roadOnWay_2 hown hK hP 0 rfl rfl 0 (by decide) fl_X2_roadOnWay_27 rfl (v := .ref t0) rfl dX2_roadOnWay_14 ?_
      refine rk_get (ci := 3) (C := RX3) (T := TX3) (N := 6) hx hb hts iw_X2_roadOnWay_3 hown hK hP 1 rfl rfl 1 (by decide) fl_X2_roadOnWay_71 rfl (v := .int (nI k)) rfl dX2_roadOnWay_17 ?_
      refine rk_geN (tgt := 55) hx hb (by omega) (by omega) dX2_roadOnWay_20 (by decide) (fun zc20 => ?_) (fun zc20 => ?_)
      · refine lv_bipush (v := (-6)) hx hb dX2_roadOnWay_55 (by decide) ?_
        exact ret_i hQ hx hb hr hlocks (hP.sub [0, 1, 2, 3] rfl) (hD.sub [0, 1, 2, 3] (by decide) rfl) hS dX2_roadOnWay_57 (by rw [he, show k - i = 0 by omega]; rfl)
      · refine lv_iload hx hb dX2_roadOnWay_23 (lv_at hl 1 rfl) ?_
        refine lv_iload hx hb dX2_roadOnWay_25 (lv_at hl 0 rfl) ?_
        refine kSN_i (E := E) (As := [.int (rBt po lS x y k), .int (nI i)]) (rest := []) (wr := [(s0, .inr (2, [.ref t0, .ref sP, .ref sD, .ref sS, .ref sL, .ref sF, .int pc, .int ds, .int pr])), (t0, .inr (3, [.int sc, .int (nI k), .ref q1, .ref q2, .ref q3, .ref q4])), (sP, aI E 16 po), (sL, aI E 30 lS)]) ⟨hx, hb, hml, hown, hts⟩ (c_X4_contains (l := l) (E := E) (sz := _) (x := rBt po lS x y k) (y := nI i) ) ⟨va_cnB 2 hts gX2_roadOnWay_X4_contains_n52 rfl rfl rfl hN.2.1 (hts _ inX4_X2_roadOnWay) (by decide +kernel) ⟨by rw [hR]; decide, by rw [hR]; decide⟩, hts _ stX4_contains_X2_roadOnWay, trivial⟩ hK hN hP hD hS hA [] [0, 1, 2, 3] rfl (by decide) rfl (by decide) (by decide) rfl hl.1 rfl (Nat.le_of_ble_eq_true rfl) dX2_roadOnWay_27 ⟨Nat.zero_le _, Nat.zero_le _⟩ (fun H locs hP hD hS => ?_)
        have hP : va_P E.1 vwCl [(s0, .inr (2, [.ref t0, .ref sP, .ref sD, .ref sS, .ref sL, .ref sF, .int pc, .int ds, .int pr])), (t0, .inr (3, [.int sc, .int (nI k), .ref q1, .ref q2, .ref q3, .ref q4])), (sP, aI E 16 po), (sL, aI E 30 lS)] H := hP
        have hD : va_D A [(s0, .inr (2, [.ref t0, .ref sP, .ref sD, .ref sS, .ref sL, .ref sF, .int pc, .int ds, .int pr])), (t0, .inr (3, [.int sc, .int (nI k), .ref q1, .ref q2, .ref q3, .ref q4])), (sP, aI E 16 po), (sL, aI E 30 lS)] := hD
        refine rk_if_eqB (tgt := 49) hx hb dX2_roadOnWay_30 (by decide) (fun zc30 => ?_) (fun zc30 => ?_)
        · refine lv_iinc (v := nI (i + 1)) (lv' := [(5, .int (nI (i + 1))), (4, .int (rBt po lS x y k)), (0, .ref s0), (1, .int (nI x)), (2, .int y), (3, .int pl)]) hx hb dX2_roadOnWay_49 hl (k := 0) rfl (by rw [show Int32.ofInt 1 = nI 1 by decide]; exact nI_add _ _) (by decide) rfl (fun ls hl => ?_)
          refine lv_goto (tgt := 11) hx hb dX2_roadOnWay_52 (by decide) ?_
          exact ih11 (i + 1) (by rw [he]; exact fst6_miss (rOWp_f1 zc30) (by omega)) (by first | assumption | omega | rfl) (by omega) _ _ (hP.sub [0, 1, 2, 3] rfl) (hD.sub [0, 1, 2, 3] (by decide) rfl) hS ls (lv_sub hl [0, 1, 2, 3, 4, 5] rfl)
        · refine lv_aload_n hx hb dX2_roadOnWay_33 rfl (lv_at hl 2 rfl) ?_
          refine lv_iload_n hx hb dX2_roadOnWay_34 rfl (lv_at hl 3 rfl) ?_
          refine lv_iload hx hb dX2_roadOnWay_35 (lv_at hl 0 rfl) ?_
          refine lv_iload hx hb dX2_roadOnWay_37 (lv_at hl 1 rfl) ?_
          refine kV_i (E := E) (As := [.int (nI x), .int (nI i), .int (rBt po lS x y k)]) (rest := []) (wr := []) ⟨hx, hb, hml, hown, hts⟩ (c_X2_roadsAhead (l := l) (E := E) (sz := _) (s0 := s0) (t0 := t0) (sP := sP) (sD := sD) (sS := sS) (sL := sL) (sF := sF) (q1 := q1) (q2 := q2) (q3 := q3) (q4 := q4) (sc := sc) (k := k) (pc := pc) (ds := ds) (pr := pr) (x := x) (r := i) (ow := rBt po lS x y k) (po := po) (lS := lS) (g1 := by first | assumption | omega) (g2 := by first | assumption | omega) (gk := by first | assumption | omega)) (cwV 3 hts gX2_roadOnWay_X2_roadsAhead rfl rfl rfl (by decide +kernel) ⟨by rw [hR]; decide, by rw [hR]; decide⟩) hK hN hP hD hS hA [0, 1, 2, 3] [] rfl (by decide) rfl (by decide) (by decide) 0 2 rfl rfl rfl hl.1 rfl (Nat.le_of_ble_eq_true rfl) dX2_roadOnWay_39 ⟨Nat.zero_le _, Nat.zero_le _⟩ (fun H locs hP hD hS => ?_)
          have hP : va_P E.1 vwCl [(s0, .inr (2, [.ref t0, .ref sP, .ref sD, .ref sS, .ref sL, .ref sF, .int pc, .int ds, .int pr])), (t0, .inr (3, [.int sc, .int (nI k), .ref q1, .ref q2, .ref q3, .ref q4])), (sP, aI E 16 po), (sL, aI E 30 lS)] H := hP
          have hD : va_D A [(s0, .inr (2, [.ref t0, .ref sP, .ref sD, .ref sS, .ref sL, .ref sF, .int pc, .int ds, .int pr])), (t0, .inr (3, [.int sc, .int (nI k), .ref q1, .ref q2, .ref q3, .ref q4])), (sP, aI E 16 po), (sL, aI E 30 lS)] := hD
          refine lv_iload_n hx hb dX2_roadOnWay_42 rfl (lv_at hl 5 rfl) ?_
          refine lv_icmp_ne (tgt := 49) hx hb dX2_roadOnWay_43 (by decide) (fun zc43 => ?_) (fun zc43 => ?_)
          · refine lv_iinc (v := nI (i + 1)) (lv' := [(5, .int (nI (i + 1))), (4, .int (rBt po lS x y k)), (0, .ref s0), (1, .int (nI x)), (2, .int y), (3, .int pl)]) hx hb dX2_roadOnWay_49 hl (k := 0) rfl (by rw [show Int32.ofInt 1 = nI 1 by decide]; exact nI_add _ _) (by decide) rfl (fun ls hl => ?_)
            refine lv_goto (tgt := 11) hx hb dX2_roadOnWay_52 (by decide) ?_
            exact ih11 (i + 1) (by rw [he]; exact fst6_miss (rOWp_f2 zc43) (by omega)) (by first | assumption | omega | rfl) (by omega) _ _ (hP.sub [0, 1, 2, 3] rfl) (hD.sub [0, 1, 2, 3] (by decide) rfl) hS ls (lv_sub hl [0, 1, 2, 3, 4, 5] rfl)
          · refine lv_iload hx hb dX2_roadOnWay_46 (lv_at hl 0 rfl) ?_
            exact ret_i hQ hx hb hr hlocks (hP.sub [0, 1, 2, 3] rfl) (hD.sub [0, 1, 2, 3] (by decide) rfl) hS dX2_roadOnWay_48 (by rw [he]; exact fst6_hit (rOWp_t zc30 zc43) (by omega))
  exact L11 ((k - 0) + 1) 0 (rfl) (by first | assumption | omega | rfl) (Nat.lt_succ_self _) _ _ (hP.sub [0, 1, 2, 3] rfl) (hD.sub [0, 1, 2, 3] (by decide) rfl) hS ls (lv_sub hl [0, 1, 2, 3, 4, 5] rfl)
theorem iw_X2_partingRoadsAfter_2 : ∀ w ∈ u_ws RX2 TX2 9, w ∈ wsX2_partingRoadsAfter := by decide +kernel
theorem fl_X2_partingRoadsAfter_68 : Cond.fieldLink RX2 68 (TX2 8).1 (TX2 8).2.1 (TX2 8).2.2.1 ∈ wsX2_partingRoadsAfter := by decide +kernel
theorem inJ6_X2_partingRoadsAfter : Cond.initialized RJ6 ∈ wsX2_partingRoadsAfter := by decide +kernel
theorem ml86_X2_partingRoadsAfter : Cond.methodLink RX2 86 yJ6_bitCount_0f7a4 ∈ wsX2_partingRoadsAfter := by decide +kernel
theorem stJ6_X2_partingRoadsAfter : Cond.static yJ6_bitCount_0f7a4 ∈ wsX2_partingRoadsAfter := by decide +kernel
set_option maxHeartbeats 400000 in
set_option maxRecDepth 100000 in
theorem c_X2_partingRoadsAfter (l : Launch) (E : EE) (sz : Nat) (s0 t0 sP sD sS sL sF q1 q2 q3 q4 : Nat) (sc : Int32) (k : Nat) (pc ds pr : Int32) (x : Nat) (y : Int32) (po lS : Nat → Int32) (g1 : x < 16) (gk : k ≤ 30) : Ci l yX2_partingRoadsAfter wsX2_partingRoadsAfter 3 68 E [.ref s0, .int (nI x), .int y] [(s0, .inr (2, [.ref t0, .ref sP, .ref sD, .ref sS, .ref sL, .ref sF, .int pc, .int ds, .int pr])), (t0, .inr (3, [.int sc, .int (nI k), .ref q1, .ref q2, .ref q3, .ref q4])), (sP, aI E 16 po), (sL, aI E 30 lS)] sz (pAf pr po lS x y k) [(s0, .inr (2, [.ref t0, .ref sP, .ref sD, .ref sS, .ref sL, .ref sF, .int pc, .int ds, .int pr])), (t0, .inr (3, [.int sc, .int (nI k), .ref q1, .ref q2, .ref q3, .ref q4])), (sP, aI E 16 po), (sL, aI E 30 lS)] := by
  refine C_of (QQ := QI E (pAf pr po lS x y k) [(s0, .inr (2, [.ref t0, .ref sP, .ref sD, .ref sS, .ref sL, .ref sF, .int pc, .int ds, .int pr])), (t0, .inr (3, [.int sc, .int (nI k), .ref q1, .ref q2, .ref q3, .ref q4])), (sP, aI E 16 po), (sL, aI E 30 lS)]) (cc := cX2_partingRoadsAfter) (maxL := 4) (ret := (some .int)) (by decide +kernel) rfl (Nat.le_of_ble_eq_true rfl) ?_
  intro p e s m args below meth c A R Q ls hx hb hr hts hown hml hlocks hA hK hN hP hD hS hl hR hQ
  have hown : s.vm.findClass RX2 = some m.cls := hown
  have hl : lv_has ls 4 [(0, .ref s0), (1, .int (nI x)), (2, .int y)] := hl
  refine lv_aload_n hx hb dX2_partingRoadsAfter_0 rfl (lv_at hl 0 rfl) ?_
  refine rk_get (ci := 2) (C := RX2) (T := TX2) (N := 9) hx hb hts iw_X2_partingRoadsAfter_2 hown hK hP 0 rfl rfl 8 (by decide) fl_X2_partingRoadsAfter_68 rfl (v := .int pr) rfl dX2_partingRoadsAfter_1 ?_
  refine kS_i (E := E) (As := [.int pr]) (rest := []) (wr := [(s0, .inr (2, [.ref t0, .ref sP, .ref sD, .ref sS, .ref sL, .ref sF, .int pc, .int ds, .int pr])), (t0, .inr (3, [.int sc, .int (nI k), .ref q1, .ref q2, .ref q3, .ref q4])), (sP, aI E 16 po), (sL, aI E 30 lS)]) ⟨hx, hb, hml, hown, hts⟩ (c_J6_bitCount_0f7a4 (l := l) (E := E) (sz := _) (x := pr)) ⟨callB_of 1 hts ggX2_partingRoadsAfter_J6_bitCount_0f7a4 rfl rfl rfl (hts _ inJ6_X2_partingRoadsAfter) (hts _ ml86_X2_partingRoadsAfter) (by decide +kernel) ⟨by rw [hR]; decide, by rw [hR]; decide⟩, hts _ stJ6_X2_partingRoadsAfter⟩ hK hN hP hD hS hA [] [0, 1, 2, 3] rfl (by decide) rfl (by decide) (by decide) rfl hl.1 rfl (Nat.le_of_ble_eq_true rfl) dX2_partingRoadsAfter_4 ⟨Nat.zero_le _, Nat.zero_le _⟩ (fun H locs hP hD hS => ?_)
  have hP : va_P E.1 vwCl [(s0, .inr (2, [.ref t0, .ref sP, .ref sD, .ref sS, .ref sL, .ref sF, .int pc, .int ds, .int pr])), (t0, .inr (3, [.int sc, .int (nI k), .ref q1, .ref q2, .ref q3, .ref q4])), (sP, aI E 16 po), (sL, aI E 30 lS)] H := hP
  have hD : va_D A [(s0, .inr (2, [.ref t0, .ref sP, .ref sD, .ref sS, .ref sL, .ref sF, .int pc, .int ds, .int pr])), (t0, .inr (3, [.int sc, .int (nI k), .ref q1, .ref q2, .ref q3, .ref q4])), (sP, aI E 16 po), (sL, aI E 30 lS)] := hD
  refine lv_istore_n (lv' := [(3, .int (nI (popc pr))), (0, .ref s0), (1, .int (nI x)), (2, .int y)]) hx hb dX2_partingRoadsAfter_7 rfl hl (by decide) rfl (fun ls hl => ?_)
  refine lv_aload_n hx hb dX2_partingRoadsAfter_8 rfl (lv_at hl 1 rfl) ?_
  refine lv_iload_n hx hb dX2_partingRoadsAfter_9 rfl (lv_at hl 2 rfl) ?_
  refine lv_iload_n hx hb dX2_partingRoadsAfter_10 rfl (lv_at hl 3 rfl) ?_
  refine kV_i (E := E) (As := [.int (nI x), .int y]) (rest := []) (wr := [(t0, .inr (3, [.int sc, .int (nI k), .ref q1, .ref q2, .ref q3, .ref q4])), (sL, aI E 30 lS)]) ⟨hx, hb, hml, hown, hts⟩ (c_X2_hangTogether (l := l) (E := E) (sz := _) (s0 := s0) (t0 := t0) (sP := sP) (sD := sD) (sS := sS) (sL := sL) (sF := sF) (q1 := 0) (q2 := 0) (q3 := 0) (q4 := 0) (pc := pc) (ds := ds) (pr := pr) (x := x) (y := y) (po := po) (g1 := by first | assumption | omega)) (cwV 2 hts gX2_partingRoadsAfter_X2_hangTogether rfl rfl rfl (by decide +kernel) ⟨by rw [hR]; decide, by rw [hR]; decide⟩) hK hN hP hD hS hA [0, 2] [1, 3] rfl (by decide) rfl (by decide) (by decide) 0 2 rfl rfl rfl hl.1 rfl (Nat.le_of_ble_eq_true rfl) dX2_partingRoadsAfter_11 ⟨Nat.zero_le _, Nat.zero_le _⟩ (fun H locs hP hD hS => ?_)
  have hP : va_P E.1 vwCl [(t0, .inr (3, [.int sc, .int (nI k), .ref q1, .ref q2, .ref q3, .ref q4])), (sL, aI E 30 lS), (s0, .inr (2, [.ref t0, .ref sP, .ref sD, .ref sS, .ref sL, .ref sF, .int pc, .int ds, .int pr])), (sP, aI E 16 po)] H := hP
  have hD : va_D A [(t0, .inr (3, [.int sc, .int (nI k), .ref q1, .ref q2, .ref q3, .ref q4])), (sL, aI E 30 lS), (s0, .inr (2, [.ref t0, .ref sP, .ref sD, .ref sS, .ref sL, .ref sF, .int pc, .int ds, .int pr])), (sP, aI E 16 po)] := hD
  refine rk_if_eqB (tgt := 31) hx hb dX2_partingRoadsAfter_14 (by decide) (fun zc14 => ?_) (fun zc14 => ?_)
  · refine lv_iload_n hx hb dX2_partingRoadsAfter_31 rfl (lv_at hl 0 rfl) ?_
    refine lv_iconst (v := nI 1) hx hb dX2_partingRoadsAfter_32 (by decide) ?_
    refine rk_iaddN hx hb dX2_partingRoadsAfter_33 ?_
    exact ret_i hQ hx hb hr hlocks (hP.sub [2, 0, 3, 1] rfl) (hD.sub [2, 0, 3, 1] (by decide) rfl) hS dX2_partingRoadsAfter_34 (by simp only [pAf]; exact (if_neg (by rw [zc14]; decide)).symm)
  · refine lv_iload_n hx hb dX2_partingRoadsAfter_17 rfl (lv_at hl 0 rfl) ?_
    refine lv_aload_n hx hb dX2_partingRoadsAfter_18 rfl (lv_at hl 1 rfl) ?_
    refine lv_iload_n hx hb dX2_partingRoadsAfter_19 rfl (lv_at hl 2 rfl) ?_
    refine lv_iload_n hx hb dX2_partingRoadsAfter_20 rfl (lv_at hl 3 rfl) ?_
    refine kV_i (E := E) (As := [.int (nI x), .int y]) (rest := [.int (nI (popc pr))]) (wr := []) ⟨hx, hb, hml, hown, hts⟩ (c_X2_roadsBetween (l := l) (E := E) (sz := _) (s0 := s0) (t0 := t0) (sP := sP) (sD := sD) (sS := sS) (sL := sL) (sF := sF) (q1 := q1) (q2 := q2) (q3 := q3) (q4 := q4) (sc := sc) (k := k) (pc := pc) (ds := ds) (pr := pr) (x := x) (y := y) (po := po) (lS := lS) (g1 := by first | assumption | omega) (gk := by first | assumption | omega)) (cwV 2 hts gX2_partingRoadsAfter_X2_roadsBetween rfl rfl rfl (by decide +kernel) ⟨by rw [hR]; decide, by rw [hR]; decide⟩) hK hN hP hD hS hA [2, 0, 3, 1] [] rfl (by decide) rfl (by decide) (by decide) 2 2 rfl rfl rfl hl.1 rfl (Nat.le_of_ble_eq_true rfl) dX2_partingRoadsAfter_21 ⟨Nat.zero_le _, Nat.zero_le _⟩ (fun H locs hP hD hS => ?_)
    have hP : va_P E.1 vwCl [(s0, .inr (2, [.ref t0, .ref sP, .ref sD, .ref sS, .ref sL, .ref sF, .int pc, .int ds, .int pr])), (t0, .inr (3, [.int sc, .int (nI k), .ref q1, .ref q2, .ref q3, .ref q4])), (sP, aI E 16 po), (sL, aI E 30 lS)] H := hP
    have hD : va_D A [(s0, .inr (2, [.ref t0, .ref sP, .ref sD, .ref sS, .ref sL, .ref sF, .int pc, .int ds, .int pr])), (t0, .inr (3, [.int sc, .int (nI k), .ref q1, .ref q2, .ref q3, .ref q4])), (sP, aI E 16 po), (sL, aI E 30 lS)] := hD
    refine kS_i (E := E) (As := [.int (rBt po lS x y k)]) (rest := [.int (nI (popc pr))]) (wr := [(s0, .inr (2, [.ref t0, .ref sP, .ref sD, .ref sS, .ref sL, .ref sF, .int pc, .int ds, .int pr])), (t0, .inr (3, [.int sc, .int (nI k), .ref q1, .ref q2, .ref q3, .ref q4])), (sP, aI E 16 po), (sL, aI E 30 lS)]) ⟨hx, hb, hml, hown, hts⟩ (c_J6_bitCount_0f7a4 (l := l) (E := E) (sz := _) (x := rBt po lS x y k)) ⟨callB_of 1 hts ggX2_partingRoadsAfter_J6_bitCount_0f7a4 rfl rfl rfl (hts _ inJ6_X2_partingRoadsAfter) (hts _ ml86_X2_partingRoadsAfter) (by decide +kernel) ⟨by rw [hR]; decide, by rw [hR]; decide⟩, hts _ stJ6_X2_partingRoadsAfter⟩ hK hN hP hD hS hA [] [0, 1, 2, 3] rfl (by decide) rfl (by decide) (by decide) rfl hl.1 rfl (Nat.le_of_ble_eq_true rfl) dX2_partingRoadsAfter_24 ⟨Nat.zero_le _, Nat.zero_le _⟩ (fun H locs hP hD hS => ?_)
    have hP : va_P E.1 vwCl [(s0, .inr (2, [.ref t0, .ref sP, .ref sD, .ref sS, .ref sL, .ref sF, .int pc, .int ds, .int pr])), (t0, .inr (3, [.int sc, .int (nI k), .ref q1, .ref q2, .ref q3, .ref q4])), (sP, aI E 16 po), (sL, aI E 30 lS)] H := hP
    have hD : va_D A [(s0, .inr (2, [.ref t0, .ref sP, .ref sD, .ref sS, .ref sL, .ref sF, .int pc, .int ds, .int pr])), (t0, .inr (3, [.int sc, .int (nI k), .ref q1, .ref q2, .ref q3, .ref q4])), (sP, aI E 16 po), (sL, aI E 30 lS)] := hD
    refine lv_isub hx hb dX2_partingRoadsAfter_27 ?_
    refine lv_goto (tgt := 34) hx hb dX2_partingRoadsAfter_28 (by decide) ?_
    exact ret_i hQ hx hb hr hlocks (hP.sub [0, 1, 2, 3] rfl) (hD.sub [0, 1, 2, 3] (by decide) rfl) hS dX2_partingRoadsAfter_34 (by simp only [pAf]; exact (if_pos zc14).symm)
theorem iw_X2_morePiecesWithout_2 : ∀ w ∈ u_ws RX2 TX2 9, w ∈ wsX2_morePiecesWithout := by decide +kernel
theorem fl_X2_morePiecesWithout_9 : Cond.fieldLink RX2 9 (TX2 1).1 (TX2 1).2.1 (TX2 1).2.2.1 ∈ wsX2_morePiecesWithout := by decide +kernel
theorem fl_X2_morePiecesWithout_27 : Cond.fieldLink RX2 27 (TX2 0).1 (TX2 0).2.1 (TX2 0).2.2.1 ∈ wsX2_morePiecesWithout := by decide +kernel
theorem iw_X2_morePiecesWithout_3 : ∀ w ∈ u_ws RX3 TX3 6, w ∈ wsX2_morePiecesWithout := by decide +kernel
theorem fl_X2_morePiecesWithout_47 : Cond.fieldLink RX2 47 (TX3 0).1 (TX3 0).2.1 (TX3 0).2.2.1 ∈ wsX2_morePiecesWithout := by decide +kernel
theorem ml105_X2_morePiecesWithout : Cond.methodLink RX2 105 Lib.Math.max.name ∈ wsX2_morePiecesWithout := by decide +kernel
theorem stmax_X2_morePiecesWithout : Cond.static Lib.Math.max.name ∈ wsX2_morePiecesWithout := by decide +kernel
theorem inJ9_X2_morePiecesWithout : Cond.initialized "java/lang/Math" ∈ wsX2_morePiecesWithout := by decide +kernel
theorem cdmax_X2_morePiecesWithout : Cond.code Lib.Math.max.name Lib.Math.max.code 2 (some .int) ∈ wsX2_morePiecesWithout := by decide +kernel
theorem inX4_X2_morePiecesWithout : Cond.initialized RX4 ∈ wsX2_morePiecesWithout := by decide +kernel
theorem stX4_contains_X2_morePiecesWithout : Cond.static yX4_contains ∈ wsX2_morePiecesWithout := by decide +kernel
set_option maxHeartbeats 400000 in
set_option maxRecDepth 100000 in
theorem c_X2_morePiecesWithout (l : Launch) (E : EE) (sz : Nat) (s0 t0 sP sD sS sL sF q1 q2 q3 q4 : Nat) (k n : Nat) (pc ds pr : Int32) (x : Nat) (po en : Nat → Int32) (g1 : x < 16) (gk : k ≤ 30) (gn : n ≤ 16) : Ci l yX2_morePiecesWithout wsX2_morePiecesWithout 2 47 E [.ref s0, .int (nI x)] [(s0, .inr (2, [.ref t0, .ref sP, .ref sD, .ref sS, .ref sL, .ref sF, .int pc, .int ds, .int pr])), (t0, .inr (3, [.int (nI n), .int (nI k), .ref q1, .ref q2, .ref q3, .ref q4])), (sP, aI E 16 po), (q4, aI E 30 en)] sz (mPr en po k n x) [(s0, .inr (2, [.ref t0, .ref sP, .ref sD, .ref sS, .ref sL, .ref sF, .int pc, .int ds, .int pr])), (t0, .inr (3, [.int (nI n), .int (nI k), .ref q1, .ref q2, .ref q3, .ref q4])), (sP, aI E 16 po), (q4, aI E 30 en)] := by
  refine C_of (QQ := QI E (mPr en po k n x) [(s0, .inr (2, [.ref t0, .ref sP, .ref sD, .ref sS, .ref sL, .ref sF, .int pc, .int ds, .int pr])), (t0, .inr (3, [.int (nI n), .int (nI k), .ref q1, .ref q2, .ref q3, .ref q4])), (sP, aI E 16 po), (q4, aI E 30 en)]) (cc := cX2_morePiecesWithout) (maxL := 6) (ret := (some .int)) (by decide +kernel) rfl (Nat.le_of_ble_eq_true rfl) ?_
  intro p e s m args below meth c A R Q ls hx hb hr hts hown hml hlocks hA hK hN hP hD hS hl hR hQ
  have hown : s.vm.findClass RX2 = some m.cls := hown
  have hl : lv_has ls 6 [(0, .ref s0), (1, .int (nI x))] := hl
  refine lv_aload_n hx hb dX2_morePiecesWithout_0 rfl (lv_at hl 0 rfl) ?_
  refine rk_get (ci := 2) (C := RX2) (T := TX2) (N := 9) hx hb hts iw_X2_morePiecesWithout_2 hown hK hP 0 rfl rfl 1 (by decide) fl_X2_morePiecesWithout_9 rfl (v := .ref sP) rfl dX2_morePiecesWithout_1 ?_
  refine lv_iload_n hx hb dX2_morePiecesWithout_4 rfl (lv_at hl 1 rfl) ?_
  refine rk_iald hx hb hK hP 2 rfl (by omega) (by omega) (v := po x) (rfl) dX2_morePiecesWithout_5 ?_
  refine lv_iconst (v := nI 1) hx hb dX2_morePiecesWithout_6 (by decide) ?_
  refine lv_iload_n hx hb dX2_morePiecesWithout_7 rfl (lv_at hl 1 rfl) ?_
  refine lv_ishl hx hb dX2_morePiecesWithout_8 ?_
  refine lv_iconst (v := (-1)) hx hb dX2_morePiecesWithout_9 (by decide) ?_
  refine lv_ixor hx hb dX2_morePiecesWithout_10 ?_
  refine lv_iand hx hb dX2_morePiecesWithout_11 ?_
  refine lv_istore_n (lv' := [(2, .int ((po x) &&& (((nI 1) <<< ((nI x) &&& 31)) ^^^ ((-1))))), (0, .ref s0), (1, .int (nI x))]) hx hb dX2_morePiecesWithout_12 rfl hl (by decide) rfl (fun ls hl => ?_)
  refine lv_aload_n hx hb dX2_morePiecesWithout_13 rfl (lv_at hl 1 rfl) ?_
  refine rk_get (ci := 2) (C := RX2) (T := TX2) (N := 9) hx hb hts iw_X2_morePiecesWithout_2 hown hK hP 0 rfl rfl 0 (by decide) fl_X2_morePiecesWithout_27 rfl (v := .ref t0) rfl dX2_morePiecesWithout_14 ?_
  refine kV_i (E := E) (As := []) (rest := []) (wr := [(s0, .inr (2, [.ref t0, .ref sP, .ref sD, .ref sS, .ref sL, .ref sF, .int pc, .int ds, .int pr])), (sP, aI E 16 po), (q4, aI E 30 en)]) ⟨hx, hb, hml, hown, hts⟩ (c_X3_allRoads (l := l) (E := E) (sz := _) (h0 := t0) (sc := nI n) (f1 := nI k) (q1 := q1) (q2 := q2) (q3 := q3) (q4 := q4) ) (cwV 0 hts gX2_morePiecesWithout_X3_allRoads rfl rfl rfl (by decide +kernel) ⟨by rw [hR]; decide, by rw [hR]; decide⟩) hK hN hP hD hS hA [1] [0, 2, 3] rfl (by decide) rfl (by decide) (by decide) 1 3 rfl rfl rfl hl.1 rfl (Nat.le_of_ble_eq_true rfl) dX2_morePiecesWithout_17 ⟨Nat.zero_le _, Nat.zero_le _⟩ (fun H locs hP hD hS => ?_)
  have hP : va_P E.1 vwCl [(s0, .inr (2, [.ref t0, .ref sP, .ref sD, .ref sS, .ref sL, .ref sF, .int pc, .int ds, .int pr])), (sP, aI E 16 po), (q4, aI E 30 en), (t0, .inr (3, [.int (nI n), .int (nI k), .ref q1, .ref q2, .ref q3, .ref q4]))] H := hP
  have hD : va_D A [(s0, .inr (2, [.ref t0, .ref sP, .ref sD, .ref sS, .ref sL, .ref sF, .int pc, .int ds, .int pr])), (sP, aI E 16 po), (q4, aI E 30 en), (t0, .inr (3, [.int (nI n), .int (nI k), .ref q1, .ref q2, .ref q3, .ref q4]))] := hD
  refine lv_aload_n hx hb dX2_morePiecesWithout_20 rfl (lv_at hl 1 rfl) ?_
  refine rk_get (ci := 2) (C := RX2) (T := TX2) (N := 9) hx hb hts iw_X2_morePiecesWithout_2 hown hK hP 0 rfl rfl 0 (by decide) fl_X2_morePiecesWithout_27 rfl (v := .ref t0) rfl dX2_morePiecesWithout_21 ?_
  refine lv_iload_n hx hb dX2_morePiecesWithout_24 rfl (lv_at hl 2 rfl) ?_
  refine kV_i (E := E) (As := [.int (nI x)]) (rest := [.int (allR (nI k))]) (wr := [(s0, .inr (2, [.ref t0, .ref sP, .ref sD, .ref sS, .ref sL, .ref sF, .int pc, .int ds, .int pr])), (sP, aI E 16 po)]) ⟨hx, hb, hml, hown, hts⟩ (c_X3_roadsAt (l := l) (E := E) (sz := _) (h0 := t0) (q1 := q1) (q2 := q2) (q3 := q3) (q4 := q4) (sc := nI n) (k := k) (en := en) (x := nI x) (hk := by first | assumption | omega)) (cwV 1 hts gX2_morePiecesWithout_X3_roadsAt rfl rfl rfl (by decide +kernel) ⟨by rw [hR]; decide, by rw [hR]; decide⟩) hK hN hP hD hS hA [3, 2] [0, 1] rfl (by decide) rfl (by decide) (by decide) 3 3 rfl rfl rfl hl.1 rfl (Nat.le_of_ble_eq_true rfl) dX2_morePiecesWithout_25 ⟨Nat.zero_le _, Nat.zero_le _⟩ (fun H locs hP hD hS => ?_)
  have hP : va_P E.1 vwCl [(s0, .inr (2, [.ref t0, .ref sP, .ref sD, .ref sS, .ref sL, .ref sF, .int pc, .int ds, .int pr])), (sP, aI E 16 po), (t0, .inr (3, [.int (nI n), .int (nI k), .ref q1, .ref q2, .ref q3, .ref q4])), (q4, aI E 30 en)] H := hP
  have hD : va_D A [(s0, .inr (2, [.ref t0, .ref sP, .ref sD, .ref sS, .ref sL, .ref sF, .int pc, .int ds, .int pr])), (sP, aI E 16 po), (t0, .inr (3, [.int (nI n), .int (nI k), .ref q1, .ref q2, .ref q3, .ref q4])), (q4, aI E 30 en)] := hD
  refine lv_iconst (v := (-1)) hx hb dX2_morePiecesWithout_28 (by decide) ?_
  refine lv_ixor hx hb dX2_morePiecesWithout_29 ?_
  refine lv_iand hx hb dX2_morePiecesWithout_30 ?_
  refine lv_istore_n (lv' := [(3, .int ((allR (nI k)) &&& ((rAt en (nI x) k) ^^^ ((-1))))), (2, .int ((po x) &&& (((nI 1) <<< ((nI x) &&& 31)) ^^^ ((-1))))), (0, .ref s0), (1, .int (nI x))]) hx hb dX2_morePiecesWithout_31 rfl hl (by decide) rfl (fun ls hl => ?_)
  refine lv_iconst (v := nI 0) hx hb dX2_morePiecesWithout_32 (by decide) ?_
  refine lv_istore (lv' := [(4, .int (nI 0)), (3, .int ((allR (nI k)) &&& ((rAt en (nI x) k) ^^^ ((-1))))), (2, .int ((po x) &&& (((nI 1) <<< ((nI x) &&& 31)) ^^^ ((-1))))), (0, .ref s0), (1, .int (nI x))]) hx hb dX2_morePiecesWithout_33 hl (by decide) rfl (fun ls hl => ?_)
  refine lv_iconst (v := nI 0) hx hb dX2_morePiecesWithout_35 (by decide) ?_
  refine lv_istore (lv' := [(5, .int (nI 0)), (4, .int (nI 0)), (3, .int ((allR (nI k)) &&& ((rAt en (nI x) k) ^^^ ((-1))))), (2, .int ((po x) &&& (((nI 1) <<< ((nI x) &&& 31)) ^^^ ((-1))))), (0, .ref s0), (1, .int (nI x))]) hx hb dX2_morePiecesWithout_36 hl (by decide) rfl (fun ls hl => ?_)
  have L38 : ∀ (fu : Nat) (o : Int32) (cn i : Nat), (eo : o = (mPw (rsC en (allR (nI k) &&& (rAt en (nI x) k ^^^ (-1))) k) (po x &&& ((nI 1 <<< (nI x &&& 31)) ^^^ (-1))) i).1) → (ec : cn = (mPw (rsC en (allR (nI k) &&& (rAt en (nI x) k ^^^ (-1))) k) (po x &&& ((nI 1 <<< (nI x &&& 31)) ^^^ (-1))) i).2) → (gi : i ≤ n) → n - i < fu → ∀ (H : Heap) (locs : List Loc), va_P E.1 vwCl [(s0, .inr (2, [.ref t0, .ref sP, .ref sD, .ref sS, .ref sL, .ref sF, .int pc, .int ds, .int pr])), (sP, aI E 16 po), (t0, .inr (3, [.int (nI n), .int (nI k), .ref q1, .ref q2, .ref q3, .ref q4])), (q4, aI E 30 en)] H → va_D A [(s0, .inr (2, [.ref t0, .ref sP, .ref sD, .ref sS, .ref sL, .ref sF, .int pc, .int ds, .int pr])), (sP, aI E 16 po), (t0, .inr (3, [.int (nI n), .int (nI k), .ref q1, .ref q2, .ref q3, .ref q4])), (q4, aI E 30 en)] → va_S A s.heap H locs → ∀ (ls : Array Slot), lv_has ls 6 [(5, .int (nI i)), (4, .int (nI cn)), (3, .int ((allR (nI k)) &&& ((rAt en (nI x) k) ^^^ ((-1))))), (2, .int o), (0, .ref s0), (1, .int (nI x))] → W p l e R s m args below meth c H locs 0 0 Q (F0 m 38 ls []) := by
    intro fu
    induction fu with
    | zero => intro o cn i eo ec gi hfu; exact absurd hfu (Nat.not_lt_zero _)
    | succ fu ih38 =>
      intro o cn i eo ec gi hfu H locs hP hD hS ls hl
      refine lv_iload hx hb dX2_morePiecesWithout_38 (lv_at hl 0 rfl) ?_
      refine lv_aload_n hx hb dX2_morePiecesWithout_40 rfl (lv_at hl 4 rfl) ?_
      refine rk_get (ci := 2) (C := RX2) (T := TX2) (N := 9) hx hb hts iw_X2_morePiecesWithout_2 hown hK hP 0 rfl rfl 0 (by decide) fl_X2_morePiecesWithout_27 rfl (v := .ref t0) rfl dX2_morePiecesWithout_41 ?_
      refine rk_get (ci := 3) (C := RX3) (T := TX3) (N := 6) hx hb hts iw_X2_morePiecesWithout_3 hown hK hP 2 rfl rfl 0 (by decide) fl_X2_morePiecesWithout_47 rfl (v := .int (nI n)) rfl dX2_morePiecesWithout_44 ?_
      refine rk_geN (tgt := 83) hx hb (by omega) (by omega) dX2_morePiecesWithout_47 (by decide) (fun zc47 => ?_) (fun zc47 => ?_)
      · refine lv_iload hx hb dX2_morePiecesWithout_83 (lv_at hl 1 rfl) ?_
        refine lv_iconst (v := nI 1) hx hb dX2_morePiecesWithout_85 (by decide) ?_
        refine lv_isub hx hb dX2_morePiecesWithout_86 ?_
        refine lv_iconst (v := nI 0) hx hb dX2_morePiecesWithout_87 (by decide) ?_
        refine va_mmax hx hb (hml.trans hl.1.symm) hown (hts _ ml105_X2_morePiecesWithout) (hts _ stmax_X2_morePiecesWithout) (hts _ inJ9_X2_morePiecesWithout) (hts _ cdmax_X2_morePiecesWithout) (by rw [hR]; decide) (by rw [hR]; exact Nat.le_of_ble_eq_true rfl) (Nat.zero_le _) (Nat.zero_le _) dX2_morePiecesWithout_88 ?_
        exact ret_i hQ hx hb hr hlocks (hP.sub [0, 2, 1, 3] rfl) (hD.sub [0, 2, 1, 3] (by decide) rfl) hS dX2_morePiecesWithout_91 (by obtain rfl : n = i := (by omega); subst ec; rfl)
      · refine lv_iload_n hx hb dX2_morePiecesWithout_50 rfl (lv_at hl 3 rfl) ?_
        refine lv_iload hx hb dX2_morePiecesWithout_51 (lv_at hl 0 rfl) ?_
        refine kSN_i (E := E) (As := [.int o, .int (nI i)]) (rest := []) (wr := [(s0, .inr (2, [.ref t0, .ref sP, .ref sD, .ref sS, .ref sL, .ref sF, .int pc, .int ds, .int pr])), (sP, aI E 16 po), (t0, .inr (3, [.int (nI n), .int (nI k), .ref q1, .ref q2, .ref q3, .ref q4])), (q4, aI E 30 en)]) ⟨hx, hb, hml, hown, hts⟩ (c_X4_contains (l := l) (E := E) (sz := _) (x := o) (y := nI i) ) ⟨va_cnB 2 hts gX2_morePiecesWithout_X4_contains_n52 rfl rfl rfl hN.2.1 (hts _ inX4_X2_morePiecesWithout) (by decide +kernel) ⟨by rw [hR]; decide, by rw [hR]; decide⟩, hts _ stX4_contains_X2_morePiecesWithout, trivial⟩ hK hN hP hD hS hA [] [0, 1, 2, 3] rfl (by decide) rfl (by decide) (by decide) rfl hl.1 rfl (Nat.le_of_ble_eq_true rfl) dX2_morePiecesWithout_53 ⟨Nat.zero_le _, Nat.zero_le _⟩ (fun H locs hP hD hS => ?_)
        have hP : va_P E.1 vwCl [(s0, .inr (2, [.ref t0, .ref sP, .ref sD, .ref sS, .ref sL, .ref sF, .int pc, .int ds, .int pr])), (sP, aI E 16 po), (t0, .inr (3, [.int (nI n), .int (nI k), .ref q1, .ref q2, .ref q3, .ref q4])), (q4, aI E 30 en)] H := hP
        have hD : va_D A [(s0, .inr (2, [.ref t0, .ref sP, .ref sD, .ref sS, .ref sL, .ref sF, .int pc, .int ds, .int pr])), (sP, aI E 16 po), (t0, .inr (3, [.int (nI n), .int (nI k), .ref q1, .ref q2, .ref q3, .ref q4])), (q4, aI E 30 en)] := hD
        refine rk_if_eqB (tgt := 77) hx hb dX2_morePiecesWithout_56 (by decide) (fun zc56 => ?_) (fun zc56 => ?_)
        · refine lv_iinc (v := nI (i + 1)) (lv' := [(5, .int (nI (i + 1))), (4, .int (nI cn)), (3, .int ((allR (nI k)) &&& ((rAt en (nI x) k) ^^^ ((-1))))), (2, .int o), (0, .ref s0), (1, .int (nI x))]) hx hb dX2_morePiecesWithout_77 hl (k := 0) rfl (by rw [show Int32.ofInt 1 = nI 1 by decide]; exact nI_add _ _) (by decide) rfl (fun ls hl => ?_)
          refine lv_goto (tgt := 38) hx hb dX2_morePiecesWithout_80 (by decide) ?_
          exact ih38 o cn (i + 1) (by subst eo; subst ec; rw [mPw_f zc56]) (by subst eo; subst ec; rw [mPw_f zc56]) (by first | assumption | omega | rfl) (by omega) _ _ (hP.sub [0, 1, 2, 3] rfl) (hD.sub [0, 1, 2, 3] (by decide) rfl) hS ls (lv_sub hl [0, 1, 2, 3, 4, 5] rfl)
        · refine lv_iload_n hx hb dX2_morePiecesWithout_59 rfl (lv_at hl 3 rfl) ?_
          refine lv_aload_n hx hb dX2_morePiecesWithout_60 rfl (lv_at hl 4 rfl) ?_
          refine rk_get (ci := 2) (C := RX2) (T := TX2) (N := 9) hx hb hts iw_X2_morePiecesWithout_2 hown hK hP 0 rfl rfl 0 (by decide) fl_X2_morePiecesWithout_27 rfl (v := .ref t0) rfl dX2_morePiecesWithout_61 ?_
          refine lv_iload hx hb dX2_morePiecesWithout_64 (lv_at hl 0 rfl) ?_
          refine lv_iload_n hx hb dX2_morePiecesWithout_66 rfl (lv_at hl 2 rfl) ?_
          refine kV_i (E := E) (As := [.int (nI i), .int ((allR (nI k)) &&& ((rAt en (nI x) k) ^^^ ((-1))))]) (rest := [.int o]) (wr := [(s0, .inr (2, [.ref t0, .ref sP, .ref sD, .ref sS, .ref sL, .ref sF, .int pc, .int ds, .int pr])), (sP, aI E 16 po)]) ⟨hx, hb, hml, hown, hts⟩ (c_X3_reach (l := l) (E := E) (sz := _) (h0 := t0) (q1 := q1) (q2 := q2) (q3 := q3) (q4 := q4) (sc := nI n) (k := k) (en := en) (q := i) (w := (allR (nI k)) &&& ((rAt en (nI x) k) ^^^ ((-1)))) (hk := by first | assumption | omega) (hq := by first | assumption | omega)) (cwV 2 hts gX2_morePiecesWithout_X3_reach rfl rfl rfl (by decide +kernel) ⟨by rw [hR]; decide, by rw [hR]; decide⟩) hK hN hP hD hS hA [2, 3] [0, 1] rfl (by decide) rfl (by decide) (by decide) 2 3 rfl rfl rfl hl.1 rfl (Nat.le_of_ble_eq_true rfl) dX2_morePiecesWithout_67 ⟨Nat.zero_le _, Nat.zero_le _⟩ (fun H locs hP hD hS => ?_)
          have hP : va_P E.1 vwCl [(s0, .inr (2, [.ref t0, .ref sP, .ref sD, .ref sS, .ref sL, .ref sF, .int pc, .int ds, .int pr])), (sP, aI E 16 po), (t0, .inr (3, [.int (nI n), .int (nI k), .ref q1, .ref q2, .ref q3, .ref q4])), (q4, aI E 30 en)] H := hP
          have hD : va_D A [(s0, .inr (2, [.ref t0, .ref sP, .ref sD, .ref sS, .ref sL, .ref sF, .int pc, .int ds, .int pr])), (sP, aI E 16 po), (t0, .inr (3, [.int (nI n), .int (nI k), .ref q1, .ref q2, .ref q3, .ref q4])), (q4, aI E 30 en)] := hD
          refine lv_iconst (v := (-1)) hx hb dX2_morePiecesWithout_70 (by decide) ?_
          refine lv_ixor hx hb dX2_morePiecesWithout_71 ?_
          refine lv_iand hx hb dX2_morePiecesWithout_72 ?_
          refine lv_istore_n (lv' := [(2, .int (o &&& ((rsC en ((allR (nI k)) &&& ((rAt en (nI x) k) ^^^ ((-1)))) k i) ^^^ ((-1))))), (5, .int (nI i)), (4, .int (nI cn)), (3, .int ((allR (nI k)) &&& ((rAt en (nI x) k) ^^^ ((-1))))), (0, .ref s0), (1, .int (nI x))]) hx hb dX2_morePiecesWithout_73 rfl hl (by decide) rfl (fun ls hl => ?_)
          refine lv_iinc (v := nI (cn + 1)) (lv' := [(4, .int (nI (cn + 1))), (2, .int (o &&& ((rsC en ((allR (nI k)) &&& ((rAt en (nI x) k) ^^^ ((-1)))) k i) ^^^ ((-1))))), (5, .int (nI i)), (3, .int ((allR (nI k)) &&& ((rAt en (nI x) k) ^^^ ((-1))))), (0, .ref s0), (1, .int (nI x))]) hx hb dX2_morePiecesWithout_74 hl (k := 2) rfl (by rw [show Int32.ofInt 1 = nI 1 by decide]; exact nI_add _ _) (by decide) rfl (fun ls hl => ?_)
          refine lv_iinc (v := nI (i + 1)) (lv' := [(5, .int (nI (i + 1))), (4, .int (nI (cn + 1))), (2, .int (o &&& ((rsC en ((allR (nI k)) &&& ((rAt en (nI x) k) ^^^ ((-1)))) k i) ^^^ ((-1))))), (3, .int ((allR (nI k)) &&& ((rAt en (nI x) k) ^^^ ((-1))))), (0, .ref s0), (1, .int (nI x))]) hx hb dX2_morePiecesWithout_77 hl (k := 2) rfl (by rw [show Int32.ofInt 1 = nI 1 by decide]; exact nI_add _ _) (by decide) rfl (fun ls hl => ?_)
          refine lv_goto (tgt := 38) hx hb dX2_morePiecesWithout_80 (by decide) ?_
          exact ih38 (o &&& ((rsC en ((allR (nI k)) &&& ((rAt en (nI x) k) ^^^ ((-1)))) k i) ^^^ ((-1)))) (cn + 1) (i + 1) (by subst eo; subst ec; rw [mPw_t zc56]) (by subst eo; subst ec; rw [mPw_t zc56]) (by first | assumption | omega | rfl) (by omega) _ _ (hP.sub [0, 1, 2, 3] rfl) (hD.sub [0, 1, 2, 3] (by decide) rfl) hS ls (lv_sub hl [0, 1, 3, 2, 4, 5] rfl)
  exact L38 ((n - 0) + 1) ((po x) &&& (((nI 1) <<< ((nI x) &&& 31)) ^^^ ((-1)))) 0 0 (rfl) (rfl) (by first | assumption | omega | rfl) (Nat.lt_succ_self _) _ _ (hP.sub [0, 1, 2, 3] rfl) (hD.sub [0, 1, 2, 3] (by decide) rfl) hS ls (lv_sub hl [0, 1, 2, 3, 4, 5] rfl)
theorem iw_X2_partingSquares_2 : ∀ w ∈ u_ws RX2 TX2 9, w ∈ wsX2_partingSquares := by decide +kernel
theorem fl_X2_partingSquares_27 : Cond.fieldLink RX2 27 (TX2 0).1 (TX2 0).2.1 (TX2 0).2.2.1 ∈ wsX2_partingSquares := by decide +kernel
theorem iw_X2_partingSquares_3 : ∀ w ∈ u_ws RX3 TX3 6, w ∈ wsX2_partingSquares := by decide +kernel
theorem fl_X2_partingSquares_47 : Cond.fieldLink RX2 47 (TX3 0).1 (TX3 0).2.1 (TX3 0).2.2.1 ∈ wsX2_partingSquares := by decide +kernel
set_option maxHeartbeats 400000 in
set_option maxRecDepth 100000 in
theorem c_X2_partingSquares (l : Launch) (E : EE) (sz : Nat) (s0 t0 sP sD sS sL sF q1 q2 q3 q4 : Nat) (k n : Nat) (pc ds pr : Int32) (po en : Nat → Int32) (gk : k ≤ 30) (gn : n ≤ 16) : Ci l yX2_partingSquares wsX2_partingSquares 3 72 E [.ref s0] [(s0, .inr (2, [.ref t0, .ref sP, .ref sD, .ref sS, .ref sL, .ref sF, .int pc, .int ds, .int pr])), (t0, .inr (3, [.int (nI n), .int (nI k), .ref q1, .ref q2, .ref q3, .ref q4])), (sP, aI E 16 po), (q4, aI E 30 en)] sz (nI (pSq (mPr en po k n) n)) [(s0, .inr (2, [.ref t0, .ref sP, .ref sD, .ref sS, .ref sL, .ref sF, .int pc, .int ds, .int pr])), (t0, .inr (3, [.int (nI n), .int (nI k), .ref q1, .ref q2, .ref q3, .ref q4])), (sP, aI E 16 po), (q4, aI E 30 en)] := by
  refine C_of (QQ := QI E (nI (pSq (mPr en po k n) n)) [(s0, .inr (2, [.ref t0, .ref sP, .ref sD, .ref sS, .ref sL, .ref sF, .int pc, .int ds, .int pr])), (t0, .inr (3, [.int (nI n), .int (nI k), .ref q1, .ref q2, .ref q3, .ref q4])), (sP, aI E 16 po), (q4, aI E 30 en)]) (cc := cX2_partingSquares) (maxL := 3) (ret := (some .int)) (by decide +kernel) rfl (Nat.le_of_ble_eq_true rfl) ?_
  intro p e s m args below meth c A R Q ls hx hb hr hts hown hml hlocks hA hK hN hP hD hS hl hR hQ
  have hown : s.vm.findClass RX2 = some m.cls := hown
  have hl : lv_has ls 3 [(0, .ref s0)] := hl
  refine lv_iconst (v := nI 0) hx hb dX2_partingSquares_0 (by decide) ?_
  refine lv_istore_n (lv' := [(1, .int (nI 0)), (0, .ref s0)]) hx hb dX2_partingSquares_1 rfl hl (by decide) rfl (fun ls hl => ?_)
  refine lv_iconst (v := nI 0) hx hb dX2_partingSquares_2 (by decide) ?_
  refine lv_istore_n (lv' := [(2, .int (nI 0)), (1, .int (nI 0)), (0, .ref s0)]) hx hb dX2_partingSquares_3 rfl hl (by decide) rfl (fun ls hl => ?_)
  have L4 : ∀ (fu : Nat) (cn i : Nat), (ec : cn = pSq (mPr en po k n) i) → (gi : i ≤ n) → n - i < fu → ∀ (H : Heap) (locs : List Loc), va_P E.1 vwCl [(s0, .inr (2, [.ref t0, .ref sP, .ref sD, .ref sS, .ref sL, .ref sF, .int pc, .int ds, .int pr])), (t0, .inr (3, [.int (nI n), .int (nI k), .ref q1, .ref q2, .ref q3, .ref q4])), (sP, aI E 16 po), (q4, aI E 30 en)] H → va_D A [(s0, .inr (2, [.ref t0, .ref sP, .ref sD, .ref sS, .ref sL, .ref sF, .int pc, .int ds, .int pr])), (t0, .inr (3, [.int (nI n), .int (nI k), .ref q1, .ref q2, .ref q3, .ref q4])), (sP, aI E 16 po), (q4, aI E 30 en)] → va_S A s.heap H locs → ∀ (ls : Array Slot), lv_has ls 3 [(2, .int (nI i)), (1, .int (nI cn)), (0, .ref s0)] → W p l e R s m args below meth c H locs 0 0 Q (F0 m 4 ls []) := by
    intro fu
    induction fu with
    | zero => intro cn i ec gi hfu; exact absurd hfu (Nat.not_lt_zero _)
    | succ fu ih4 =>
      intro cn i ec gi hfu H locs hP hD hS ls hl
      refine lv_iload_n hx hb dX2_partingSquares_4 rfl (lv_at hl 0 rfl) ?_
      refine lv_aload_n hx hb dX2_partingSquares_5 rfl (lv_at hl 2 rfl) ?_
      refine rk_get (ci := 2) (C := RX2) (T := TX2) (N := 9) hx hb hts iw_X2_partingSquares_2 hown hK hP 0 rfl rfl 0 (by decide) fl_X2_partingSquares_27 rfl (v := .ref t0) rfl dX2_partingSquares_6 ?_
      refine rk_get (ci := 3) (C := RX3) (T := TX3) (N := 6) hx hb hts iw_X2_partingSquares_3 hown hK hP 1 rfl rfl 0 (by decide) fl_X2_partingSquares_47 rfl (v := .int (nI n)) rfl dX2_partingSquares_9 ?_
      refine rk_geN (tgt := 32) hx hb (by omega) (by omega) dX2_partingSquares_12 (by decide) (fun zc12 => ?_) (fun zc12 => ?_)
      · refine lv_iload_n hx hb dX2_partingSquares_32 rfl (lv_at hl 1 rfl) ?_
        exact ret_i hQ hx hb hr hlocks (hP.sub [0, 1, 2, 3] rfl) (hD.sub [0, 1, 2, 3] (by decide) rfl) hS dX2_partingSquares_33 (by obtain rfl : n = i := (by omega); rw [ec])
      · refine lv_aload_n hx hb dX2_partingSquares_15 rfl (lv_at hl 2 rfl) ?_
        refine lv_iload_n hx hb dX2_partingSquares_16 rfl (lv_at hl 0 rfl) ?_
        refine kV_i (E := E) (As := [.int (nI i)]) (rest := []) (wr := []) ⟨hx, hb, hml, hown, hts⟩ (c_X2_morePiecesWithout (l := l) (E := E) (sz := _) (s0 := s0) (t0 := t0) (sP := sP) (sD := sD) (sS := sS) (sL := sL) (sF := sF) (q1 := q1) (q2 := q2) (q3 := q3) (q4 := q4) (k := k) (n := n) (pc := pc) (ds := ds) (pr := pr) (x := i) (po := po) (en := en) (g1 := by first | assumption | omega) (gk := by first | assumption | omega) (gn := by first | assumption | omega)) (cwV 1 hts gX2_partingSquares_X2_morePiecesWithout rfl rfl rfl (by decide +kernel) ⟨by rw [hR]; decide, by rw [hR]; decide⟩) hK hN hP hD hS hA [0, 1, 2, 3] [] rfl (by decide) rfl (by decide) (by decide) 0 2 rfl rfl rfl hl.1 rfl (Nat.le_of_ble_eq_true rfl) dX2_partingSquares_17 ⟨Nat.zero_le _, Nat.zero_le _⟩ (fun H locs hP hD hS => ?_)
        have hP : va_P E.1 vwCl [(s0, .inr (2, [.ref t0, .ref sP, .ref sD, .ref sS, .ref sL, .ref sF, .int pc, .int ds, .int pr])), (t0, .inr (3, [.int (nI n), .int (nI k), .ref q1, .ref q2, .ref q3, .ref q4])), (sP, aI E 16 po), (q4, aI E 30 en)] H := hP
        have hD : va_D A [(s0, .inr (2, [.ref t0, .ref sP, .ref sD, .ref sS, .ref sL, .ref sF, .int pc, .int ds, .int pr])), (t0, .inr (3, [.int (nI n), .int (nI k), .ref q1, .ref q2, .ref q3, .ref q4])), (sP, aI E 16 po), (q4, aI E 30 en)] := hD
        refine lv_if_le (tgt := 26) hx hb dX2_partingSquares_20 (by decide) (fun zc20 => ?_) (fun zc20 => ?_)
        · refine lv_iinc (v := nI (i + 1)) (lv' := [(2, .int (nI (i + 1))), (1, .int (nI cn)), (0, .ref s0)]) hx hb dX2_partingSquares_26 hl (k := 0) rfl (by rw [show Int32.ofInt 1 = nI 1 by decide]; exact nI_add _ _) (by decide) rfl (fun ls hl => ?_)
          refine lv_goto (tgt := 4) hx hb dX2_partingSquares_29 (by decide) ?_
          exact ih4 cn (i + 1) (by subst ec; simp only [pSq]; exact (if_pos zc20).symm) (by first | assumption | omega | rfl) (by omega) _ _ (hP.sub [0, 1, 2, 3] rfl) (hD.sub [0, 1, 2, 3] (by decide) rfl) hS ls (lv_sub hl [0, 1, 2] rfl)
        · refine lv_iinc (v := nI (cn + 1)) (lv' := [(1, .int (nI (cn + 1))), (2, .int (nI i)), (0, .ref s0)]) hx hb dX2_partingSquares_23 hl (k := 1) rfl (by rw [show Int32.ofInt 1 = nI 1 by decide]; exact nI_add _ _) (by decide) rfl (fun ls hl => ?_)
          refine lv_iinc (v := nI (i + 1)) (lv' := [(2, .int (nI (i + 1))), (1, .int (nI (cn + 1))), (0, .ref s0)]) hx hb dX2_partingSquares_26 hl (k := 1) rfl (by rw [show Int32.ofInt 1 = nI 1 by decide]; exact nI_add _ _) (by decide) rfl (fun ls hl => ?_)
          refine lv_goto (tgt := 4) hx hb dX2_partingSquares_29 (by decide) ?_
          exact ih4 (cn + 1) (i + 1) (by subst ec; simp only [pSq]; exact (if_neg zc20).symm) (by first | assumption | omega | rfl) (by omega) _ _ (hP.sub [0, 1, 2, 3] rfl) (hD.sub [0, 1, 2, 3] (by decide) rfl) hS ls (lv_sub hl [0, 1, 2] rfl)
  exact L4 ((n - 0) + 1) 0 0 (rfl) (by first | assumption | omega | rfl) (Nat.lt_succ_self _) _ _ (hP.sub [0, 1, 2, 3] rfl) (hD.sub [0, 1, 2, 3] (by decide) rfl) hS ls (lv_sub hl [0, 1, 2] rfl)
theorem iw_X2_partingRoadsOut_2 : ∀ w ∈ u_ws RX2 TX2 9, w ∈ wsX2_partingRoadsOut := by decide +kernel
theorem fl_X2_partingRoadsOut_27 : Cond.fieldLink RX2 27 (TX2 0).1 (TX2 0).2.1 (TX2 0).2.2.1 ∈ wsX2_partingRoadsOut := by decide +kernel
theorem iw_X2_partingRoadsOut_3 : ∀ w ∈ u_ws RX3 TX3 6, w ∈ wsX2_partingRoadsOut := by decide +kernel
theorem fl_X2_partingRoadsOut_71 : Cond.fieldLink RX2 71 (TX3 1).1 (TX3 1).2.1 (TX3 1).2.2.1 ∈ wsX2_partingRoadsOut := by decide +kernel
theorem fl_X2_partingRoadsOut_68 : Cond.fieldLink RX2 68 (TX2 8).1 (TX2 8).2.1 (TX2 8).2.2.1 ∈ wsX2_partingRoadsOut := by decide +kernel
theorem inX4_X2_partingRoadsOut : Cond.initialized RX4 ∈ wsX2_partingRoadsOut := by decide +kernel
theorem stX4_contains_X2_partingRoadsOut : Cond.static yX4_contains ∈ wsX2_partingRoadsOut := by decide +kernel
theorem fl_X2_partingRoadsOut_113 : Cond.fieldLink RX2 113 (TX3 5).1 (TX3 5).2.1 (TX3 5).2.2.1 ∈ wsX2_partingRoadsOut := by decide +kernel
set_option maxHeartbeats 400000 in
set_option maxRecDepth 100000 in
theorem c_X2_partingRoadsOut (l : Launch) (E : EE) (sz : Nat) (s0 t0 sP sD sS sL sF q1 q2 q3 q4 : Nat) (sc : Int32) (k : Nat) (pc ds pr mm : Int32) (en : Nat → Int32) (gk : k ≤ 30) : Ci l yX2_partingRoadsOut wsX2_partingRoadsOut 1 21 E [.ref s0, .int mm] [(s0, .inr (2, [.ref t0, .ref sP, .ref sD, .ref sS, .ref sL, .ref sF, .int pc, .int ds, .int pr])), (t0, .inr (3, [.int sc, .int (nI k), .ref q1, .ref q2, .ref q3, .ref q4])), (q4, aI E 30 en)] sz (nI (pRo en pr mm k)) [(s0, .inr (2, [.ref t0, .ref sP, .ref sD, .ref sS, .ref sL, .ref sF, .int pc, .int ds, .int pr])), (t0, .inr (3, [.int sc, .int (nI k), .ref q1, .ref q2, .ref q3, .ref q4])), (q4, aI E 30 en)] := by
  refine C_of (QQ := QI E (nI (pRo en pr mm k)) [(s0, .inr (2, [.ref t0, .ref sP, .ref sD, .ref sS, .ref sL, .ref sF, .int pc, .int ds, .int pr])), (t0, .inr (3, [.int sc, .int (nI k), .ref q1, .ref q2, .ref q3, .ref q4])), (q4, aI E 30 en)]) (cc := cX2_partingRoadsOut) (maxL := 4) (ret := (some .int)) (by decide +kernel) rfl (Nat.le_of_ble_eq_true rfl) ?_
  intro p e s m args below meth c A R Q ls hx hb hr hts hown hml hlocks hA hK hN hP hD hS hl hR hQ
  have hown : s.vm.findClass RX2 = some m.cls := hown
  have hl : lv_has ls 4 [(0, .ref s0), (1, .int mm)] := hl
  refine lv_iconst (v := nI 0) hx hb dX2_partingRoadsOut_0 (by decide) ?_
  refine lv_istore_n (lv' := [(2, .int (nI 0)), (0, .ref s0), (1, .int mm)]) hx hb dX2_partingRoadsOut_1 rfl hl (by decide) rfl (fun ls hl => ?_)
  refine lv_iconst (v := nI 0) hx hb dX2_partingRoadsOut_2 (by decide) ?_
  refine lv_istore_n (lv' := [(3, .int (nI 0)), (2, .int (nI 0)), (0, .ref s0), (1, .int mm)]) hx hb dX2_partingRoadsOut_3 rfl hl (by decide) rfl (fun ls hl => ?_)
  have L4 : ∀ (fu : Nat) (cn i : Nat), (ec : cn = pRo en pr mm i) → (gi : i ≤ k) → k - i < fu → ∀ (H : Heap) (locs : List Loc), va_P E.1 vwCl [(s0, .inr (2, [.ref t0, .ref sP, .ref sD, .ref sS, .ref sL, .ref sF, .int pc, .int ds, .int pr])), (t0, .inr (3, [.int sc, .int (nI k), .ref q1, .ref q2, .ref q3, .ref q4])), (q4, aI E 30 en)] H → va_D A [(s0, .inr (2, [.ref t0, .ref sP, .ref sD, .ref sS, .ref sL, .ref sF, .int pc, .int ds, .int pr])), (t0, .inr (3, [.int sc, .int (nI k), .ref q1, .ref q2, .ref q3, .ref q4])), (q4, aI E 30 en)] → va_S A s.heap H locs → ∀ (ls : Array Slot), lv_has ls 4 [(3, .int (nI i)), (2, .int (nI cn)), (0, .ref s0), (1, .int mm)] → W p l e R s m args below meth c H locs 0 0 Q (F0 m 4 ls []) := by
    intro fu
    induction fu with
    | zero => intro cn i ec gi hfu; exact absurd hfu (Nat.not_lt_zero _)
    | succ fu ih4 =>
      intro cn i ec gi hfu H locs hP hD hS ls hl
      refine lv_iload_n hx hb dX2_partingRoadsOut_4 rfl (lv_at hl 0 rfl) ?_
      refine lv_aload_n hx hb dX2_partingRoadsOut_5 rfl (lv_at hl 2 rfl) ?_
      refine rk_get (ci := 2) (C := RX2) (T := TX2) (N := 9) hx hb hts iw_X2_partingRoadsOut_2 hown hK hP 0 rfl rfl 0 (by decide) fl_X2_partingRoadsOut_27 rfl (v := .ref t0) rfl dX2_partingRoadsOut_6 ?_
      refine rk_get (ci := 3) (C := RX3) (T := TX3) (N := 6) hx hb hts iw_X2_partingRoadsOut_3 hown hK hP 1 rfl rfl 1 (by decide) fl_X2_partingRoadsOut_71 rfl (v := .int (nI k)) rfl dX2_partingRoadsOut_9 ?_
      refine rk_geN (tgt := 49) hx hb (by omega) (by omega) dX2_partingRoadsOut_12 (by decide) (fun zc12 => ?_) (fun zc12 => ?_)
      · refine lv_iload_n hx hb dX2_partingRoadsOut_49 rfl (lv_at hl 1 rfl) ?_
        exact ret_i hQ hx hb hr hlocks (hP.sub [0, 1, 2] rfl) (hD.sub [0, 1, 2] (by decide) rfl) hS dX2_partingRoadsOut_50 (by obtain rfl : k = i := (by omega); rw [ec])
      · refine lv_aload_n hx hb dX2_partingRoadsOut_15 rfl (lv_at hl 2 rfl) ?_
        refine rk_get (ci := 2) (C := RX2) (T := TX2) (N := 9) hx hb hts iw_X2_partingRoadsOut_2 hown hK hP 0 rfl rfl 8 (by decide) fl_X2_partingRoadsOut_68 rfl (v := .int pr) rfl dX2_partingRoadsOut_16 ?_
        refine lv_iload_n hx hb dX2_partingRoadsOut_19 rfl (lv_at hl 0 rfl) ?_
        refine kSN_i (E := E) (As := [.int pr, .int (nI i)]) (rest := []) (wr := [(s0, .inr (2, [.ref t0, .ref sP, .ref sD, .ref sS, .ref sL, .ref sF, .int pc, .int ds, .int pr])), (t0, .inr (3, [.int sc, .int (nI k), .ref q1, .ref q2, .ref q3, .ref q4])), (q4, aI E 30 en)]) ⟨hx, hb, hml, hown, hts⟩ (c_X4_contains (l := l) (E := E) (sz := _) (x := pr) (y := nI i) ) ⟨va_cnB 2 hts gX2_partingRoadsOut_X4_contains_n52 rfl rfl rfl hN.2.1 (hts _ inX4_X2_partingRoadsOut) (by decide +kernel) ⟨by rw [hR]; decide, by rw [hR]; decide⟩, hts _ stX4_contains_X2_partingRoadsOut, trivial⟩ hK hN hP hD hS hA [] [0, 1, 2] rfl (by decide) rfl (by decide) (by decide) rfl hl.1 rfl (Nat.le_of_ble_eq_true rfl) dX2_partingRoadsOut_20 ⟨Nat.zero_le _, Nat.zero_le _⟩ (fun H locs hP hD hS => ?_)
        have hP : va_P E.1 vwCl [(s0, .inr (2, [.ref t0, .ref sP, .ref sD, .ref sS, .ref sL, .ref sF, .int pc, .int ds, .int pr])), (t0, .inr (3, [.int sc, .int (nI k), .ref q1, .ref q2, .ref q3, .ref q4])), (q4, aI E 30 en)] H := hP
        have hD : va_D A [(s0, .inr (2, [.ref t0, .ref sP, .ref sD, .ref sS, .ref sL, .ref sF, .int pc, .int ds, .int pr])), (t0, .inr (3, [.int sc, .int (nI k), .ref q1, .ref q2, .ref q3, .ref q4])), (q4, aI E 30 en)] := hD
        refine rk_if_eqB (tgt := 43) hx hb dX2_partingRoadsOut_23 (by decide) (fun zc23 => ?_) (fun zc23 => ?_)
        · refine lv_iinc (v := nI (i + 1)) (lv' := [(3, .int (nI (i + 1))), (2, .int (nI cn)), (0, .ref s0), (1, .int mm)]) hx hb dX2_partingRoadsOut_43 hl (k := 0) rfl (by rw [show Int32.ofInt 1 = nI 1 by decide]; exact nI_add _ _) (by decide) rfl (fun ls hl => ?_)
          refine lv_goto (tgt := 4) hx hb dX2_partingRoadsOut_46 (by decide) ?_
          exact ih4 cn (i + 1) (by subst ec; simp only [pRo]; exact (ifn1 (by rw [zc23]; decide)).symm) (by first | assumption | omega | rfl) (by omega) _ _ (hP.sub [0, 1, 2] rfl) (hD.sub [0, 1, 2] (by decide) rfl) hS ls (lv_sub hl [0, 1, 2, 3] rfl)
        · refine lv_aload_n hx hb dX2_partingRoadsOut_26 rfl (lv_at hl 2 rfl) ?_
          refine rk_get (ci := 2) (C := RX2) (T := TX2) (N := 9) hx hb hts iw_X2_partingRoadsOut_2 hown hK hP 0 rfl rfl 0 (by decide) fl_X2_partingRoadsOut_27 rfl (v := .ref t0) rfl dX2_partingRoadsOut_27 ?_
          refine rk_get (ci := 3) (C := RX3) (T := TX3) (N := 6) hx hb hts iw_X2_partingRoadsOut_3 hown hK hP 1 rfl rfl 5 (by decide) fl_X2_partingRoadsOut_113 rfl (v := .ref q4) rfl dX2_partingRoadsOut_30 ?_
          refine lv_iload_n hx hb dX2_partingRoadsOut_33 rfl (lv_at hl 0 rfl) ?_
          refine rk_iald hx hb hK hP 2 rfl (by omega) (by omega) (v := en i) (rfl) dX2_partingRoadsOut_34 ?_
          refine lv_iload_n hx hb dX2_partingRoadsOut_35 rfl (lv_at hl 3 rfl) ?_
          refine lv_iand hx hb dX2_partingRoadsOut_36 ?_
          refine lv_if_eq (tgt := 43) hx hb dX2_partingRoadsOut_37 (by decide) (fun zc37 => ?_) (fun zc37 => ?_)
          · refine lv_iinc (v := nI (i + 1)) (lv' := [(3, .int (nI (i + 1))), (2, .int (nI cn)), (0, .ref s0), (1, .int mm)]) hx hb dX2_partingRoadsOut_43 hl (k := 0) rfl (by rw [show Int32.ofInt 1 = nI 1 by decide]; exact nI_add _ _) (by decide) rfl (fun ls hl => ?_)
            refine lv_goto (tgt := 4) hx hb dX2_partingRoadsOut_46 (by decide) ?_
            exact ih4 cn (i + 1) (by subst ec; simp only [pRo]; exact (ifn2 (fun q => q zc37)).symm) (by first | assumption | omega | rfl) (by omega) _ _ (hP.sub [0, 1, 2] rfl) (hD.sub [0, 1, 2] (by decide) rfl) hS ls (lv_sub hl [0, 1, 2, 3] rfl)
          · refine lv_iinc (v := nI (cn + 1)) (lv' := [(2, .int (nI (cn + 1))), (3, .int (nI i)), (0, .ref s0), (1, .int mm)]) hx hb dX2_partingRoadsOut_40 hl (k := 1) rfl (by rw [show Int32.ofInt 1 = nI 1 by decide]; exact nI_add _ _) (by decide) rfl (fun ls hl => ?_)
            refine lv_iinc (v := nI (i + 1)) (lv' := [(3, .int (nI (i + 1))), (2, .int (nI (cn + 1))), (0, .ref s0), (1, .int mm)]) hx hb dX2_partingRoadsOut_43 hl (k := 1) rfl (by rw [show Int32.ofInt 1 = nI 1 by decide]; exact nI_add _ _) (by decide) rfl (fun ls hl => ?_)
            refine lv_goto (tgt := 4) hx hb dX2_partingRoadsOut_46 (by decide) ?_
            exact ih4 (cn + 1) (i + 1) (by subst ec; simp only [pRo]; exact (if_pos (And.intro zc23 zc37)).symm) (by first | assumption | omega | rfl) (by omega) _ _ (hP.sub [0, 1, 2] rfl) (hD.sub [0, 1, 2] (by decide) rfl) hS ls (lv_sub hl [0, 1, 2, 3] rfl)
  exact L4 ((k - 0) + 1) 0 0 (rfl) (by first | assumption | omega | rfl) (Nat.lt_succ_self _) _ _ (hP.sub [0, 1, 2] rfl) (hD.sub [0, 1, 2] (by decide) rfl) hS ls (lv_sub hl [0, 1, 2, 3] rfl)
theorem iw_X2_longestDistrict_2 : ∀ w ∈ u_ws RX2 TX2 9, w ∈ wsX2_longestDistrict := by decide +kernel
theorem fl_X2_longestDistrict_27 : Cond.fieldLink RX2 27 (TX2 0).1 (TX2 0).2.1 (TX2 0).2.2.1 ∈ wsX2_longestDistrict := by decide +kernel
theorem fl_X2_longestDistrict_18 : Cond.fieldLink RX2 18 (TX2 3).1 (TX2 3).2.1 (TX2 3).2.2.1 ∈ wsX2_longestDistrict := by decide +kernel
theorem fl_X2_longestDistrict_80 : Cond.fieldLink RX2 80 (TX2 7).1 (TX2 7).2.1 (TX2 7).2.2.1 ∈ wsX2_longestDistrict := by decide +kernel
set_option maxHeartbeats 400000 in
set_option maxRecDepth 100000 in
theorem c_X2_longestDistrict (l : Launch) (E : EE) (sz : Nat) (s0 t0 sP sD sS sL sF q1 q2 q3 q4 : Nat) (sc : Int32) (k ds : Nat) (pc pr : Int32) (dS le en : Nat → Int32) (gk : k ≤ 30) (gd1 : 1 ≤ ds) (gd : ds ≤ 16) : Ci l yX2_longestDistrict wsX2_longestDistrict 2 44 E [.ref s0] [(s0, .inr (2, [.ref t0, .ref sP, .ref sD, .ref sS, .ref sL, .ref sF, .int pc, .int (nI ds), .int pr])), (t0, .inr (3, [.int sc, .int (nI k), .ref q1, .ref q2, .ref q3, .ref q4])), (sS, aI E 16 dS), (q3, aI E 30 le), (q4, aI E 30 en)] sz (nI ((lgD (dLn en le dS k) ds).1)) [(s0, .inr (2, [.ref t0, .ref sP, .ref sD, .ref sS, .ref sL, .ref sF, .int pc, .int (nI ds), .int pr])), (t0, .inr (3, [.int sc, .int (nI k), .ref q1, .ref q2, .ref q3, .ref q4])), (sS, aI E 16 dS), (q3, aI E 30 le), (q4, aI E 30 en)] := by
  refine C_of (QQ := QI E (nI ((lgD (dLn en le dS k) ds).1)) [(s0, .inr (2, [.ref t0, .ref sP, .ref sD, .ref sS, .ref sL, .ref sF, .int pc, .int (nI ds), .int pr])), (t0, .inr (3, [.int sc, .int (nI k), .ref q1, .ref q2, .ref q3, .ref q4])), (sS, aI E 16 dS), (q3, aI E 30 le), (q4, aI E 30 en)]) (cc := cX2_longestDistrict) (maxL := 5) (ret := (some .int)) (by decide +kernel) rfl (Nat.le_of_ble_eq_true rfl) ?_
  intro p e s m args below meth c A R Q ls hx hb hr hts hown hml hlocks hA hK hN hP hD hS hl hR hQ
  have hown : s.vm.findClass RX2 = some m.cls := hown
  have hl : lv_has ls 5 [(0, .ref s0)] := hl
  refine lv_iconst (v := nI 0) hx hb dX2_longestDistrict_0 (by decide) ?_
  refine lv_istore_n (lv' := [(1, .int (nI 0)), (0, .ref s0)]) hx hb dX2_longestDistrict_1 rfl hl (by decide) rfl (fun ls hl => ?_)
  refine lv_aload_n hx hb dX2_longestDistrict_2 rfl (lv_at hl 1 rfl) ?_
  refine rk_get (ci := 2) (C := RX2) (T := TX2) (N := 9) hx hb hts iw_X2_longestDistrict_2 hown hK hP 0 rfl rfl 0 (by decide) fl_X2_longestDistrict_27 rfl (v := .ref t0) rfl dX2_longestDistrict_3 ?_
  refine lv_aload_n hx hb dX2_longestDistrict_6 rfl (lv_at hl 1 rfl) ?_
  refine rk_get (ci := 2) (C := RX2) (T := TX2) (N := 9) hx hb hts iw_X2_longestDistrict_2 hown hK hP 0 rfl rfl 0 (by decide) fl_X2_longestDistrict_27 rfl (v := .ref t0) rfl dX2_longestDistrict_7 ?_
  refine lv_aload_n hx hb dX2_longestDistrict_10 rfl (lv_at hl 1 rfl) ?_
  refine rk_get (ci := 2) (C := RX2) (T := TX2) (N := 9) hx hb hts iw_X2_longestDistrict_2 hown hK hP 0 rfl rfl 3 (by decide) fl_X2_longestDistrict_18 rfl (v := .ref sS) rfl dX2_longestDistrict_11 ?_
  refine lv_iload_n hx hb dX2_longestDistrict_14 rfl (lv_at hl 0 rfl) ?_
  refine rk_iald hx hb hK hP 2 rfl (by omega) (by omega) (v := dS 0) (rfl) dX2_longestDistrict_15 ?_
  refine kV_i (E := E) (As := [.int (dS 0)]) (rest := [.ref t0]) (wr := [(s0, .inr (2, [.ref t0, .ref sP, .ref sD, .ref sS, .ref sL, .ref sF, .int pc, .int (nI ds), .int pr])), (sS, aI E 16 dS), (q3, aI E 30 le)]) ⟨hx, hb, hml, hown, hts⟩ (c_X3_roadsWithin (l := l) (E := E) (sz := _) (h0 := t0) (q1 := q1) (q2 := q2) (q3 := q3) (q4 := q4) (sc := sc) (k := k) (en := en) (x := dS 0) (hk := by first | assumption | omega)) (cwV 1 hts gX2_longestDistrict_X3_roadsWithin rfl rfl rfl (by decide +kernel) ⟨by rw [hR]; decide, by rw [hR]; decide⟩) hK hN hP hD hS hA [1, 4] [0, 2, 3] rfl (by decide) rfl (by decide) (by decide) 1 3 rfl rfl rfl hl.1 rfl (Nat.le_of_ble_eq_true rfl) dX2_longestDistrict_16 ⟨Nat.zero_le _, Nat.zero_le _⟩ (fun H locs hP hD hS => ?_)
  have hP : va_P E.1 vwCl [(s0, .inr (2, [.ref t0, .ref sP, .ref sD, .ref sS, .ref sL, .ref sF, .int pc, .int (nI ds), .int pr])), (sS, aI E 16 dS), (q3, aI E 30 le), (t0, .inr (3, [.int sc, .int (nI k), .ref q1, .ref q2, .ref q3, .ref q4])), (q4, aI E 30 en)] H := hP
  have hD : va_D A [(s0, .inr (2, [.ref t0, .ref sP, .ref sD, .ref sS, .ref sL, .ref sF, .int pc, .int (nI ds), .int pr])), (sS, aI E 16 dS), (q3, aI E 30 le), (t0, .inr (3, [.int sc, .int (nI k), .ref q1, .ref q2, .ref q3, .ref q4])), (q4, aI E 30 en)] := hD
  refine kV_i (E := E) (As := [.int (rWi en (dS 0) k)]) (rest := []) (wr := [(s0, .inr (2, [.ref t0, .ref sP, .ref sD, .ref sS, .ref sL, .ref sF, .int pc, .int (nI ds), .int pr])), (sS, aI E 16 dS), (q4, aI E 30 en)]) ⟨hx, hb, hml, hown, hts⟩ (c_X3_lengthOf (l := l) (E := E) (sz := _) (h0 := t0) (q1 := q1) (q2 := q2) (q3 := q3) (q4 := q4) (sc := sc) (k := k) (le := le) (x := rWi en (dS 0) k) (hk := by first | assumption | omega)) (cwV 1 hts gX2_longestDistrict_X3_lengthOf rfl rfl rfl (by decide +kernel) ⟨by rw [hR]; decide, by rw [hR]; decide⟩) hK hN hP hD hS hA [3, 2] [0, 1, 4] rfl (by decide) rfl (by decide) (by decide) 3 3 rfl rfl rfl hl.1 rfl (Nat.le_of_ble_eq_true rfl) dX2_longestDistrict_19 ⟨Nat.zero_le _, Nat.zero_le _⟩ (fun H locs hP hD hS => ?_)
  have hP : va_P E.1 vwCl [(s0, .inr (2, [.ref t0, .ref sP, .ref sD, .ref sS, .ref sL, .ref sF, .int pc, .int (nI ds), .int pr])), (sS, aI E 16 dS), (q4, aI E 30 en), (t0, .inr (3, [.int sc, .int (nI k), .ref q1, .ref q2, .ref q3, .ref q4])), (q3, aI E 30 le)] H := hP
  have hD : va_D A [(s0, .inr (2, [.ref t0, .ref sP, .ref sD, .ref sS, .ref sL, .ref sF, .int pc, .int (nI ds), .int pr])), (sS, aI E 16 dS), (q4, aI E 30 en), (t0, .inr (3, [.int sc, .int (nI k), .ref q1, .ref q2, .ref q3, .ref q4])), (q3, aI E 30 le)] := hD
  refine lv_istore_n (lv' := [(2, .int (lnO le (rWi en (dS 0) k) k)), (1, .int (nI 0)), (0, .ref s0)]) hx hb dX2_longestDistrict_22 rfl hl (by decide) rfl (fun ls hl => ?_)
  refine lv_iconst (v := nI 1) hx hb dX2_longestDistrict_23 (by decide) ?_
  refine lv_istore_n (lv' := [(3, .int (nI 1)), (2, .int (lnO le (rWi en (dS 0) k) k)), (1, .int (nI 0)), (0, .ref s0)]) hx hb dX2_longestDistrict_24 rfl hl (by decide) rfl (fun ls hl => ?_)
  have L25 : ∀ (fu : Nat) (lg d : Nat) (mt : Int32), (el : lg = (lgD (dLn en le dS k) d).1) → (em : mt = (lgD (dLn en le dS k) d).2) → (h1 : 1 ≤ d) → (h2 : d ≤ ds) → ds - d < fu → ∀ (H : Heap) (locs : List Loc), va_P E.1 vwCl [(s0, .inr (2, [.ref t0, .ref sP, .ref sD, .ref sS, .ref sL, .ref sF, .int pc, .int (nI ds), .int pr])), (sS, aI E 16 dS), (q4, aI E 30 en), (t0, .inr (3, [.int sc, .int (nI k), .ref q1, .ref q2, .ref q3, .ref q4])), (q3, aI E 30 le)] H → va_D A [(s0, .inr (2, [.ref t0, .ref sP, .ref sD, .ref sS, .ref sL, .ref sF, .int pc, .int (nI ds), .int pr])), (sS, aI E 16 dS), (q4, aI E 30 en), (t0, .inr (3, [.int sc, .int (nI k), .ref q1, .ref q2, .ref q3, .ref q4])), (q3, aI E 30 le)] → va_S A s.heap H locs → ∀ (ls : Array Slot), lv_has ls 5 [(3, .int (nI d)), (2, .int mt), (1, .int (nI lg)), (0, .ref s0)] → W p l e R s m args below meth c H locs 0 0 Q (F0 m 25 ls []) := by
    intro fu
    induction fu with
    | zero => intro lg d mt el em h1 h2 hfu; exact absurd hfu (Nat.not_lt_zero _)
    | succ fu ih25 =>
      intro lg d mt el em h1 h2 hfu H locs hP hD hS ls hl
      refine lv_iload_n hx hb dX2_longestDistrict_25 rfl (lv_at hl 0 rfl) ?_
      refine lv_aload_n hx hb dX2_longestDistrict_26 rfl (lv_at hl 3 rfl) ?_
      refine rk_get (ci := 2) (C := RX2) (T := TX2) (N := 9) hx hb hts iw_X2_longestDistrict_2 hown hK hP 0 rfl rfl 7 (by decide) fl_X2_longestDistrict_80 rfl (v := .int (nI ds)) rfl dX2_longestDistrict_27 ?_
      refine rk_geN (tgt := 72) hx hb (by omega) (by omega) dX2_longestDistrict_30 (by decide) (fun zc30 => ?_) (fun zc30 => ?_)
      · refine lv_iload_n hx hb dX2_longestDistrict_72 rfl (lv_at hl 2 rfl) ?_
        exact ret_i hQ hx hb hr hlocks (hP.sub [0, 3, 1, 4, 2] rfl) (hD.sub [0, 3, 1, 4, 2] (by decide) rfl) hS dX2_longestDistrict_73 (by obtain rfl : ds = d := (by omega); rw [el])
      · refine lv_aload_n hx hb dX2_longestDistrict_33 rfl (lv_at hl 3 rfl) ?_
        refine rk_get (ci := 2) (C := RX2) (T := TX2) (N := 9) hx hb hts iw_X2_longestDistrict_2 hown hK hP 0 rfl rfl 0 (by decide) fl_X2_longestDistrict_27 rfl (v := .ref t0) rfl dX2_longestDistrict_34 ?_
        refine lv_aload_n hx hb dX2_longestDistrict_37 rfl (lv_at hl 3 rfl) ?_
        refine rk_get (ci := 2) (C := RX2) (T := TX2) (N := 9) hx hb hts iw_X2_longestDistrict_2 hown hK hP 0 rfl rfl 0 (by decide) fl_X2_longestDistrict_27 rfl (v := .ref t0) rfl dX2_longestDistrict_38 ?_
        refine lv_aload_n hx hb dX2_longestDistrict_41 rfl (lv_at hl 3 rfl) ?_
        refine rk_get (ci := 2) (C := RX2) (T := TX2) (N := 9) hx hb hts iw_X2_longestDistrict_2 hown hK hP 0 rfl rfl 3 (by decide) fl_X2_longestDistrict_18 rfl (v := .ref sS) rfl dX2_longestDistrict_42 ?_
        refine lv_iload_n hx hb dX2_longestDistrict_45 rfl (lv_at hl 0 rfl) ?_
        refine rk_iald hx hb hK hP 1 rfl (by omega) (by omega) (v := dS d) (rfl) dX2_longestDistrict_46 ?_
        refine kV_i (E := E) (As := [.int (dS d)]) (rest := [.ref t0]) (wr := [(s0, .inr (2, [.ref t0, .ref sP, .ref sD, .ref sS, .ref sL, .ref sF, .int pc, .int (nI ds), .int pr])), (sS, aI E 16 dS), (q3, aI E 30 le)]) ⟨hx, hb, hml, hown, hts⟩ (c_X3_roadsWithin (l := l) (E := E) (sz := _) (h0 := t0) (q1 := q1) (q2 := q2) (q3 := q3) (q4 := q4) (sc := sc) (k := k) (en := en) (x := dS d) (hk := by first | assumption | omega)) (cwV 1 hts gX2_longestDistrict_X3_roadsWithin rfl rfl rfl (by decide +kernel) ⟨by rw [hR]; decide, by rw [hR]; decide⟩) hK hN hP hD hS hA [3, 2] [0, 1, 4] rfl (by decide) rfl (by decide) (by decide) 3 3 rfl rfl rfl hl.1 rfl (Nat.le_of_ble_eq_true rfl) dX2_longestDistrict_47 ⟨Nat.zero_le _, Nat.zero_le _⟩ (fun H locs hP hD hS => ?_)
        have hP : va_P E.1 vwCl [(s0, .inr (2, [.ref t0, .ref sP, .ref sD, .ref sS, .ref sL, .ref sF, .int pc, .int (nI ds), .int pr])), (sS, aI E 16 dS), (q3, aI E 30 le), (t0, .inr (3, [.int sc, .int (nI k), .ref q1, .ref q2, .ref q3, .ref q4])), (q4, aI E 30 en)] H := hP
        have hD : va_D A [(s0, .inr (2, [.ref t0, .ref sP, .ref sD, .ref sS, .ref sL, .ref sF, .int pc, .int (nI ds), .int pr])), (sS, aI E 16 dS), (q3, aI E 30 le), (t0, .inr (3, [.int sc, .int (nI k), .ref q1, .ref q2, .ref q3, .ref q4])), (q4, aI E 30 en)] := hD
        refine kV_i (E := E) (As := [.int (rWi en (dS d) k)]) (rest := []) (wr := [(s0, .inr (2, [.ref t0, .ref sP, .ref sD, .ref sS, .ref sL, .ref sF, .int pc, .int (nI ds), .int pr])), (sS, aI E 16 dS), (q4, aI E 30 en)]) ⟨hx, hb, hml, hown, hts⟩ (c_X3_lengthOf (l := l) (E := E) (sz := _) (h0 := t0) (q1 := q1) (q2 := q2) (q3 := q3) (q4 := q4) (sc := sc) (k := k) (le := le) (x := rWi en (dS d) k) (hk := by first | assumption | omega)) (cwV 1 hts gX2_longestDistrict_X3_lengthOf rfl rfl rfl (by decide +kernel) ⟨by rw [hR]; decide, by rw [hR]; decide⟩) hK hN hP hD hS hA [3, 2] [0, 1, 4] rfl (by decide) rfl (by decide) (by decide) 3 3 rfl rfl rfl hl.1 rfl (Nat.le_of_ble_eq_true rfl) dX2_longestDistrict_50 ⟨Nat.zero_le _, Nat.zero_le _⟩ (fun H locs hP hD hS => ?_)
        have hP : va_P E.1 vwCl [(s0, .inr (2, [.ref t0, .ref sP, .ref sD, .ref sS, .ref sL, .ref sF, .int pc, .int (nI ds), .int pr])), (sS, aI E 16 dS), (q4, aI E 30 en), (t0, .inr (3, [.int sc, .int (nI k), .ref q1, .ref q2, .ref q3, .ref q4])), (q3, aI E 30 le)] H := hP
        have hD : va_D A [(s0, .inr (2, [.ref t0, .ref sP, .ref sD, .ref sS, .ref sL, .ref sF, .int pc, .int (nI ds), .int pr])), (sS, aI E 16 dS), (q4, aI E 30 en), (t0, .inr (3, [.int sc, .int (nI k), .ref q1, .ref q2, .ref q3, .ref q4])), (q3, aI E 30 le)] := hD
        refine lv_istore (lv' := [(4, .int (lnO le (rWi en (dS d) k) k)), (3, .int (nI d)), (2, .int mt), (1, .int (nI lg)), (0, .ref s0)]) hx hb dX2_longestDistrict_53 hl (by decide) rfl (fun ls hl => ?_)
        refine lv_iload hx hb dX2_longestDistrict_55 (lv_at hl 0 rfl) ?_
        refine lv_iload_n hx hb dX2_longestDistrict_57 rfl (lv_at hl 2 rfl) ?_
        refine lv_icmp_le (tgt := 66) hx hb dX2_longestDistrict_58 (by decide) (fun zc58 => ?_) (fun zc58 => ?_)
        · refine lv_iinc (v := nI (d + 1)) (lv' := [(3, .int (nI (d + 1))), (4, .int (lnO le (rWi en (dS d) k) k)), (2, .int mt), (1, .int (nI lg)), (0, .ref s0)]) hx hb dX2_longestDistrict_66 hl (k := 1) rfl (by rw [show Int32.ofInt 1 = nI 1 by decide]; exact nI_add _ _) (by decide) rfl (fun ls hl => ?_)
          refine lv_goto (tgt := 25) hx hb dX2_longestDistrict_69 (by decide) ?_
          exact ih25 lg (d + 1) mt (by subst el; subst em; rw [lgD_f zc58]) (by subst el; subst em; rw [lgD_f zc58]) (by first | assumption | omega | rfl) (by first | assumption | omega | rfl) (by omega) _ _ (hP.sub [0, 1, 2, 3, 4] rfl) (hD.sub [0, 1, 2, 3, 4] (by decide) rfl) hS ls (lv_sub hl [0, 2, 3, 4] rfl)
        · refine lv_iload hx hb dX2_longestDistrict_61 (lv_at hl 0 rfl) ?_
          refine lv_istore_n (lv' := [(2, .int (lnO le (rWi en (dS d) k) k)), (4, .int (lnO le (rWi en (dS d) k) k)), (3, .int (nI d)), (1, .int (nI lg)), (0, .ref s0)]) hx hb dX2_longestDistrict_63 rfl hl (by decide) rfl (fun ls hl => ?_)
          refine lv_iload_n hx hb dX2_longestDistrict_64 rfl (lv_at hl 2 rfl) ?_
          refine lv_istore_n (lv' := [(1, .int (nI d)), (2, .int (lnO le (rWi en (dS d) k) k)), (4, .int (lnO le (rWi en (dS d) k) k)), (3, .int (nI d)), (0, .ref s0)]) hx hb dX2_longestDistrict_65 rfl hl (by decide) rfl (fun ls hl => ?_)
          refine lv_iinc (v := nI (d + 1)) (lv' := [(3, .int (nI (d + 1))), (1, .int (nI d)), (2, .int (lnO le (rWi en (dS d) k) k)), (4, .int (lnO le (rWi en (dS d) k) k)), (0, .ref s0)]) hx hb dX2_longestDistrict_66 hl (k := 3) rfl (by rw [show Int32.ofInt 1 = nI 1 by decide]; exact nI_add _ _) (by decide) rfl (fun ls hl => ?_)
          refine lv_goto (tgt := 25) hx hb dX2_longestDistrict_69 (by decide) ?_
          exact ih25 d (d + 1) (lnO le (rWi en (dS d) k) k) (by subst el; subst em; rw [lgD_t zc58]) (by subst el; subst em; rw [lgD_t zc58]; rfl) (by first | assumption | omega | rfl) (by first | assumption | omega | rfl) (by omega) _ _ (hP.sub [0, 1, 2, 3, 4] rfl) (hD.sub [0, 1, 2, 3, 4] (by decide) rfl) hS ls (lv_sub hl [0, 2, 1, 4] rfl)
  exact L25 ((ds - 1) + 1) 0 1 (lnO le (rWi en (dS 0) k) k) (by rw [lgD_1]) (by rw [lgD_1]; rfl) (by first | assumption | omega | rfl) (by first | assumption | omega | rfl) (Nat.lt_succ_self _) _ _ (hP.sub [0, 1, 2, 3, 4] rfl) (hD.sub [0, 1, 2, 3, 4] (by decide) rfl) hS ls (lv_sub hl [0, 1, 2, 3] rfl)
theorem iw_X2_leafDistricts_2 : ∀ w ∈ u_ws RX2 TX2 9, w ∈ wsX2_leafDistricts := by decide +kernel
theorem fl_X2_leafDistricts_80 : Cond.fieldLink RX2 80 (TX2 7).1 (TX2 7).2.1 (TX2 7).2.2.1 ∈ wsX2_leafDistricts := by decide +kernel
theorem fl_X2_leafDistricts_18 : Cond.fieldLink RX2 18 (TX2 3).1 (TX2 3).2.1 (TX2 3).2.2.1 ∈ wsX2_leafDistricts := by decide +kernel
set_option maxHeartbeats 400000 in
set_option maxRecDepth 100000 in
theorem c_X2_leafDistricts (l : Launch) (E : EE) (sz : Nat) (s0 t0 sP sD sS sL sF q1 q2 q3 q4 : Nat) (sc : Int32) (k ds : Nat) (pc pr pz : Int32) (dS en : Nat → Int32) (gk : k ≤ 30) (gd : ds ≤ 16) : Ci l yX2_leafDistricts wsX2_leafDistricts 2 44 E [.ref s0, .int pz] [(s0, .inr (2, [.ref t0, .ref sP, .ref sD, .ref sS, .ref sL, .ref sF, .int pc, .int (nI ds), .int pr])), (t0, .inr (3, [.int sc, .int (nI k), .ref q1, .ref q2, .ref q3, .ref q4])), (sS, aI E 16 dS), (q4, aI E 30 en)] sz (nI (lfD en dS pr pz k ds)) [(s0, .inr (2, [.ref t0, .ref sP, .ref sD, .ref sS, .ref sL, .ref sF, .int pc, .int (nI ds), .int pr])), (t0, .inr (3, [.int sc, .int (nI k), .ref q1, .ref q2, .ref q3, .ref q4])), (sS, aI E 16 dS), (q4, aI E 30 en)] := by
  refine C_of (QQ := QI E (nI (lfD en dS pr pz k ds)) [(s0, .inr (2, [.ref t0, .ref sP, .ref sD, .ref sS, .ref sL, .ref sF, .int pc, .int (nI ds), .int pr])), (t0, .inr (3, [.int sc, .int (nI k), .ref q1, .ref q2, .ref q3, .ref q4])), (sS, aI E 16 dS), (q4, aI E 30 en)]) (cc := cX2_leafDistricts) (maxL := 5) (ret := (some .int)) (by decide +kernel) rfl (Nat.le_of_ble_eq_true rfl) ?_
  intro p e s m args below meth c A R Q ls hx hb hr hts hown hml hlocks hA hK hN hP hD hS hl hR hQ
  have hown : s.vm.findClass RX2 = some m.cls := hown
  have hl : lv_has ls 5 [(0, .ref s0), (1, .int pz)] := hl
  refine lv_iconst (v := nI 0) hx hb dX2_leafDistricts_0 (by decide) ?_
  refine lv_istore_n (lv' := [(2, .int (nI 0)), (0, .ref s0), (1, .int pz)]) hx hb dX2_leafDistricts_1 rfl hl (by decide) rfl (fun ls hl => ?_)
  refine lv_iconst (v := nI 0) hx hb dX2_leafDistricts_2 (by decide) ?_
  refine lv_istore_n (lv' := [(3, .int (nI 0)), (2, .int (nI 0)), (0, .ref s0), (1, .int pz)]) hx hb dX2_leafDistricts_3 rfl hl (by decide) rfl (fun ls hl => ?_)
  have L4 : ∀ (fu : Nat) (cn d : Nat), (ec : cn = lfD en dS pr pz k d) → (h2 : d ≤ ds) → ds - d < fu → ∀ (H : Heap) (locs : List Loc), va_P E.1 vwCl [(s0, .inr (2, [.ref t0, .ref sP, .ref sD, .ref sS, .ref sL, .ref sF, .int pc, .int (nI ds), .int pr])), (t0, .inr (3, [.int sc, .int (nI k), .ref q1, .ref q2, .ref q3, .ref q4])), (sS, aI E 16 dS), (q4, aI E 30 en)] H → va_D A [(s0, .inr (2, [.ref t0, .ref sP, .ref sD, .ref sS, .ref sL, .ref sF, .int pc, .int (nI ds), .int pr])), (t0, .inr (3, [.int sc, .int (nI k), .ref q1, .ref q2, .ref q3, .ref q4])), (sS, aI E 16 dS), (q4, aI E 30 en)] → va_S A s.heap H locs → ∀ (ls : Array Slot), lv_has ls 5 [(3, .int (nI d)), (2, .int (nI cn)), (0, .ref s0), (1, .int pz)] → W p l e R s m args below meth c H locs 0 0 Q (F0 m 4 ls []) := by
    intro fu
    induction fu with
    | zero => intro cn d ec h2 hfu; exact absurd hfu (Nat.not_lt_zero _)
    | succ fu ih4 =>
      intro cn d ec h2 hfu H locs hP hD hS ls hl
      refine lv_iload_n hx hb dX2_leafDistricts_4 rfl (lv_at hl 0 rfl) ?_
      refine lv_aload_n hx hb dX2_leafDistricts_5 rfl (lv_at hl 2 rfl) ?_
      refine rk_get (ci := 2) (C := RX2) (T := TX2) (N := 9) hx hb hts iw_X2_leafDistricts_2 hown hK hP 0 rfl rfl 7 (by decide) fl_X2_leafDistricts_80 rfl (v := .int (nI ds)) rfl dX2_leafDistricts_6 ?_
      refine rk_geN (tgt := 46) hx hb (by omega) (by omega) dX2_leafDistricts_9 (by decide) (fun zc9 => ?_) (fun zc9 => ?_)
      · refine lv_iload_n hx hb dX2_leafDistricts_46 rfl (lv_at hl 1 rfl) ?_
        exact ret_i hQ hx hb hr hlocks (hP.sub [0, 1, 2, 3] rfl) (hD.sub [0, 1, 2, 3] (by decide) rfl) hS dX2_leafDistricts_47 (by obtain rfl : ds = d := (by omega); rw [ec])
      · refine lv_aload_n hx hb dX2_leafDistricts_12 rfl (lv_at hl 2 rfl) ?_
        refine rk_get (ci := 2) (C := RX2) (T := TX2) (N := 9) hx hb hts iw_X2_leafDistricts_2 hown hK hP 0 rfl rfl 3 (by decide) fl_X2_leafDistricts_18 rfl (v := .ref sS) rfl dX2_leafDistricts_13 ?_
        refine lv_iload_n hx hb dX2_leafDistricts_16 rfl (lv_at hl 0 rfl) ?_
        refine rk_iald hx hb hK hP 2 rfl (by omega) (by omega) (v := dS d) (rfl) dX2_leafDistricts_17 ?_
        refine lv_istore (lv' := [(4, .int (dS d)), (3, .int (nI d)), (2, .int (nI cn)), (0, .ref s0), (1, .int pz)]) hx hb dX2_leafDistricts_18 hl (by decide) rfl (fun ls hl => ?_)
        refine lv_iload hx hb dX2_leafDistricts_20 (lv_at hl 0 rfl) ?_
        refine lv_iload_n hx hb dX2_leafDistricts_22 rfl (lv_at hl 4 rfl) ?_
        refine lv_iand hx hb dX2_leafDistricts_23 ?_
        refine lv_if_eq (tgt := 40) hx hb dX2_leafDistricts_24 (by decide) (fun zc24 => ?_) (fun zc24 => ?_)
        · refine lv_iinc (v := nI (d + 1)) (lv' := [(3, .int (nI (d + 1))), (4, .int (dS d)), (2, .int (nI cn)), (0, .ref s0), (1, .int pz)]) hx hb dX2_leafDistricts_40 hl (k := 1) rfl (by rw [show Int32.ofInt 1 = nI 1 by decide]; exact nI_add _ _) (by decide) rfl (fun ls hl => ?_)
          refine lv_goto (tgt := 4) hx hb dX2_leafDistricts_43 (by decide) ?_
          exact ih4 cn (d + 1) (by subst ec; simp only [lfD]; exact (ifn1 (fun q => q zc24)).symm) (by first | assumption | omega | rfl) (by omega) _ _ (hP.sub [0, 1, 2, 3] rfl) (hD.sub [0, 1, 2, 3] (by decide) rfl) hS ls (lv_sub hl [0, 2, 3, 4] rfl)
        · refine lv_aload_n hx hb dX2_leafDistricts_27 rfl (lv_at hl 3 rfl) ?_
          refine lv_iload hx hb dX2_leafDistricts_28 (lv_at hl 0 rfl) ?_
          refine kV_i (E := E) (As := [.int (dS d)]) (rest := []) (wr := [(sS, aI E 16 dS)]) ⟨hx, hb, hml, hown, hts⟩ (c_X2_partingRoadsOut (l := l) (E := E) (sz := _) (s0 := s0) (t0 := t0) (sP := sP) (sD := sD) (sS := sS) (sL := sL) (sF := sF) (q1 := q1) (q2 := q2) (q3 := q3) (q4 := q4) (sc := sc) (k := k) (pc := pc) (ds := nI ds) (pr := pr) (mm := dS d) (en := en) (gk := by first | assumption | omega)) (cwV 1 hts gX2_leafDistricts_X2_partingRoadsOut rfl rfl rfl (by decide +kernel) ⟨by rw [hR]; decide, by rw [hR]; decide⟩) hK hN hP hD hS hA [0, 1, 3] [2] rfl (by decide) rfl (by decide) (by decide) 0 2 rfl rfl rfl hl.1 rfl (Nat.le_of_ble_eq_true rfl) dX2_leafDistricts_30 ⟨Nat.zero_le _, Nat.zero_le _⟩ (fun H locs hP hD hS => ?_)
          have hP : va_P E.1 vwCl [(sS, aI E 16 dS), (s0, .inr (2, [.ref t0, .ref sP, .ref sD, .ref sS, .ref sL, .ref sF, .int pc, .int (nI ds), .int pr])), (t0, .inr (3, [.int sc, .int (nI k), .ref q1, .ref q2, .ref q3, .ref q4])), (q4, aI E 30 en)] H := hP
          have hD : va_D A [(sS, aI E 16 dS), (s0, .inr (2, [.ref t0, .ref sP, .ref sD, .ref sS, .ref sL, .ref sF, .int pc, .int (nI ds), .int pr])), (t0, .inr (3, [.int sc, .int (nI k), .ref q1, .ref q2, .ref q3, .ref q4])), (q4, aI E 30 en)] := hD
          refine lv_iconst (v := nI 1) hx hb dX2_leafDistricts_33 (by decide) ?_
          refine rk_neN (tgt := 40) hx hb (by have := pRo_le en pr (dS d) k; omega) (by omega) dX2_leafDistricts_34 (by decide) (fun zc34 => ?_) (fun zc34 => ?_)
          · refine lv_iinc (v := nI (d + 1)) (lv' := [(3, .int (nI (d + 1))), (4, .int (dS d)), (2, .int (nI cn)), (0, .ref s0), (1, .int pz)]) hx hb dX2_leafDistricts_40 hl (k := 1) rfl (by rw [show Int32.ofInt 1 = nI 1 by decide]; exact nI_add _ _) (by decide) rfl (fun ls hl => ?_)
            refine lv_goto (tgt := 4) hx hb dX2_leafDistricts_43 (by decide) ?_
            exact ih4 cn (d + 1) (by subst ec; simp only [lfD]; exact (ifn2 zc34).symm) (by first | assumption | omega | rfl) (by omega) _ _ (hP.sub [1, 2, 0, 3] rfl) (hD.sub [1, 2, 0, 3] (by decide) rfl) hS ls (lv_sub hl [0, 2, 3, 4] rfl)
          · refine lv_iinc (v := nI (cn + 1)) (lv' := [(2, .int (nI (cn + 1))), (4, .int (dS d)), (3, .int (nI d)), (0, .ref s0), (1, .int pz)]) hx hb dX2_leafDistricts_37 hl (k := 2) rfl (by rw [show Int32.ofInt 1 = nI 1 by decide]; exact nI_add _ _) (by decide) rfl (fun ls hl => ?_)
            refine lv_iinc (v := nI (d + 1)) (lv' := [(3, .int (nI (d + 1))), (2, .int (nI (cn + 1))), (4, .int (dS d)), (0, .ref s0), (1, .int pz)]) hx hb dX2_leafDistricts_40 hl (k := 2) rfl (by rw [show Int32.ofInt 1 = nI 1 by decide]; exact nI_add _ _) (by decide) rfl (fun ls hl => ?_)
            refine lv_goto (tgt := 4) hx hb dX2_leafDistricts_43 (by decide) ?_
            exact ih4 (cn + 1) (d + 1) (by subst ec; simp only [lfD]; exact (if_pos (And.intro zc24 zc34)).symm) (by first | assumption | omega | rfl) (by omega) _ _ (hP.sub [1, 2, 0, 3] rfl) (hD.sub [1, 2, 0, 3] (by decide) rfl) hS ls (lv_sub hl [0, 1, 3, 4] rfl)
  exact L4 ((ds - 0) + 1) 0 0 (rfl) (by first | assumption | omega | rfl) (Nat.lt_succ_self _) _ _ (hP.sub [0, 1, 2, 3] rfl) (hD.sub [0, 1, 2, 3] (by decide) rfl) hS ls (lv_sub hl [0, 1, 2, 3] rfl)
theorem iw_X2_leastRing_2 : ∀ w ∈ u_ws RX2 TX2 9, w ∈ wsX2_leastRing := by decide +kernel
theorem fl_X2_leastRing_27 : Cond.fieldLink RX2 27 (TX2 0).1 (TX2 0).2.1 (TX2 0).2.2.1 ∈ wsX2_leastRing := by decide +kernel
theorem iw_X2_leastRing_3 : ∀ w ∈ u_ws RX3 TX3 6, w ∈ wsX2_leastRing := by decide +kernel
theorem fl_X2_leastRing_74 : Cond.fieldLink RX2 74 (TX3 2).1 (TX3 2).2.1 (TX3 2).2.2.1 ∈ wsX2_leastRing := by decide +kernel
theorem fl_X2_leastRing_77 : Cond.fieldLink RX2 77 (TX3 3).1 (TX3 3).2.1 (TX3 3).2.2.1 ∈ wsX2_leastRing := by decide +kernel
theorem inX4_X2_leastRing : Cond.initialized RX4 ∈ wsX2_leastRing := by decide +kernel
theorem stX4_contains_X2_leastRing : Cond.static yX4_contains ∈ wsX2_leastRing := by decide +kernel
set_option maxHeartbeats 400000 in
set_option maxRecDepth 100000 in
theorem c_X2_leastRing (l : Launch) (E : EE) (sz : Nat) (s0 t0 sP sD sS sL sF q1 q2 q3 q4 : Nat) (sc : Int32) (k : Nat) (pc ds pr : Int32) (r : Nat) (lo hi en : Nat → Int32) (a : Nat → Nat) (gr : r < k) (gk : k ≤ 30) (glo : ∀ r, r < k → lo r = nI (a r)) : Ci l yX2_leastRing wsX2_leastRing 2 45 E [.ref s0, .int (nI r)] [(s0, .inr (2, [.ref t0, .ref sP, .ref sD, .ref sS, .ref sL, .ref sF, .int pc, .int ds, .int pr])), (t0, .inr (3, [.int sc, .int (nI k), .ref q1, .ref q2, .ref q3, .ref q4])), (q1, aI E 30 lo), (q2, aI E 30 hi), (q4, aI E 30 en)] sz (fst6 (lrP en (aRx k r) k (nI 1 <<< (nI (a r) &&& 31)) (hi r)) 2 15) [(s0, .inr (2, [.ref t0, .ref sP, .ref sD, .ref sS, .ref sL, .ref sF, .int pc, .int ds, .int pr])), (t0, .inr (3, [.int sc, .int (nI k), .ref q1, .ref q2, .ref q3, .ref q4])), (q1, aI E 30 lo), (q2, aI E 30 hi), (q4, aI E 30 en)] := by
  refine C_of (QQ := QI E (fst6 (lrP en (aRx k r) k (nI 1 <<< (nI (a r) &&& 31)) (hi r)) 2 15) [(s0, .inr (2, [.ref t0, .ref sP, .ref sD, .ref sS, .ref sL, .ref sF, .int pc, .int ds, .int pr])), (t0, .inr (3, [.int sc, .int (nI k), .ref q1, .ref q2, .ref q3, .ref q4])), (q1, aI E 30 lo), (q2, aI E 30 hi), (q4, aI E 30 en)]) (cc := cX2_leastRing) (maxL := 5) (ret := (some .int)) (by decide +kernel) rfl (Nat.le_of_ble_eq_true rfl) ?_
  intro p e s m args below meth c A R Q ls hx hb hr hts hown hml hlocks hA hK hN hP hD hS hl hR hQ
  have hown : s.vm.findClass RX2 = some m.cls := hown
  have hl : lv_has ls 5 [(0, .ref s0), (1, .int (nI r))] := hl
  refine lv_aload_n hx hb dX2_leastRing_0 rfl (lv_at hl 0 rfl) ?_
  refine rk_get (ci := 2) (C := RX2) (T := TX2) (N := 9) hx hb hts iw_X2_leastRing_2 hown hK hP 0 rfl rfl 0 (by decide) fl_X2_leastRing_27 rfl (v := .ref t0) rfl dX2_leastRing_1 ?_
  refine kV_i (E := E) (As := []) (rest := []) (wr := [(s0, .inr (2, [.ref t0, .ref sP, .ref sD, .ref sS, .ref sL, .ref sF, .int pc, .int ds, .int pr])), (q1, aI E 30 lo), (q2, aI E 30 hi), (q4, aI E 30 en)]) ⟨hx, hb, hml, hown, hts⟩ (c_X3_allRoads (l := l) (E := E) (sz := _) (h0 := t0) (sc := sc) (f1 := nI k) (q1 := q1) (q2 := q2) (q3 := q3) (q4 := q4) ) (cwV 0 hts gX2_leastRing_X3_allRoads rfl rfl rfl (by decide +kernel) ⟨by rw [hR]; decide, by rw [hR]; decide⟩) hK hN hP hD hS hA [1] [0, 2, 3, 4] rfl (by decide) rfl (by decide) (by decide) 1 3 rfl rfl rfl hl.1 rfl (Nat.le_of_ble_eq_true rfl) dX2_leastRing_4 ⟨Nat.zero_le _, Nat.zero_le _⟩ (fun H locs hP hD hS => ?_)
  have hP : va_P E.1 vwCl [(s0, .inr (2, [.ref t0, .ref sP, .ref sD, .ref sS, .ref sL, .ref sF, .int pc, .int ds, .int pr])), (q1, aI E 30 lo), (q2, aI E 30 hi), (q4, aI E 30 en), (t0, .inr (3, [.int sc, .int (nI k), .ref q1, .ref q2, .ref q3, .ref q4]))] H := hP
  have hD : va_D A [(s0, .inr (2, [.ref t0, .ref sP, .ref sD, .ref sS, .ref sL, .ref sF, .int pc, .int ds, .int pr])), (q1, aI E 30 lo), (q2, aI E 30 hi), (q4, aI E 30 en), (t0, .inr (3, [.int sc, .int (nI k), .ref q1, .ref q2, .ref q3, .ref q4]))] := hD
  refine lv_iconst (v := nI 1) hx hb dX2_leastRing_7 (by decide) ?_
  refine lv_iload_n hx hb dX2_leastRing_8 rfl (lv_at hl 1 rfl) ?_
  refine lv_ishl hx hb dX2_leastRing_9 ?_
  refine lv_iconst (v := (-1)) hx hb dX2_leastRing_10 (by decide) ?_
  refine lv_ixor hx hb dX2_leastRing_11 ?_
  refine lv_iand hx hb dX2_leastRing_12 ?_
  refine lv_istore_n (lv' := [(2, .int ((allR (nI k)) &&& (((nI 1) <<< ((nI r) &&& 31)) ^^^ ((-1))))), (0, .ref s0), (1, .int (nI r))]) hx hb dX2_leastRing_13 rfl hl (by decide) rfl (fun ls hl => ?_)
  refine lv_iconst (v := nI 1) hx hb dX2_leastRing_14 (by decide) ?_
  refine lv_aload_n hx hb dX2_leastRing_15 rfl (lv_at hl 1 rfl) ?_
  refine rk_get (ci := 2) (C := RX2) (T := TX2) (N := 9) hx hb hts iw_X2_leastRing_2 hown hK hP 0 rfl rfl 0 (by decide) fl_X2_leastRing_27 rfl (v := .ref t0) rfl dX2_leastRing_16 ?_
  refine rk_get (ci := 3) (C := RX3) (T := TX3) (N := 6) hx hb hts iw_X2_leastRing_3 hown hK hP 4 rfl rfl 2 (by decide) fl_X2_leastRing_74 rfl (v := .ref q1) rfl dX2_leastRing_19 ?_
  refine lv_iload_n hx hb dX2_leastRing_22 rfl (lv_at hl 2 rfl) ?_
  refine rk_iald hx hb hK hP 1 rfl (by omega) (by omega) (v := nI (a r)) (glo r (by omega)) dX2_leastRing_23 ?_
  refine lv_ishl hx hb dX2_leastRing_24 ?_
  refine lv_istore_n (lv' := [(3, .int ((nI 1) <<< ((nI (a r)) &&& 31))), (2, .int ((allR (nI k)) &&& (((nI 1) <<< ((nI r) &&& 31)) ^^^ ((-1))))), (0, .ref s0), (1, .int (nI r))]) hx hb dX2_leastRing_25 rfl hl (by decide) rfl (fun ls hl => ?_)
  refine lv_iconst (v := nI 2) hx hb dX2_leastRing_26 (by decide) ?_
  refine lv_istore (lv' := [(4, .int (nI 2)), (3, .int ((nI 1) <<< ((nI (a r)) &&& 31))), (2, .int ((allR (nI k)) &&& (((nI 1) <<< ((nI r) &&& 31)) ^^^ ((-1))))), (0, .ref s0), (1, .int (nI r))]) hx hb dX2_leastRing_27 hl (by decide) rfl (fun ls hl => ?_)
  have L29 : ∀ (fu : Nat) (z : Int32) (i : Nat), (ez : z = bfs en (aRx k r) k (nI 1 <<< (nI (a r) &&& 31)) (i - 2)) → (he : fst6 (lrP en (aRx k r) k (nI 1 <<< (nI (a r) &&& 31)) (hi r)) 2 15 = fst6 (lrP en (aRx k r) k (nI 1 <<< (nI (a r) &&& 31)) (hi r)) i (17 - i)) → (h1 : 2 ≤ i) → (h2 : i ≤ 17) → 17 - i < fu → ∀ (H : Heap) (locs : List Loc), va_P E.1 vwCl [(s0, .inr (2, [.ref t0, .ref sP, .ref sD, .ref sS, .ref sL, .ref sF, .int pc, .int ds, .int pr])), (q1, aI E 30 lo), (q2, aI E 30 hi), (q4, aI E 30 en), (t0, .inr (3, [.int sc, .int (nI k), .ref q1, .ref q2, .ref q3, .ref q4]))] H → va_D A [(s0, .inr (2, [.ref t0, .ref sP, .ref sD, .ref sS, .ref sL, .ref sF, .int pc, .int ds, .int pr])), (q1, aI E 30 lo), (q2, aI E 30 hi), (q4, aI E 30 en), (t0, .inr (3, [.int sc, .int (nI k), .ref q1, .ref q2, .ref q3, .ref q4]))] → va_S A s.heap H locs → ∀ (ls : Array Slot), lv_has ls 5 [(4, .int (nI i)), (3, .int z), (2, .int ((allR (nI k)) &&& (((nI 1) <<< ((nI r) &&& 31)) ^^^ ((-1))))), (0, .ref s0), (1, .int (nI r))] → W p l e R s m args below meth c H locs 0 0 Q (F0 m 29 ls []) := by
    intro fu
    induction fu with
    | zero => intro z i ez he h1 h2 hfu; exact absurd hfu (Nat.not_lt_zero _)
    | succ fu ih29 =>
      intro z i ez he h1 h2 hfu H locs hP hD hS ls hl
      refine lv_iload hx hb dX2_leastRing_29 (lv_at hl 0 rfl) ?_
      refine lv_bipush (v := nI 16) hx hb dX2_leastRing_31 (by decide) ?_
      refine rk_gtN (tgt := 71) hx hb (by omega) (by omega) dX2_leastRing_33 (by decide) (fun zc33 => ?_) (fun zc33 => ?_)
      · refine lv_bipush (v := (-6)) hx hb dX2_leastRing_71 (by decide) ?_
        exact ret_i hQ hx hb hr hlocks (hP.sub [0, 4, 1, 2, 3] rfl) (hD.sub [0, 4, 1, 2, 3] (by decide) rfl) hS dX2_leastRing_73 (by rw [he, show 17 - i = 0 by omega]; rfl)
      · refine lv_aload_n hx hb dX2_leastRing_36 rfl (lv_at hl 3 rfl) ?_
        refine rk_get (ci := 2) (C := RX2) (T := TX2) (N := 9) hx hb hts iw_X2_leastRing_2 hown hK hP 0 rfl rfl 0 (by decide) fl_X2_leastRing_27 rfl (v := .ref t0) rfl dX2_leastRing_37 ?_
        refine lv_iload_n hx hb dX2_leastRing_40 rfl (lv_at hl 1 rfl) ?_
        refine lv_iload_n hx hb dX2_leastRing_41 rfl (lv_at hl 2 rfl) ?_
        refine kV_i (E := E) (As := [.int z, .int ((allR (nI k)) &&& (((nI 1) <<< ((nI r) &&& 31)) ^^^ ((-1))))]) (rest := []) (wr := [(s0, .inr (2, [.ref t0, .ref sP, .ref sD, .ref sS, .ref sL, .ref sF, .int pc, .int ds, .int pr])), (q1, aI E 30 lo), (q2, aI E 30 hi)]) ⟨hx, hb, hml, hown, hts⟩ (c_X3_oneRoadFurther (l := l) (E := E) (sz := _) (h0 := t0) (q1 := q1) (q2 := q2) (q3 := q3) (q4 := q4) (sc := sc) (k := k) (en := en) (x := z) (w := (allR (nI k)) &&& (((nI 1) <<< ((nI r) &&& 31)) ^^^ ((-1)))) (hk := by first | assumption | omega)) (cwV 2 hts gX2_leastRing_X3_oneRoadFurther rfl rfl rfl (by decide +kernel) ⟨by rw [hR]; decide, by rw [hR]; decide⟩) hK hN hP hD hS hA [4, 3] [0, 1, 2] rfl (by decide) rfl (by decide) (by decide) 4 3 rfl rfl rfl hl.1 rfl (Nat.le_of_ble_eq_true rfl) dX2_leastRing_42 ⟨Nat.zero_le _, Nat.zero_le _⟩ (fun H locs hP hD hS => ?_)
        have hP : va_P E.1 vwCl [(s0, .inr (2, [.ref t0, .ref sP, .ref sD, .ref sS, .ref sL, .ref sF, .int pc, .int ds, .int pr])), (q1, aI E 30 lo), (q2, aI E 30 hi), (t0, .inr (3, [.int sc, .int (nI k), .ref q1, .ref q2, .ref q3, .ref q4])), (q4, aI E 30 en)] H := hP
        have hD : va_D A [(s0, .inr (2, [.ref t0, .ref sP, .ref sD, .ref sS, .ref sL, .ref sF, .int pc, .int ds, .int pr])), (q1, aI E 30 lo), (q2, aI E 30 hi), (t0, .inr (3, [.int sc, .int (nI k), .ref q1, .ref q2, .ref q3, .ref q4])), (q4, aI E 30 en)] := hD
        refine lv_istore_n (lv' := [(3, .int (orf en z ((allR (nI k)) &&& (((nI 1) <<< ((nI r) &&& 31)) ^^^ ((-1)))) k)), (4, .int (nI i)), (2, .int ((allR (nI k)) &&& (((nI 1) <<< ((nI r) &&& 31)) ^^^ ((-1))))), (0, .ref s0), (1, .int (nI r))]) hx hb dX2_leastRing_45 rfl hl (by decide) rfl (fun ls hl => ?_)
        refine lv_iload_n hx hb dX2_leastRing_46 rfl (lv_at hl 0 rfl) ?_
        refine lv_aload_n hx hb dX2_leastRing_47 rfl (lv_at hl 3 rfl) ?_
        refine rk_get (ci := 2) (C := RX2) (T := TX2) (N := 9) hx hb hts iw_X2_leastRing_2 hown hK hP 0 rfl rfl 0 (by decide) fl_X2_leastRing_27 rfl (v := .ref t0) rfl dX2_leastRing_48 ?_
        refine rk_get (ci := 3) (C := RX3) (T := TX3) (N := 6) hx hb hts iw_X2_leastRing_3 hown hK hP 3 rfl rfl 3 (by decide) fl_X2_leastRing_77 rfl (v := .ref q2) rfl dX2_leastRing_51 ?_
        refine lv_iload_n hx hb dX2_leastRing_54 rfl (lv_at hl 4 rfl) ?_
        refine rk_iald hx hb hK hP 2 rfl (by omega) (by omega) (v := hi r) (rfl) dX2_leastRing_55 ?_
        refine kSN_i (E := E) (As := [.int (orf en z ((allR (nI k)) &&& (((nI 1) <<< ((nI r) &&& 31)) ^^^ ((-1)))) k), .int (hi r)]) (rest := []) (wr := [(s0, .inr (2, [.ref t0, .ref sP, .ref sD, .ref sS, .ref sL, .ref sF, .int pc, .int ds, .int pr])), (q1, aI E 30 lo), (q2, aI E 30 hi), (t0, .inr (3, [.int sc, .int (nI k), .ref q1, .ref q2, .ref q3, .ref q4])), (q4, aI E 30 en)]) ⟨hx, hb, hml, hown, hts⟩ (c_X4_contains (l := l) (E := E) (sz := _) (x := orf en z ((allR (nI k)) &&& (((nI 1) <<< ((nI r) &&& 31)) ^^^ ((-1)))) k) (y := hi r) ) ⟨va_cnB 2 hts gX2_leastRing_X4_contains_n52 rfl rfl rfl hN.2.1 (hts _ inX4_X2_leastRing) (by decide +kernel) ⟨by rw [hR]; decide, by rw [hR]; decide⟩, hts _ stX4_contains_X2_leastRing, trivial⟩ hK hN hP hD hS hA [] [0, 1, 2, 3, 4] rfl (by decide) rfl (by decide) (by decide) rfl hl.1 rfl (Nat.le_of_ble_eq_true rfl) dX2_leastRing_56 ⟨Nat.zero_le _, Nat.zero_le _⟩ (fun H locs hP hD hS => ?_)
        have hP : va_P E.1 vwCl [(s0, .inr (2, [.ref t0, .ref sP, .ref sD, .ref sS, .ref sL, .ref sF, .int pc, .int ds, .int pr])), (q1, aI E 30 lo), (q2, aI E 30 hi), (t0, .inr (3, [.int sc, .int (nI k), .ref q1, .ref q2, .ref q3, .ref q4])), (q4, aI E 30 en)] H := hP
        have hD : va_D A [(s0, .inr (2, [.ref t0, .ref sP, .ref sD, .ref sS, .ref sL, .ref sF, .int pc, .int ds, .int pr])), (q1, aI E 30 lo), (q2, aI E 30 hi), (t0, .inr (3, [.int sc, .int (nI k), .ref q1, .ref q2, .ref q3, .ref q4])), (q4, aI E 30 en)] := hD
        refine rk_if_eqB (tgt := 65) hx hb dX2_leastRing_59 (by decide) (fun zc59 => ?_) (fun zc59 => ?_)
        · refine lv_iinc (v := nI (i + 1)) (lv' := [(4, .int (nI (i + 1))), (3, .int (orf en z ((allR (nI k)) &&& (((nI 1) <<< ((nI r) &&& 31)) ^^^ ((-1)))) k)), (2, .int ((allR (nI k)) &&& (((nI 1) <<< ((nI r) &&& 31)) ^^^ ((-1))))), (0, .ref s0), (1, .int (nI r))]) hx hb dX2_leastRing_65 hl (k := 1) rfl (by rw [show Int32.ofInt 1 = nI 1 by decide]; exact nI_add _ _) (by decide) rfl (fun ls hl => ?_)
          refine lv_goto (tgt := 29) hx hb dX2_leastRing_68 (by decide) ?_
          exact ih29 (orf en z ((allR (nI k)) &&& (((nI 1) <<< ((nI r) &&& 31)) ^^^ ((-1)))) k) (i + 1) (by rw [ez]; exact bfs_s h1) (by rw [he]; exact fst6_miss (by rw [ez] at zc59; simp only [lrP]; rw [← bfs_s h1]; exact zc59) (by omega)) (by first | assumption | omega | rfl) (by first | assumption | omega | rfl) (by omega) _ _ (hP.sub [0, 1, 2, 4, 3] rfl) (hD.sub [0, 1, 2, 4, 3] (by decide) rfl) hS ls (lv_sub hl [0, 1, 2, 3, 4] rfl)
        · refine lv_iload hx hb dX2_leastRing_62 (lv_at hl 1 rfl) ?_
          exact ret_i hQ hx hb hr hlocks (hP.sub [0, 3, 1, 2, 4] rfl) (hD.sub [0, 3, 1, 2, 4] (by decide) rfl) hS dX2_leastRing_64 (by rw [he]; exact fst6_hit (by rw [ez] at zc59; simp only [lrP]; rw [← bfs_s h1]; exact zc59) (by omega))
  exact L29 ((17 - 2) + 1) ((nI 1) <<< ((nI (a r)) &&& 31)) 2 (rfl) (rfl) (by first | assumption | omega | rfl) (by first | assumption | omega | rfl) (Nat.lt_succ_self _) _ _ (hP.sub [0, 1, 2, 3, 4] rfl) (hD.sub [0, 1, 2, 3, 4] (by decide) rfl) hS ls (lv_sub hl [0, 1, 2, 3, 4] rfl)
theorem iw_X2_shorten_2 : ∀ w ∈ u_ws RX2 TX2 9, w ∈ wsX2_shorten := by decide +kernel
theorem fl_X2_shorten_24 : Cond.fieldLink RX2 24 (TX2 5).1 (TX2 5).2.1 (TX2 5).2.2.1 ∈ wsX2_shorten := by decide +kernel
set_option maxHeartbeats 400000 in
set_option maxRecDepth 100000 in
theorem c_X2_shorten (l : Launch) (E : EE) (sz : Nat) (s0 t0 sP sD sS sL sF q1 q2 q3 q4 : Nat) (pc ds pr : Int32) (f t : Nat) (w : Int32) (gg : Nat → Int32) (g1 : f < 16) (g2 : t < 16) : Ci l yX2_shorten wsX2_shorten 0 0 E [.ref s0, .int (nI f), .int (nI t), .int w] [(s0, .inr (2, [.ref t0, .ref sP, .ref sD, .ref sS, .ref sL, .ref sF, .int pc, .int ds, .int pr])), (sF, aI E 16 gg)] sz (b2i (shoB gg f t w)) [(s0, .inr (2, [.ref t0, .ref sP, .ref sD, .ref sS, .ref sL, .ref sF, .int pc, .int ds, .int pr])), (sF, aI E 16 (sho gg f t w))] := by
  refine C_of (QQ := QI E (b2i (shoB gg f t w)) [(s0, .inr (2, [.ref t0, .ref sP, .ref sD, .ref sS, .ref sL, .ref sF, .int pc, .int ds, .int pr])), (sF, aI E 16 (sho gg f t w))]) (cc := cX2_shorten) (maxL := 4) (ret := (some .boolean)) (by decide +kernel) rfl (Nat.le_of_ble_eq_true rfl) ?_
  intro p e s m args below meth c A R Q ls hx hb hr hts hown hml hlocks hA hK hN hP hD hS hl hR hQ
  have hown : s.vm.findClass RX2 = some m.cls := hown
  have hl : lv_has ls 4 [(0, .ref s0), (1, .int (nI f)), (2, .int (nI t)), (3, .int w)] := hl
  refine lv_aload_n hx hb dX2_shorten_0 rfl (lv_at hl 0 rfl) ?_
  refine rk_get (ci := 2) (C := RX2) (T := TX2) (N := 9) hx hb hts iw_X2_shorten_2 hown hK hP 0 rfl rfl 5 (by decide) fl_X2_shorten_24 rfl (v := .ref sF) rfl dX2_shorten_1 ?_
  refine lv_iload_n hx hb dX2_shorten_4 rfl (lv_at hl 1 rfl) ?_
  refine rk_iald hx hb hK hP 1 rfl (by omega) (by omega) (v := gg f) (rfl) dX2_shorten_5 ?_
  refine lv_iload_n hx hb dX2_shorten_6 rfl (lv_at hl 3 rfl) ?_
  refine lv_iadd hx hb dX2_shorten_7 ?_
  refine lv_aload_n hx hb dX2_shorten_8 rfl (lv_at hl 0 rfl) ?_
  refine rk_get (ci := 2) (C := RX2) (T := TX2) (N := 9) hx hb hts iw_X2_shorten_2 hown hK hP 0 rfl rfl 5 (by decide) fl_X2_shorten_24 rfl (v := .ref sF) rfl dX2_shorten_9 ?_
  refine lv_iload_n hx hb dX2_shorten_12 rfl (lv_at hl 2 rfl) ?_
  refine rk_iald hx hb hK hP 1 rfl (by omega) (by omega) (v := gg t) (rfl) dX2_shorten_13 ?_
  refine lv_icmp_lt (tgt := 19) hx hb dX2_shorten_14 (by decide) (fun zc14 => ?_) (fun zc14 => ?_)
  · refine lv_aload_n hx hb dX2_shorten_19 rfl (lv_at hl 0 rfl) ?_
    refine rk_get (ci := 2) (C := RX2) (T := TX2) (N := 9) hx hb hts iw_X2_shorten_2 hown hK hP 0 rfl rfl 5 (by decide) fl_X2_shorten_24 rfl (v := .ref sF) rfl dX2_shorten_20 ?_
    refine lv_iload_n hx hb dX2_shorten_23 rfl (lv_at hl 2 rfl) ?_
    refine lv_aload_n hx hb dX2_shorten_24 rfl (lv_at hl 0 rfl) ?_
    refine rk_get (ci := 2) (C := RX2) (T := TX2) (N := 9) hx hb hts iw_X2_shorten_2 hown hK hP 0 rfl rfl 5 (by decide) fl_X2_shorten_24 rfl (v := .ref sF) rfl dX2_shorten_25 ?_
    refine lv_iload_n hx hb dX2_shorten_28 rfl (lv_at hl 1 rfl) ?_
    refine rk_iald hx hb hK hP 1 rfl (by omega) (by omega) (v := gg f) (rfl) dX2_shorten_29 ?_
    refine lv_iload_n hx hb dX2_shorten_30 rfl (lv_at hl 3 rfl) ?_
    refine lv_iadd hx hb dX2_shorten_31 ?_
    refine rk_iast hx hb hK hP hD hS 1 rfl (by omega) (by omega) (ws' := [(s0, .inr (2, [.ref t0, .ref sP, .ref sD, .ref sS, .ref sL, .ref sF, .int pc, .int ds, .int pr])), (sF, aI E 16 (upd gg t ((gg f) + w)))]) rfl dX2_shorten_32 (fun H locs hP hD hS => ?_)
    have hfe : upd gg t ((gg f) + w) = sho gg f t w := by simp only [sho]; exact (if_pos zc14).symm
    rw [hfe] at hP hD
    refine lv_iconst (v := nI 1) hx hb dX2_shorten_33 (by decide) ?_
    exact ret_z hQ hx hb hr hlocks (hP.sub [0, 1] rfl) (hD.sub [0, 1] (by decide) rfl) hS dX2_shorten_34 (nz_1) (by exact b2i_t (decide_eq_true zc14))
  · have hfe : gg = sho gg f t w := by simp only [sho]; exact (if_neg zc14).symm
    rw [hfe] at hP hD
    refine lv_iconst (v := nI 0) hx hb dX2_shorten_17 (by decide) ?_
    exact ret_z hQ hx hb hr hlocks (hP.sub [0, 1] rfl) (hD.sub [0, 1] (by decide) rfl) hS dX2_shorten_18 (nz_0) (by exact b2i_f (decide_eq_false zc14))
theorem iw_X2_leastLength_2 : ∀ w ∈ u_ws RX2 TX2 9, w ∈ wsX2_leastLength := by decide +kernel
theorem fl_X2_leastLength_24 : Cond.fieldLink RX2 24 (TX2 5).1 (TX2 5).2.1 (TX2 5).2.2.1 ∈ wsX2_leastLength := by decide +kernel
theorem fl_X2_leastLength_27 : Cond.fieldLink RX2 27 (TX2 0).1 (TX2 0).2.1 (TX2 0).2.2.1 ∈ wsX2_leastLength := by decide +kernel
theorem iw_X2_leastLength_3 : ∀ w ∈ u_ws RX3 TX3 6, w ∈ wsX2_leastLength := by decide +kernel
theorem fl_X2_leastLength_71 : Cond.fieldLink RX2 71 (TX3 1).1 (TX3 1).2.1 (TX3 1).2.2.1 ∈ wsX2_leastLength := by decide +kernel
theorem fl_X2_leastLength_74 : Cond.fieldLink RX2 74 (TX3 2).1 (TX3 2).2.1 (TX3 2).2.2.1 ∈ wsX2_leastLength := by decide +kernel
theorem fl_X2_leastLength_77 : Cond.fieldLink RX2 77 (TX3 3).1 (TX3 3).2.1 (TX3 3).2.2.1 ∈ wsX2_leastLength := by decide +kernel
theorem fl_X2_leastLength_128 : Cond.fieldLink RX2 128 (TX3 4).1 (TX3 4).2.1 (TX3 4).2.2.1 ∈ wsX2_leastLength := by decide +kernel
set_option maxHeartbeats 400000 in
set_option maxRecDepth 100000 in
theorem c_X2_leastLength (l : Launch) (E : EE) (sz : Nat) (s0 t0 sP sD sS sL sF q1 q2 q3 q4 : Nat) (sc : Int32) (k : Nat) (pc ds pr : Int32) (x y : Nat) (lo hi le di : Nat → Int32) (a b : Nat → Nat) (g1 : x < 16) (g2 : y < 16) (gk : k ≤ 30) (glo : ∀ r, r < k → lo r = nI (a r)) (ghi : ∀ r, r < k → hi r = nI (b r)) (ga : ∀ r, r < k → a r < 16) (gb : ∀ r, r < k → b r < 16) : Ci l yX2_leastLength wsX2_leastLength 1 23 E [.ref s0, .int (nI x), .int (nI y)] [(s0, .inr (2, [.ref t0, .ref sP, .ref sD, .ref sS, .ref sL, .ref sF, .int pc, .int ds, .int pr])), (t0, .inr (3, [.int sc, .int (nI k), .ref q1, .ref q2, .ref q3, .ref q4])), (sF, aI E 16 di), (q1, aI E 30 lo), (q2, aI E 30 hi), (q3, aI E 30 le)] sz (dL a b le (upd (dLf di 16) x (nI 0)) k 16 y) [(s0, .inr (2, [.ref t0, .ref sP, .ref sD, .ref sS, .ref sL, .ref sF, .int pc, .int ds, .int pr])), (t0, .inr (3, [.int sc, .int (nI k), .ref q1, .ref q2, .ref q3, .ref q4])), (sF, aI E 16 (dL a b le (upd (dLf di 16) x (nI 0)) k 16)), (q1, aI E 30 lo), (q2, aI E 30 hi), (q3, aI E 30 le)] := by
  refine C_of (QQ := QI E (dL a b le (upd (dLf di 16) x (nI 0)) k 16 y) [(s0, .inr (2, [.ref t0, .ref sP, .ref sD, .ref sS, .ref sL, .ref sF, .int pc, .int ds, .int pr])), (t0, .inr (3, [.int sc, .int (nI k), .ref q1, .ref q2, .ref q3, .ref q4])), (sF, aI E 16 (dL a b le (upd (dLf di 16) x (nI 0)) k 16)), (q1, aI E 30 lo), (q2, aI E 30 hi), (q3, aI E 30 le)]) (cc := cX2_leastLength) (maxL := 6) (ret := (some .int)) (by decide +kernel) rfl (Nat.le_of_ble_eq_true rfl) ?_
  intro p e s m args below meth c A R Q ls hx hb hr hts hown hml hlocks hA hK hN hP hD hS hl hR hQ
  have hown : s.vm.findClass RX2 = some m.cls := hown
  have hl : lv_has ls 6 [(0, .ref s0), (1, .int (nI x)), (2, .int (nI y))] := hl
  refine lv_iconst (v := nI 0) hx hb dX2_leastLength_0 (by decide) ?_
  refine lv_istore_n (lv' := [(3, .int (nI 0)), (0, .ref s0), (1, .int (nI x)), (2, .int (nI y))]) hx hb dX2_leastLength_1 rfl hl (by decide) rfl (fun ls hl => ?_)
  have L2 : ∀ (fu : Nat) (i : Nat) (f : Nat → Int32), (ef : f = dLf di i) → (gi : i ≤ 16) → 16 - i < fu → ∀ (H : Heap) (locs : List Loc), va_P E.1 vwCl [(s0, .inr (2, [.ref t0, .ref sP, .ref sD, .ref sS, .ref sL, .ref sF, .int pc, .int ds, .int pr])), (t0, .inr (3, [.int sc, .int (nI k), .ref q1, .ref q2, .ref q3, .ref q4])), (sF, aI E 16 f), (q1, aI E 30 lo), (q2, aI E 30 hi), (q3, aI E 30 le)] H → va_D A [(s0, .inr (2, [.ref t0, .ref sP, .ref sD, .ref sS, .ref sL, .ref sF, .int pc, .int ds, .int pr])), (t0, .inr (3, [.int sc, .int (nI k), .ref q1, .ref q2, .ref q3, .ref q4])), (sF, aI E 16 f), (q1, aI E 30 lo), (q2, aI E 30 hi), (q3, aI E 30 le)] → va_S A s.heap H locs → ∀ (ls : Array Slot), lv_has ls 6 [(3, .int (nI i)), (0, .ref s0), (1, .int (nI x)), (2, .int (nI y))] → W p l e R s m args below meth c H locs 0 0 Q (F0 m 2 ls []) := by
    intro fu
    induction fu with
    | zero => intro i f ef gi hfu; exact absurd hfu (Nat.not_lt_zero _)
    | succ fu ih2 =>
      intro i f ef gi hfu H locs hP hD hS ls hl
      refine lv_iload_n hx hb dX2_leastLength_2 rfl (lv_at hl 0 rfl) ?_
      refine lv_bipush (v := nI 16) hx hb dX2_leastLength_3 (by decide) ?_
      refine rk_geN (tgt := 23) hx hb (by omega) (by omega) dX2_leastLength_5 (by decide) (fun zc5 => ?_) (fun zc5 => ?_)
      · obtain rfl : i = 16 := by omega
        subst ef
        refine lv_aload_n hx hb dX2_leastLength_23 rfl (lv_at hl 1 rfl) ?_
        refine rk_get (ci := 2) (C := RX2) (T := TX2) (N := 9) hx hb hts iw_X2_leastLength_2 hown hK hP 0 rfl rfl 5 (by decide) fl_X2_leastLength_24 rfl (v := .ref sF) rfl dX2_leastLength_24 ?_
        refine lv_iload_n hx hb dX2_leastLength_27 rfl (lv_at hl 2 rfl) ?_
        refine lv_iconst (v := nI 0) hx hb dX2_leastLength_28 (by decide) ?_
        refine rk_iast hx hb hK hP hD hS 2 rfl (by omega) (by omega) (ws' := [(s0, .inr (2, [.ref t0, .ref sP, .ref sD, .ref sS, .ref sL, .ref sF, .int pc, .int ds, .int pr])), (t0, .inr (3, [.int sc, .int (nI k), .ref q1, .ref q2, .ref q3, .ref q4])), (sF, aI E 16 (upd ((dLf di 16)) x (nI 0))), (q1, aI E 30 lo), (q2, aI E 30 hi), (q3, aI E 30 le)]) rfl dX2_leastLength_29 (fun H locs hP hD hS => ?_)
        refine lv_iconst (v := nI 1) hx hb dX2_leastLength_30 (by decide) ?_
        refine lv_istore_n (lv' := [(3, .int (nI 1)), (0, .ref s0), (1, .int (nI x)), (2, .int (nI y))]) hx hb dX2_leastLength_31 rfl hl (by decide) rfl (fun ls hl => ?_)
        refine lv_iconst (v := nI 0) hx hb dX2_leastLength_32 (by decide) ?_
        refine lv_istore (lv' := [(4, .int (nI 0)), (3, .int (nI 1)), (0, .ref s0), (1, .int (nI x)), (2, .int (nI y))]) hx hb dX2_leastLength_33 hl (by decide) rfl (fun ls hl => ?_)
        have L35 : ∀ (fu : Nat) (fl : Bool) (j : Nat) (f2 : Nat → Int32), (ef2 : f2 = dL a b le (upd (dLf di 16) x (nI 0)) k j) → (efl : fl = dF a b le (upd (dLf di 16) x (nI 0)) k j) → (gj : j ≤ 16) → 16 - j < fu → ∀ (H : Heap) (locs : List Loc), va_P E.1 vwCl [(s0, .inr (2, [.ref t0, .ref sP, .ref sD, .ref sS, .ref sL, .ref sF, .int pc, .int ds, .int pr])), (t0, .inr (3, [.int sc, .int (nI k), .ref q1, .ref q2, .ref q3, .ref q4])), (sF, aI E 16 f2), (q1, aI E 30 lo), (q2, aI E 30 hi), (q3, aI E 30 le)] H → va_D A [(s0, .inr (2, [.ref t0, .ref sP, .ref sD, .ref sS, .ref sL, .ref sF, .int pc, .int ds, .int pr])), (t0, .inr (3, [.int sc, .int (nI k), .ref q1, .ref q2, .ref q3, .ref q4])), (sF, aI E 16 f2), (q1, aI E 30 lo), (q2, aI E 30 hi), (q3, aI E 30 le)] → va_S A s.heap H locs → ∀ (ls : Array Slot), lv_has ls 6 [(4, .int (nI j)), (3, .int (b2i fl)), (0, .ref s0), (1, .int (nI x)), (2, .int (nI y))] → W p l e R s m args below meth c H locs 0 0 Q (F0 m 35 ls []) := by
          intro fu
          induction fu with
          | zero => intro fl j f2 ef2 efl gj hfu; exact absurd hfu (Nat.not_lt_zero _)
          | succ fu ih35 =>
            intro fl j f2 ef2 efl gj hfu H locs hP hD hS ls hl
            refine lv_iload hx hb dX2_leastLength_35 (lv_at hl 0 rfl) ?_
            refine lv_bipush (v := nI 16) hx hb dX2_leastLength_37 (by decide) ?_
            refine rk_geN (tgt := 151) hx hb (by omega) (by omega) dX2_leastLength_39 (by decide) (fun zc39 => ?_) (fun zc39 => ?_)
            · have hfe : f2 = dL a b le (upd (dLf di 16) x (nI 0)) k 16 := by obtain rfl : j = 16 := (by omega); exact ef2
              rw [hfe] at hP hD
              refine lv_aload_n hx hb dX2_leastLength_151 rfl (lv_at hl 2 rfl) ?_
              refine rk_get (ci := 2) (C := RX2) (T := TX2) (N := 9) hx hb hts iw_X2_leastLength_2 hown hK hP 0 rfl rfl 5 (by decide) fl_X2_leastLength_24 rfl (v := .ref sF) rfl dX2_leastLength_152 ?_
              refine lv_iload_n hx hb dX2_leastLength_155 rfl (lv_at hl 4 rfl) ?_
              refine rk_iald hx hb hK hP 2 rfl (by omega) (by omega) (v := (dL a b le (upd (dLf di 16) x (nI 0)) k 16) y) (rfl) dX2_leastLength_156 ?_
              exact ret_i hQ hx hb hr hlocks (hP.sub [0, 1, 2, 3, 4, 5] rfl) (hD.sub [0, 1, 2, 3, 4, 5] (by decide) rfl) hS dX2_leastLength_157 (rfl)
            · refine lv_iload_n hx hb dX2_leastLength_42 rfl (lv_at hl 1 rfl) ?_
              refine rk_if_eqB (tgt := 151) hx hb dX2_leastLength_43 (by decide) (fun zc43 => ?_) (fun zc43 => ?_)
              · have hfe : f2 = dL a b le (upd (dLf di 16) x (nI 0)) k 16 := by rw [ef2]; exact dL_stop gj (by rw [← efl]; exact zc43)
                rw [hfe] at hP hD
                refine lv_aload_n hx hb dX2_leastLength_151 rfl (lv_at hl 2 rfl) ?_
                refine rk_get (ci := 2) (C := RX2) (T := TX2) (N := 9) hx hb hts iw_X2_leastLength_2 hown hK hP 0 rfl rfl 5 (by decide) fl_X2_leastLength_24 rfl (v := .ref sF) rfl dX2_leastLength_152 ?_
                refine lv_iload_n hx hb dX2_leastLength_155 rfl (lv_at hl 4 rfl) ?_
                refine rk_iald hx hb hK hP 2 rfl (by omega) (by omega) (v := (dL a b le (upd (dLf di 16) x (nI 0)) k 16) y) (rfl) dX2_leastLength_156 ?_
                exact ret_i hQ hx hb hr hlocks (hP.sub [0, 1, 2, 3, 4, 5] rfl) (hD.sub [0, 1, 2, 3, 4, 5] (by decide) rfl) hS dX2_leastLength_157 (rfl)
              · refine lv_iconst (v := nI 0) hx hb dX2_leastLength_46 (by decide) ?_
                refine lv_istore_n (lv' := [(3, .int (nI 0)), (4, .int (nI j)), (0, .ref s0), (1, .int (nI x)), (2, .int (nI y))]) hx hb dX2_leastLength_47 rfl hl (by decide) rfl (fun ls hl => ?_)
                refine lv_iconst (v := nI 0) hx hb dX2_leastLength_48 (by decide) ?_
                refine lv_istore (lv' := [(5, .int (nI 0)), (3, .int (nI 0)), (4, .int (nI j)), (0, .ref s0), (1, .int (nI x)), (2, .int (nI y))]) hx hb dX2_leastLength_49 hl (by decide) rfl (fun ls hl => ?_)
                have L51 : ∀ (fu : Nat) (fm : Bool) (i : Nat) (f3 : Nat → Int32), (ef3 : f3 = psL a b le f2 i) → (efm : fm = psF a b le f2 i) → (gi : i ≤ k) → k - i < fu → ∀ (H : Heap) (locs : List Loc), va_P E.1 vwCl [(s0, .inr (2, [.ref t0, .ref sP, .ref sD, .ref sS, .ref sL, .ref sF, .int pc, .int ds, .int pr])), (t0, .inr (3, [.int sc, .int (nI k), .ref q1, .ref q2, .ref q3, .ref q4])), (sF, aI E 16 f3), (q1, aI E 30 lo), (q2, aI E 30 hi), (q3, aI E 30 le)] H → va_D A [(s0, .inr (2, [.ref t0, .ref sP, .ref sD, .ref sS, .ref sL, .ref sF, .int pc, .int ds, .int pr])), (t0, .inr (3, [.int sc, .int (nI k), .ref q1, .ref q2, .ref q3, .ref q4])), (sF, aI E 16 f3), (q1, aI E 30 lo), (q2, aI E 30 hi), (q3, aI E 30 le)] → va_S A s.heap H locs → ∀ (ls : Array Slot), lv_has ls 6 [(5, .int (nI i)), (3, .int (b2i fm)), (4, .int (nI j)), (0, .ref s0), (1, .int (nI x)), (2, .int (nI y))] → W p l e R s m args below meth c H locs 0 0 Q (F0 m 51 ls []) := by
                  intro fu
                  induction fu with
                  | zero => intro fm i f3 ef3 efm gi hfu; exact absurd hfu (Nat.not_lt_zero _)
                  | succ fu ih51 =>
                    intro fm i f3 ef3 efm gi hfu H locs hP hD hS ls hl
                    refine lv_iload hx hb dX2_leastLength_51 (lv_at hl 0 rfl) ?_
                    refine lv_aload_n hx hb dX2_leastLength_53 rfl (lv_at hl 3 rfl) ?_
                    refine rk_get (ci := 2) (C := RX2) (T := TX2) (N := 9) hx hb hts iw_X2_leastLength_2 hown hK hP 0 rfl rfl 0 (by decide) fl_X2_leastLength_27 rfl (v := .ref t0) rfl dX2_leastLength_54 ?_
                    refine rk_get (ci := 3) (C := RX3) (T := TX3) (N := 6) hx hb hts iw_X2_leastLength_3 hown hK hP 1 rfl rfl 1 (by decide) fl_X2_leastLength_71 rfl (v := .int (nI k)) rfl dX2_leastLength_57 ?_
                    refine rk_geN (tgt := 145) hx hb (by omega) (by omega) dX2_leastLength_60 (by decide) (fun zc60 => ?_) (fun zc60 => ?_)
                    · refine lv_iinc (v := nI (j + 1)) (lv' := [(4, .int (nI (j + 1))), (5, .int (nI i)), (3, .int (b2i fm)), (0, .ref s0), (1, .int (nI x)), (2, .int (nI y))]) hx hb dX2_leastLength_145 hl (k := 2) rfl (by rw [show Int32.ofInt 1 = nI 1 by decide]; exact nI_add _ _) (by decide) rfl (fun ls hl => ?_)
                      refine lv_goto (tgt := 35) hx hb dX2_leastLength_148 (by decide) ?_
                      exact ih35 fm (j + 1) f3 (by obtain rfl : k = i := (by omega); rw [ef3, ef2]; rfl) (by obtain rfl : k = i := (by omega); rw [efm, ef2]; rfl) (by first | assumption | omega | rfl) (by omega) _ _ (hP.sub [0, 1, 2, 3, 4, 5] rfl) (hD.sub [0, 1, 2, 3, 4, 5] (by decide) rfl) hS ls (lv_sub hl [0, 2, 3, 4, 5] rfl)
                    · refine lv_aload_n hx hb dX2_leastLength_63 rfl (lv_at hl 3 rfl) ?_
                      refine lv_aload_n hx hb dX2_leastLength_64 rfl (lv_at hl 3 rfl) ?_
                      refine rk_get (ci := 2) (C := RX2) (T := TX2) (N := 9) hx hb hts iw_X2_leastLength_2 hown hK hP 0 rfl rfl 0 (by decide) fl_X2_leastLength_27 rfl (v := .ref t0) rfl dX2_leastLength_65 ?_
                      refine rk_get (ci := 3) (C := RX3) (T := TX3) (N := 6) hx hb hts iw_X2_leastLength_3 hown hK hP 1 rfl rfl 2 (by decide) fl_X2_leastLength_74 rfl (v := .ref q1) rfl dX2_leastLength_68 ?_
                      refine lv_iload hx hb dX2_leastLength_71 (lv_at hl 0 rfl) ?_
                      refine rk_iald hx hb hK hP 3 rfl (by omega) (by omega) (v := nI (a i)) (glo i (by omega)) dX2_leastLength_73 ?_
                      refine lv_aload_n hx hb dX2_leastLength_74 rfl (lv_at hl 3 rfl) ?_
                      refine rk_get (ci := 2) (C := RX2) (T := TX2) (N := 9) hx hb hts iw_X2_leastLength_2 hown hK hP 0 rfl rfl 0 (by decide) fl_X2_leastLength_27 rfl (v := .ref t0) rfl dX2_leastLength_75 ?_
                      refine rk_get (ci := 3) (C := RX3) (T := TX3) (N := 6) hx hb hts iw_X2_leastLength_3 hown hK hP 1 rfl rfl 3 (by decide) fl_X2_leastLength_77 rfl (v := .ref q2) rfl dX2_leastLength_78 ?_
                      refine lv_iload hx hb dX2_leastLength_81 (lv_at hl 0 rfl) ?_
                      refine rk_iald hx hb hK hP 4 rfl (by omega) (by omega) (v := nI (b i)) (ghi i (by omega)) dX2_leastLength_83 ?_
                      refine lv_aload_n hx hb dX2_leastLength_84 rfl (lv_at hl 3 rfl) ?_
                      refine rk_get (ci := 2) (C := RX2) (T := TX2) (N := 9) hx hb hts iw_X2_leastLength_2 hown hK hP 0 rfl rfl 0 (by decide) fl_X2_leastLength_27 rfl (v := .ref t0) rfl dX2_leastLength_85 ?_
                      refine rk_get (ci := 3) (C := RX3) (T := TX3) (N := 6) hx hb hts iw_X2_leastLength_3 hown hK hP 1 rfl rfl 4 (by decide) fl_X2_leastLength_128 rfl (v := .ref q3) rfl dX2_leastLength_88 ?_
                      refine lv_iload hx hb dX2_leastLength_91 (lv_at hl 0 rfl) ?_
                      refine rk_iald hx hb hK hP 5 rfl (by omega) (by omega) (v := le i) (rfl) dX2_leastLength_93 ?_
                      refine kV_i (E := E) (As := [.int (nI (a i)), .int (nI (b i)), .int (le i)]) (rest := []) (wr := [(t0, .inr (3, [.int sc, .int (nI k), .ref q1, .ref q2, .ref q3, .ref q4])), (q1, aI E 30 lo), (q2, aI E 30 hi), (q3, aI E 30 le)]) ⟨hx, hb, hml, hown, hts⟩ (c_X2_shorten (l := l) (E := E) (sz := _) (s0 := s0) (t0 := t0) (sP := sP) (sD := sD) (sS := sS) (sL := sL) (sF := sF) (q1 := 0) (q2 := 0) (q3 := 0) (q4 := 0) (pc := pc) (ds := ds) (pr := pr) (f := a i) (t := b i) (w := le i) (gg := f3) (g1 := ga i (by omega)) (g2 := gb i (by omega))) (cwV 3 hts gX2_leastLength_X2_shorten rfl rfl rfl (by decide +kernel) ⟨by rw [hR]; decide, by rw [hR]; decide⟩) hK hN hP hD hS hA [0, 2] [1, 3, 4, 5] rfl (by decide) rfl (by decide) (by decide) 0 2 rfl rfl rfl hl.1 rfl (Nat.le_of_ble_eq_true rfl) dX2_leastLength_94 ⟨Nat.zero_le _, Nat.zero_le _⟩ (fun H locs hP hD hS => ?_)
                      have hP : va_P E.1 vwCl [(t0, .inr (3, [.int sc, .int (nI k), .ref q1, .ref q2, .ref q3, .ref q4])), (q1, aI E 30 lo), (q2, aI E 30 hi), (q3, aI E 30 le), (s0, .inr (2, [.ref t0, .ref sP, .ref sD, .ref sS, .ref sL, .ref sF, .int pc, .int ds, .int pr])), (sF, aI E 16 (sho f3 (a i) (b i) (le i)))] H := hP
                      have hD : va_D A [(t0, .inr (3, [.int sc, .int (nI k), .ref q1, .ref q2, .ref q3, .ref q4])), (q1, aI E 30 lo), (q2, aI E 30 hi), (q3, aI E 30 le), (s0, .inr (2, [.ref t0, .ref sP, .ref sD, .ref sS, .ref sL, .ref sF, .int pc, .int ds, .int pr])), (sF, aI E 16 (sho f3 (a i) (b i) (le i)))] := hD
                      refine rk_if_neB (tgt := 137) hx hb dX2_leastLength_97 (by decide) (fun zc97 => ?_) (fun zc97 => ?_)
                      · refine lv_iconst (v := nI 1) hx hb dX2_leastLength_137 (by decide) ?_
                        refine lv_istore_n (lv' := [(3, .int (nI 1)), (5, .int (nI i)), (4, .int (nI j)), (0, .ref s0), (1, .int (nI x)), (2, .int (nI y))]) hx hb dX2_leastLength_138 rfl hl (by decide) rfl (fun ls hl => ?_)
                        refine lv_iinc (v := nI (i + 1)) (lv' := [(5, .int (nI (i + 1))), (3, .int (nI 1)), (4, .int (nI j)), (0, .ref s0), (1, .int (nI x)), (2, .int (nI y))]) hx hb dX2_leastLength_139 hl (k := 1) rfl (by rw [show Int32.ofInt 1 = nI 1 by decide]; exact nI_add _ _) (by decide) rfl (fun ls hl => ?_)
                        refine lv_goto (tgt := 51) hx hb dX2_leastLength_142 (by decide) ?_
                        exact ih51 true (i + 1) (sho f3 (a i) (b i) (le i)) (by rw [ef3] at zc97 ⊢; exact (psS_t zc97).symm) (by rw [ef3] at zc97; exact (psF_1 zc97).symm) (by first | assumption | omega | rfl) (by omega) _ _ (hP.sub [4, 0, 5, 1, 2, 3] rfl) (hD.sub [4, 0, 5, 1, 2, 3] (by decide) rfl) hS ls (lv_sub hl [0, 1, 2, 3, 4, 5] rfl)
                      · refine lv_aload_n hx hb dX2_leastLength_100 rfl (lv_at hl 3 rfl) ?_
                        refine lv_aload_n hx hb dX2_leastLength_101 rfl (lv_at hl 3 rfl) ?_
                        refine rk_get (ci := 2) (C := RX2) (T := TX2) (N := 9) hx hb hts iw_X2_leastLength_2 hown hK hP 4 rfl rfl 0 (by decide) fl_X2_leastLength_27 rfl (v := .ref t0) rfl dX2_leastLength_102 ?_
                        refine rk_get (ci := 3) (C := RX3) (T := TX3) (N := 6) hx hb hts iw_X2_leastLength_3 hown hK hP 0 rfl rfl 3 (by decide) fl_X2_leastLength_77 rfl (v := .ref q2) rfl dX2_leastLength_105 ?_
                        refine lv_iload hx hb dX2_leastLength_108 (lv_at hl 0 rfl) ?_
                        refine rk_iald hx hb hK hP 2 rfl (by omega) (by omega) (v := nI (b i)) (ghi i (by omega)) dX2_leastLength_110 ?_
                        refine lv_aload_n hx hb dX2_leastLength_111 rfl (lv_at hl 3 rfl) ?_
                        refine rk_get (ci := 2) (C := RX2) (T := TX2) (N := 9) hx hb hts iw_X2_leastLength_2 hown hK hP 4 rfl rfl 0 (by decide) fl_X2_leastLength_27 rfl (v := .ref t0) rfl dX2_leastLength_112 ?_
                        refine rk_get (ci := 3) (C := RX3) (T := TX3) (N := 6) hx hb hts iw_X2_leastLength_3 hown hK hP 0 rfl rfl 2 (by decide) fl_X2_leastLength_74 rfl (v := .ref q1) rfl dX2_leastLength_115 ?_
                        refine lv_iload hx hb dX2_leastLength_118 (lv_at hl 0 rfl) ?_
                        refine rk_iald hx hb hK hP 1 rfl (by omega) (by omega) (v := nI (a i)) (glo i (by omega)) dX2_leastLength_120 ?_
                        refine lv_aload_n hx hb dX2_leastLength_121 rfl (lv_at hl 3 rfl) ?_
                        refine rk_get (ci := 2) (C := RX2) (T := TX2) (N := 9) hx hb hts iw_X2_leastLength_2 hown hK hP 4 rfl rfl 0 (by decide) fl_X2_leastLength_27 rfl (v := .ref t0) rfl dX2_leastLength_122 ?_
                        refine rk_get (ci := 3) (C := RX3) (T := TX3) (N := 6) hx hb hts iw_X2_leastLength_3 hown hK hP 0 rfl rfl 4 (by decide) fl_X2_leastLength_128 rfl (v := .ref q3) rfl dX2_leastLength_125 ?_
                        refine lv_iload hx hb dX2_leastLength_128 (lv_at hl 0 rfl) ?_
                        refine rk_iald hx hb hK hP 3 rfl (by omega) (by omega) (v := le i) (rfl) dX2_leastLength_130 ?_
                        refine kV_i (E := E) (As := [.int (nI (b i)), .int (nI (a i)), .int (le i)]) (rest := []) (wr := [(t0, .inr (3, [.int sc, .int (nI k), .ref q1, .ref q2, .ref q3, .ref q4])), (q1, aI E 30 lo), (q2, aI E 30 hi), (q3, aI E 30 le)]) ⟨hx, hb, hml, hown, hts⟩ (c_X2_shorten (l := l) (E := E) (sz := _) (s0 := s0) (t0 := t0) (sP := sP) (sD := sD) (sS := sS) (sL := sL) (sF := sF) (q1 := 0) (q2 := 0) (q3 := 0) (q4 := 0) (pc := pc) (ds := ds) (pr := pr) (f := b i) (t := a i) (w := le i) (gg := sho f3 (a i) (b i) (le i)) (g1 := gb i (by omega)) (g2 := ga i (by omega))) (cwV 3 hts gX2_leastLength_X2_shorten rfl rfl rfl (by decide +kernel) ⟨by rw [hR]; decide, by rw [hR]; decide⟩) hK hN hP hD hS hA [4, 5] [0, 1, 2, 3] rfl (by decide) rfl (by decide) (by decide) 4 2 rfl rfl rfl hl.1 rfl (Nat.le_of_ble_eq_true rfl) dX2_leastLength_131 ⟨Nat.zero_le _, Nat.zero_le _⟩ (fun H locs hP hD hS => ?_)
                        have hP : va_P E.1 vwCl [(t0, .inr (3, [.int sc, .int (nI k), .ref q1, .ref q2, .ref q3, .ref q4])), (q1, aI E 30 lo), (q2, aI E 30 hi), (q3, aI E 30 le), (s0, .inr (2, [.ref t0, .ref sP, .ref sD, .ref sS, .ref sL, .ref sF, .int pc, .int ds, .int pr])), (sF, aI E 16 (sho (sho f3 (a i) (b i) (le i)) (b i) (a i) (le i)))] H := hP
                        have hD : va_D A [(t0, .inr (3, [.int sc, .int (nI k), .ref q1, .ref q2, .ref q3, .ref q4])), (q1, aI E 30 lo), (q2, aI E 30 hi), (q3, aI E 30 le), (s0, .inr (2, [.ref t0, .ref sP, .ref sD, .ref sS, .ref sL, .ref sF, .int pc, .int ds, .int pr])), (sF, aI E 16 (sho (sho f3 (a i) (b i) (le i)) (b i) (a i) (le i)))] := hD
                        refine rk_if_eqB (tgt := 139) hx hb dX2_leastLength_134 (by decide) (fun zc134 => ?_) (fun zc134 => ?_)
                        · refine lv_iinc (v := nI (i + 1)) (lv' := [(5, .int (nI (i + 1))), (3, .int (b2i fm)), (4, .int (nI j)), (0, .ref s0), (1, .int (nI x)), (2, .int (nI y))]) hx hb dX2_leastLength_139 hl (k := 0) rfl (by rw [show Int32.ofInt 1 = nI 1 by decide]; exact nI_add _ _) (by decide) rfl (fun ls hl => ?_)
                          refine lv_goto (tgt := 51) hx hb dX2_leastLength_142 (by decide) ?_
                          exact ih51 fm (i + 1) (sho (sho f3 (a i) (b i) (le i)) (b i) (a i) (le i)) (by rw [ef3] at zc97 ⊢; exact (psS_f zc97).symm) (by rw [ef3] at zc97 zc134; rw [efm]; exact (psF_3 zc97 zc134).symm) (by first | assumption | omega | rfl) (by omega) _ _ (hP.sub [4, 0, 5, 1, 2, 3] rfl) (hD.sub [4, 0, 5, 1, 2, 3] (by decide) rfl) hS ls (lv_sub hl [0, 1, 2, 3, 4, 5] rfl)
                        · refine lv_iconst (v := nI 1) hx hb dX2_leastLength_137 (by decide) ?_
                          refine lv_istore_n (lv' := [(3, .int (nI 1)), (5, .int (nI i)), (4, .int (nI j)), (0, .ref s0), (1, .int (nI x)), (2, .int (nI y))]) hx hb dX2_leastLength_138 rfl hl (by decide) rfl (fun ls hl => ?_)
                          refine lv_iinc (v := nI (i + 1)) (lv' := [(5, .int (nI (i + 1))), (3, .int (nI 1)), (4, .int (nI j)), (0, .ref s0), (1, .int (nI x)), (2, .int (nI y))]) hx hb dX2_leastLength_139 hl (k := 1) rfl (by rw [show Int32.ofInt 1 = nI 1 by decide]; exact nI_add _ _) (by decide) rfl (fun ls hl => ?_)
                          refine lv_goto (tgt := 51) hx hb dX2_leastLength_142 (by decide) ?_
                          exact ih51 true (i + 1) (sho (sho f3 (a i) (b i) (le i)) (b i) (a i) (le i)) (by rw [ef3] at zc97 ⊢; exact (psS_f zc97).symm) (by rw [ef3] at zc134; exact (psF_2 zc134).symm) (by first | assumption | omega | rfl) (by omega) _ _ (hP.sub [4, 0, 5, 1, 2, 3] rfl) (hD.sub [4, 0, 5, 1, 2, 3] (by decide) rfl) hS ls (lv_sub hl [0, 1, 2, 3, 4, 5] rfl)
                exact L51 ((k - 0) + 1) false 0 f2 (rfl) (rfl) (by first | assumption | omega | rfl) (Nat.lt_succ_self _) _ _ (hP.sub [0, 1, 2, 3, 4, 5] rfl) (hD.sub [0, 1, 2, 3, 4, 5] (by decide) rfl) hS ls (lv_sub hl [0, 1, 2, 3, 4, 5] rfl)
        exact L35 ((16 - 0) + 1) true 0 (upd ((dLf di 16)) x (nI 0)) (rfl) (rfl) (by first | assumption | omega | rfl) (Nat.lt_succ_self _) _ _ (hP.sub [0, 1, 2, 3, 4, 5] rfl) (hD.sub [0, 1, 2, 3, 4, 5] (by decide) rfl) hS ls (lv_sub hl [0, 1, 2, 3, 4] rfl)
      · refine lv_aload_n hx hb dX2_leastLength_8 rfl (lv_at hl 1 rfl) ?_
        refine rk_get (ci := 2) (C := RX2) (T := TX2) (N := 9) hx hb hts iw_X2_leastLength_2 hown hK hP 0 rfl rfl 5 (by decide) fl_X2_leastLength_24 rfl (v := .ref sF) rfl dX2_leastLength_9 ?_
        refine lv_iload_n hx hb dX2_leastLength_12 rfl (lv_at hl 0 rfl) ?_
        refine lv_sipush (v := nI 1584) hx hb dX2_leastLength_13 (by decide) ?_
        refine rk_iast hx hb hK hP hD hS 2 rfl (by omega) (by omega) (ws' := [(s0, .inr (2, [.ref t0, .ref sP, .ref sD, .ref sS, .ref sL, .ref sF, .int pc, .int ds, .int pr])), (t0, .inr (3, [.int sc, .int (nI k), .ref q1, .ref q2, .ref q3, .ref q4])), (sF, aI E 16 (upd f i (nI 1584))), (q1, aI E 30 lo), (q2, aI E 30 hi), (q3, aI E 30 le)]) rfl dX2_leastLength_16 (fun H locs hP hD hS => ?_)
        refine lv_iinc (v := nI (i + 1)) (lv' := [(3, .int (nI (i + 1))), (0, .ref s0), (1, .int (nI x)), (2, .int (nI y))]) hx hb dX2_leastLength_17 hl (k := 0) rfl (by rw [show Int32.ofInt 1 = nI 1 by decide]; exact nI_add _ _) (by decide) rfl (fun ls hl => ?_)
        refine lv_goto (tgt := 2) hx hb dX2_leastLength_20 (by decide) ?_
        exact ih2 (i + 1) (upd f i (nI 1584)) (by rw [ef]; exact dLf_1 di i) (by first | assumption | omega | rfl) (by omega) _ _ (hP.sub [0, 1, 2, 3, 4, 5] rfl) (hD.sub [0, 1, 2, 3, 4, 5] (by decide) rfl) hS ls (lv_sub hl [0, 1, 2, 3] rfl)
  exact L2 ((16 - 0) + 1) 0 di (by exact (dLf_0 di).symm) (by first | assumption | omega | rfl) (Nat.lt_succ_self _) _ _ (hP.sub [0, 1, 2, 3, 4, 5] rfl) (hD.sub [0, 1, 2, 3, 4, 5] (by decide) rfl) hS ls (lv_sub hl [0, 1, 2, 3] rfl)
