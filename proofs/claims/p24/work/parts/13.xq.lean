theorem iw_X4_road_4 : ∀ w ∈ u_ws RX4 TX4 6, w ∈ wsX4_road := by decide +kernel
theorem fl_X4_road_10 : Cond.fieldLink RX4 10 (TX4 0).1 (TX4 0).2.1 (TX4 0).2.2.1 ∈ wsX4_road := by decide +kernel
set_option maxHeartbeats 400000 in
set_option maxRecDepth 100000 in
theorem c_X4_road_bad (l : Launch) (E : EE) (sz : Nat) (x0 t0 s0 p0 g0 xS xV sP sD sS sL sF q1 q2 q3 q4 : Nat) (n k : Nat) (r w : Int32) (gb : inR r (nI k) = false) : Ci l yX4_road wsX4_road 1 21 E [.ref x0, .int r, .int w] [(x0, .inr (4, [.ref t0, .ref s0, .ref p0, .ref g0, .ref xS, .ref xV])), (t0, .inr (3, [.int (nI n), .int (nI k), .ref q1, .ref q2, .ref q3, .ref q4]))] sz (-1) [(x0, .inr (4, [.ref t0, .ref s0, .ref p0, .ref g0, .ref xS, .ref xV])), (t0, .inr (3, [.int (nI n), .int (nI k), .ref q1, .ref q2, .ref q3, .ref q4]))] := by
  refine C_of (QQ := QI E (-1) [(x0, .inr (4, [.ref t0, .ref s0, .ref p0, .ref g0, .ref xS, .ref xV])), (t0, .inr (3, [.int (nI n), .int (nI k), .ref q1, .ref q2, .ref q3, .ref q4]))]) (cc := cX4_road) (maxL := 3) (ret := (some .int)) (by decide +kernel) rfl (Nat.le_of_ble_eq_true rfl) ?_
  intro p e s m args below meth c A R Q ls hx hb hr hts hown hml hlocks hA hK hN hP hD hS hl hR hQ
  have hown : s.vm.findClass RX4 = some m.cls := hown
  have hl : lv_has ls 3 [(0, .ref x0), (1, .int r), (2, .int w)] := hl
  refine lv_aload_n hx hb dX4_road_0 rfl (lv_at hl 0 rfl) ?_
  refine rk_get (ci := 4) (C := RX4) (T := TX4) (N := 6) hx hb hts iw_X4_road_4 hown hK hP 0 rfl rfl 0 (by decide) fl_X4_road_10 rfl (v := .ref t0) rfl dX4_road_1 ?_
  refine lv_iload_n hx hb dX4_road_4 rfl (lv_at hl 1 rfl) ?_
  refine kV_i (E := E) (As := [.int r]) (rest := []) (wr := [(x0, .inr (4, [.ref t0, .ref s0, .ref p0, .ref g0, .ref xS, .ref xV]))]) ⟨hx, hb, hml, hown, hts⟩ (c_X3_hasRoad (l := l) (E := E) (sz := _) (h0 := t0) (sc := nI n) (f1 := nI k) (q1 := q1) (q2 := q2) (q3 := q3) (q4 := q4) (x := r) ) (cwV 1 hts gX4_road_X3_hasRoad rfl rfl rfl (by decide +kernel) ⟨by rw [hR]; decide, by rw [hR]; decide⟩) hK hN hP hD hS hA [1] [0] rfl (by decide) rfl (by decide) (by decide) 1 3 rfl rfl rfl hl.1 rfl (Nat.le_of_ble_eq_true rfl) dX4_road_5 ⟨Nat.zero_le _, Nat.zero_le _⟩ (fun H locs hP hD hS => ?_)
  have hP : va_P E.1 vwCl [(x0, .inr (4, [.ref t0, .ref s0, .ref p0, .ref g0, .ref xS, .ref xV])), (t0, .inr (3, [.int (nI n), .int (nI k), .ref q1, .ref q2, .ref q3, .ref q4]))] H := hP
  have hD : va_D A [(x0, .inr (4, [.ref t0, .ref s0, .ref p0, .ref g0, .ref xS, .ref xV])), (t0, .inr (3, [.int (nI n), .int (nI k), .ref q1, .ref q2, .ref q3, .ref q4]))] := hD
  refine rk_if_neB (tgt := 13) hx hb dX4_road_8 (by decide) (fun q => absurd q (by rw [gb]; decide)) (fun zc8 => ?_)
  refine lv_iconst (v := (-1)) hx hb dX4_road_11 (by decide) ?_
  exact ret_i hQ hx hb hr hlocks (hP.sub [0, 1] rfl) (hD.sub [0, 1] (by decide) rfl) hS dX4_road_12 (rfl)
theorem iw_X4_road_3 : ∀ w ∈ u_ws RX3 TX3 6, w ∈ wsX4_road := by decide +kernel
theorem fl_X4_road_104 : Cond.fieldLink RX4 104 (TX3 2).1 (TX3 2).2.1 (TX3 2).2.2.1 ∈ wsX4_road := by decide +kernel
theorem fl_X4_road_108 : Cond.fieldLink RX4 108 (TX3 3).1 (TX3 3).2.1 (TX3 3).2.2.1 ∈ wsX4_road := by decide +kernel
theorem fl_X4_road_111 : Cond.fieldLink RX4 111 (TX3 4).1 (TX3 4).2.1 (TX3 4).2.2.1 ∈ wsX4_road := by decide +kernel
theorem fl_X4_road_21 : Cond.fieldLink RX4 21 (TX4 1).1 (TX4 1).2.1 (TX4 1).2.2.1 ∈ wsX4_road := by decide +kernel
theorem iw_X4_road_2 : ∀ w ∈ u_ws RX2 TX2 9, w ∈ wsX4_road := by decide +kernel
theorem fl_X4_road_114 : Cond.fieldLink RX4 114 (TX2 8).1 (TX2 8).2.1 (TX2 8).2.2.1 ∈ wsX4_road := by decide +kernel
set_option maxHeartbeats 400000 in
set_option maxRecDepth 100000 in
theorem c_X4_road_ok (l : Launch) (E : EE) (sz : Nat) (x0 t0 s0 p0 g0 xS xV sP sD sS sL sF q1 q2 q3 q4 : Nat) (n k : Nat) (pc ds pr : Int32) (r : Nat) (w : Int32) (lo hi le en po lS : Nat → Int32) (gn : n ≤ 16) (gk : k ≤ 30) (gr : r < k) (gl : okL lo k) : Ci l yX4_road wsX4_road 3 69 E [.ref x0, .int (nI r), .int w] [(x0, .inr (4, [.ref t0, .ref s0, .ref p0, .ref g0, .ref xS, .ref xV])), (t0, .inr (3, [.int (nI n), .int (nI k), .ref q1, .ref q2, .ref q3, .ref q4])), (s0, .inr (2, [.ref t0, .ref sP, .ref sD, .ref sS, .ref sL, .ref sF, .int pc, .int ds, .int pr])), (q1, aI E 30 lo), (q2, aI E 30 hi), (q3, aI E 30 le), (q4, aI E 30 en), (sP, aI E 16 po), (sL, aI E 30 lS)] sz (swl w [lo r, hi r, le r, b2i (cnt pr (nI r)), fst6 (lrP en (aRx k r) k (nI 1 <<< (nI (clp lo r) &&& 31)) (hi r)) 2 15, ppR po lS (clp lo) r] 0) [(x0, .inr (4, [.ref t0, .ref s0, .ref p0, .ref g0, .ref xS, .ref xV])), (t0, .inr (3, [.int (nI n), .int (nI k), .ref q1, .ref q2, .ref q3, .ref q4])), (s0, .inr (2, [.ref t0, .ref sP, .ref sD, .ref sS, .ref sL, .ref sF, .int pc, .int ds, .int pr])), (q1, aI E 30 lo), (q2, aI E 30 hi), (q3, aI E 30 le), (q4, aI E 30 en), (sP, aI E 16 po), (sL, aI E 30 lS)] := by
  refine C_of (QQ := QI E (swl w [lo r, hi r, le r, b2i (cnt pr (nI r)), fst6 (lrP en (aRx k r) k (nI 1 <<< (nI (clp lo r) &&& 31)) (hi r)) 2 15, ppR po lS (clp lo) r] 0) [(x0, .inr (4, [.ref t0, .ref s0, .ref p0, .ref g0, .ref xS, .ref xV])), (t0, .inr (3, [.int (nI n), .int (nI k), .ref q1, .ref q2, .ref q3, .ref q4])), (s0, .inr (2, [.ref t0, .ref sP, .ref sD, .ref sS, .ref sL, .ref sF, .int pc, .int ds, .int pr])), (q1, aI E 30 lo), (q2, aI E 30 hi), (q3, aI E 30 le), (q4, aI E 30 en), (sP, aI E 16 po), (sL, aI E 30 lS)]) (cc := cX4_road) (maxL := 3) (ret := (some .int)) (by decide +kernel) rfl (Nat.le_of_ble_eq_true rfl) ?_
  intro p e s m args below meth c A R Q ls hx hb hr hts hown hml hlocks hA hK hN hP hD hS hl hR hQ
  have hown : s.vm.findClass RX4 = some m.cls := hown
  have hl : lv_has ls 3 [(0, .ref x0), (1, .int (nI r)), (2, .int w)] := hl
  refine lv_aload_n hx hb dX4_road_0 rfl (lv_at hl 0 rfl) ?_
  refine rk_get (ci := 4) (C := RX4) (T := TX4) (N := 6) hx hb hts iw_X4_road_4 hown hK hP 0 rfl rfl 0 (by decide) fl_X4_road_10 rfl (v := .ref t0) rfl dX4_road_1 ?_
  refine lv_iload_n hx hb dX4_road_4 rfl (lv_at hl 1 rfl) ?_
  refine kV_i (E := E) (As := [.int (nI r)]) (rest := []) (wr := [(x0, .inr (4, [.ref t0, .ref s0, .ref p0, .ref g0, .ref xS, .ref xV])), (s0, .inr (2, [.ref t0, .ref sP, .ref sD, .ref sS, .ref sL, .ref sF, .int pc, .int ds, .int pr])), (q1, aI E 30 lo), (q2, aI E 30 hi), (q3, aI E 30 le), (q4, aI E 30 en), (sP, aI E 16 po), (sL, aI E 30 lS)]) ⟨hx, hb, hml, hown, hts⟩ (c_X3_hasRoad (l := l) (E := E) (sz := _) (h0 := t0) (sc := nI n) (f1 := nI k) (q1 := q1) (q2 := q2) (q3 := q3) (q4 := q4) (x := nI r) ) (cwV 1 hts gX4_road_X3_hasRoad rfl rfl rfl (by decide +kernel) ⟨by rw [hR]; decide, by rw [hR]; decide⟩) hK hN hP hD hS hA [1] [0, 2, 3, 4, 5, 6, 7, 8] rfl (by decide) rfl (by decide) (by decide) 1 3 rfl rfl rfl hl.1 rfl (Nat.le_of_ble_eq_true rfl) dX4_road_5 ⟨Nat.zero_le _, Nat.zero_le _⟩ (fun H locs hP hD hS => ?_)
  have hP : va_P E.1 vwCl [(x0, .inr (4, [.ref t0, .ref s0, .ref p0, .ref g0, .ref xS, .ref xV])), (s0, .inr (2, [.ref t0, .ref sP, .ref sD, .ref sS, .ref sL, .ref sF, .int pc, .int ds, .int pr])), (q1, aI E 30 lo), (q2, aI E 30 hi), (q3, aI E 30 le), (q4, aI E 30 en), (sP, aI E 16 po), (sL, aI E 30 lS), (t0, .inr (3, [.int (nI n), .int (nI k), .ref q1, .ref q2, .ref q3, .ref q4]))] H := hP
  have hD : va_D A [(x0, .inr (4, [.ref t0, .ref s0, .ref p0, .ref g0, .ref xS, .ref xV])), (s0, .inr (2, [.ref t0, .ref sP, .ref sD, .ref sS, .ref sL, .ref sF, .int pc, .int ds, .int pr])), (q1, aI E 30 lo), (q2, aI E 30 hi), (q3, aI E 30 le), (q4, aI E 30 en), (sP, aI E 16 po), (sL, aI E 30 lS), (t0, .inr (3, [.int (nI n), .int (nI k), .ref q1, .ref q2, .ref q3, .ref q4]))] := hD
  refine rk_if_neB (tgt := 13) hx hb dX4_road_8 (by decide) (fun zc8 => ?_) (fun q => absurd q (by rw [inR_ok gr (by omega)]; decide))
  refine lv_iload_n hx hb dX4_road_13 rfl (lv_at hl 2 rfl) ?_
  by_cases w14_0 : w = nI 0
  · subst w14_0
    refine lv_tableIn (tgt := 52) hx hb dX4_road_14 (by decide) (by decide) rfl (by decide) ?_
    refine lv_aload_n hx hb dX4_road_52 rfl (lv_at hl 0 rfl) ?_
    refine rk_get (ci := 4) (C := RX4) (T := TX4) (N := 6) hx hb hts iw_X4_road_4 hown hK hP 0 rfl rfl 0 (by decide) fl_X4_road_10 rfl (v := .ref t0) rfl dX4_road_53 ?_
    refine rk_get (ci := 3) (C := RX3) (T := TX3) (N := 6) hx hb hts iw_X4_road_3 hown hK hP 8 rfl rfl 2 (by decide) fl_X4_road_104 rfl (v := .ref q1) rfl dX4_road_56 ?_
    refine lv_iload_n hx hb dX4_road_59 rfl (lv_at hl 1 rfl) ?_
    refine rk_iald hx hb hK hP 2 rfl (by omega) (by omega) (v := lo r) (rfl) dX4_road_60 ?_
    exact ret_i hQ hx hb hr hlocks (hP.sub [0, 8, 1, 2, 3, 4, 5, 6, 7] rfl) (hD.sub [0, 8, 1, 2, 3, 4, 5, 6, 7] (by decide) rfl) hS dX4_road_61 (by rw [swl_0 (by decide)])
  by_cases w14_1 : w = nI 1
  · subst w14_1
    refine lv_tableIn (tgt := 62) hx hb dX4_road_14 (by decide) (by decide) rfl (by decide) ?_
    refine lv_aload_n hx hb dX4_road_62 rfl (lv_at hl 0 rfl) ?_
    refine rk_get (ci := 4) (C := RX4) (T := TX4) (N := 6) hx hb hts iw_X4_road_4 hown hK hP 0 rfl rfl 0 (by decide) fl_X4_road_10 rfl (v := .ref t0) rfl dX4_road_63 ?_
    refine rk_get (ci := 3) (C := RX3) (T := TX3) (N := 6) hx hb hts iw_X4_road_3 hown hK hP 8 rfl rfl 3 (by decide) fl_X4_road_108 rfl (v := .ref q2) rfl dX4_road_66 ?_
    refine lv_iload_n hx hb dX4_road_69 rfl (lv_at hl 1 rfl) ?_
    refine rk_iald hx hb hK hP 3 rfl (by omega) (by omega) (v := hi r) (rfl) dX4_road_70 ?_
    exact ret_i hQ hx hb hr hlocks (hP.sub [0, 8, 1, 2, 3, 4, 5, 6, 7] rfl) (hD.sub [0, 8, 1, 2, 3, 4, 5, 6, 7] (by decide) rfl) hS dX4_road_71 (by rw [swl_s (by decide), swl_0 (by decide)])
  by_cases w14_2 : w = nI 2
  · subst w14_2
    refine lv_tableIn (tgt := 72) hx hb dX4_road_14 (by decide) (by decide) rfl (by decide) ?_
    refine lv_aload_n hx hb dX4_road_72 rfl (lv_at hl 0 rfl) ?_
    refine rk_get (ci := 4) (C := RX4) (T := TX4) (N := 6) hx hb hts iw_X4_road_4 hown hK hP 0 rfl rfl 0 (by decide) fl_X4_road_10 rfl (v := .ref t0) rfl dX4_road_73 ?_
    refine rk_get (ci := 3) (C := RX3) (T := TX3) (N := 6) hx hb hts iw_X4_road_3 hown hK hP 8 rfl rfl 4 (by decide) fl_X4_road_111 rfl (v := .ref q3) rfl dX4_road_76 ?_
    refine lv_iload_n hx hb dX4_road_79 rfl (lv_at hl 1 rfl) ?_
    refine rk_iald hx hb hK hP 4 rfl (by omega) (by omega) (v := le r) (rfl) dX4_road_80 ?_
    exact ret_i hQ hx hb hr hlocks (hP.sub [0, 8, 1, 2, 3, 4, 5, 6, 7] rfl) (hD.sub [0, 8, 1, 2, 3, 4, 5, 6, 7] (by decide) rfl) hS dX4_road_81 (by rw [swl_s (by decide), swl_s (by decide), swl_0 (by decide)])
  by_cases w14_3 : w = nI 3
  · subst w14_3
    refine lv_tableIn (tgt := 82) hx hb dX4_road_14 (by decide) (by decide) rfl (by decide) ?_
    refine lv_aload_n hx hb dX4_road_82 rfl (lv_at hl 0 rfl) ?_
    refine rk_get (ci := 4) (C := RX4) (T := TX4) (N := 6) hx hb hts iw_X4_road_4 hown hK hP 0 rfl rfl 1 (by decide) fl_X4_road_21 rfl (v := .ref s0) rfl dX4_road_83 ?_
    refine rk_get (ci := 2) (C := RX2) (T := TX2) (N := 9) hx hb hts iw_X4_road_2 hown hK hP 1 rfl rfl 8 (by decide) fl_X4_road_114 rfl (v := .int pr) rfl dX4_road_86 ?_
    refine lv_iload_n hx hb dX4_road_89 rfl (lv_at hl 1 rfl) ?_
    refine kS_i (E := E) (As := [.int pr, .int (nI r)]) (rest := []) (wr := [(x0, .inr (4, [.ref t0, .ref s0, .ref p0, .ref g0, .ref xS, .ref xV])), (s0, .inr (2, [.ref t0, .ref sP, .ref sD, .ref sS, .ref sL, .ref sF, .int pc, .int ds, .int pr])), (q1, aI E 30 lo), (q2, aI E 30 hi), (q3, aI E 30 le), (q4, aI E 30 en), (sP, aI E 16 po), (sL, aI E 30 lS), (t0, .inr (3, [.int (nI n), .int (nI k), .ref q1, .ref q2, .ref q3, .ref q4]))]) ⟨hx, hb, hml, hown, hts⟩ (c_X4_contains (l := l) (E := E) (sz := _) (x := pr) (y := nI r) ) (cwS 2 hts gX4_road_X4_contains rfl rfl rfl (by decide +kernel) ⟨by rw [hR]; decide, by rw [hR]; decide⟩) hK hN hP hD hS hA [] [0, 1, 2, 3, 4, 5, 6, 7, 8] rfl (by decide) rfl (by decide) (by decide) rfl hl.1 rfl (Nat.le_of_ble_eq_true rfl) dX4_road_90 ⟨Nat.zero_le _, Nat.zero_le _⟩ (fun H locs hP hD hS => ?_)
    have hP : va_P E.1 vwCl [(x0, .inr (4, [.ref t0, .ref s0, .ref p0, .ref g0, .ref xS, .ref xV])), (s0, .inr (2, [.ref t0, .ref sP, .ref sD, .ref sS, .ref sL, .ref sF, .int pc, .int ds, .int pr])), (q1, aI E 30 lo), (q2, aI E 30 hi), (q3, aI E 30 le), (q4, aI E 30 en), (sP, aI E 16 po), (sL, aI E 30 lS), (t0, .inr (3, [.int (nI n), .int (nI k), .ref q1, .ref q2, .ref q3, .ref q4]))] H := hP
    have hD : va_D A [(x0, .inr (4, [.ref t0, .ref s0, .ref p0, .ref g0, .ref xS, .ref xV])), (s0, .inr (2, [.ref t0, .ref sP, .ref sD, .ref sS, .ref sL, .ref sF, .int pc, .int ds, .int pr])), (q1, aI E 30 lo), (q2, aI E 30 hi), (q3, aI E 30 le), (q4, aI E 30 en), (sP, aI E 16 po), (sL, aI E 30 lS), (t0, .inr (3, [.int (nI n), .int (nI k), .ref q1, .ref q2, .ref q3, .ref q4]))] := hD
    refine rk_if_eqB (tgt := 100) hx hb dX4_road_93 (by decide) (fun zc93 => ?_) (fun zc93 => ?_)
    · refine lv_iconst (v := nI 0) hx hb dX4_road_100 (by decide) ?_
      exact ret_i hQ hx hb hr hlocks (hP.sub [0, 8, 1, 2, 3, 4, 5, 6, 7] rfl) (hD.sub [0, 8, 1, 2, 3, 4, 5, 6, 7] (by decide) rfl) hS dX4_road_101 (by rw [swl_s (by decide), swl_s (by decide), swl_s (by decide), swl_0 (by decide)]; exact b2i_f zc93)
    · refine lv_iconst (v := nI 1) hx hb dX4_road_96 (by decide) ?_
      refine lv_goto (tgt := 101) hx hb dX4_road_97 (by decide) ?_
      exact ret_i hQ hx hb hr hlocks (hP.sub [0, 8, 1, 2, 3, 4, 5, 6, 7] rfl) (hD.sub [0, 8, 1, 2, 3, 4, 5, 6, 7] (by decide) rfl) hS dX4_road_101 (by rw [swl_s (by decide), swl_s (by decide), swl_s (by decide), swl_0 (by decide)]; exact b2i_t zc93)
  by_cases w14_4 : w = nI 4
  · subst w14_4
    refine lv_tableIn (tgt := 102) hx hb dX4_road_14 (by decide) (by decide) rfl (by decide) ?_
    refine lv_aload_n hx hb dX4_road_102 rfl (lv_at hl 0 rfl) ?_
    refine rk_get (ci := 4) (C := RX4) (T := TX4) (N := 6) hx hb hts iw_X4_road_4 hown hK hP 0 rfl rfl 1 (by decide) fl_X4_road_21 rfl (v := .ref s0) rfl dX4_road_103 ?_
    refine lv_iload_n hx hb dX4_road_106 rfl (lv_at hl 1 rfl) ?_
    refine kV_i (E := E) (As := [.int (nI r)]) (rest := []) (wr := [(x0, .inr (4, [.ref t0, .ref s0, .ref p0, .ref g0, .ref xS, .ref xV])), (q3, aI E 30 le), (sP, aI E 16 po), (sL, aI E 30 lS)]) ⟨hx, hb, hml, hown, hts⟩ (c_X2_leastRing (l := l) (E := E) (sz := _) (s0 := s0) (t0 := t0) (sP := sP) (sD := sD) (sS := sS) (sL := sL) (sF := sF) (q1 := q1) (q2 := q2) (q3 := q3) (q4 := q4) (sc := nI n) (k := k) (pc := pc) (ds := ds) (pr := pr) (r := r) (lo := lo) (hi := hi) (en := en) (a := clp lo) (gr := by first | assumption | omega) (gk := by first | assumption | omega) (glo := fun r h => (gl r h).1)) (cwV 1 hts gX4_road_X2_leastRing rfl rfl rfl (by decide +kernel) ⟨by rw [hR]; decide, by rw [hR]; decide⟩) hK hN hP hD hS hA [1, 8, 2, 3, 5] [0, 4, 6, 7] rfl (by decide) rfl (by decide) (by decide) 1 2 rfl rfl rfl hl.1 rfl (Nat.le_of_ble_eq_true rfl) dX4_road_107 ⟨Nat.zero_le _, Nat.zero_le _⟩ (fun H locs hP hD hS => ?_)
    have hP : va_P E.1 vwCl [(x0, .inr (4, [.ref t0, .ref s0, .ref p0, .ref g0, .ref xS, .ref xV])), (q3, aI E 30 le), (sP, aI E 16 po), (sL, aI E 30 lS), (s0, .inr (2, [.ref t0, .ref sP, .ref sD, .ref sS, .ref sL, .ref sF, .int pc, .int ds, .int pr])), (t0, .inr (3, [.int (nI n), .int (nI k), .ref q1, .ref q2, .ref q3, .ref q4])), (q1, aI E 30 lo), (q2, aI E 30 hi), (q4, aI E 30 en)] H := hP
    have hD : va_D A [(x0, .inr (4, [.ref t0, .ref s0, .ref p0, .ref g0, .ref xS, .ref xV])), (q3, aI E 30 le), (sP, aI E 16 po), (sL, aI E 30 lS), (s0, .inr (2, [.ref t0, .ref sP, .ref sD, .ref sS, .ref sL, .ref sF, .int pc, .int ds, .int pr])), (t0, .inr (3, [.int (nI n), .int (nI k), .ref q1, .ref q2, .ref q3, .ref q4])), (q1, aI E 30 lo), (q2, aI E 30 hi), (q4, aI E 30 en)] := hD
    exact ret_i hQ hx hb hr hlocks (hP.sub [0, 5, 4, 6, 7, 1, 8, 2, 3] rfl) (hD.sub [0, 5, 4, 6, 7, 1, 8, 2, 3] (by decide) rfl) hS dX4_road_110 (by rw [swl_s (by decide), swl_s (by decide), swl_s (by decide), swl_s (by decide), swl_0 (by decide)])
  by_cases w14_5 : w = nI 5
  · subst w14_5
    refine lv_tableIn (tgt := 111) hx hb dX4_road_14 (by decide) (by decide) rfl (by decide) ?_
    refine lv_aload_n hx hb dX4_road_111 rfl (lv_at hl 0 rfl) ?_
    refine rk_get (ci := 4) (C := RX4) (T := TX4) (N := 6) hx hb hts iw_X4_road_4 hown hK hP 0 rfl rfl 1 (by decide) fl_X4_road_21 rfl (v := .ref s0) rfl dX4_road_112 ?_
    refine lv_iload_n hx hb dX4_road_115 rfl (lv_at hl 1 rfl) ?_
    refine kV_i (E := E) (As := [.int (nI r)]) (rest := []) (wr := [(x0, .inr (4, [.ref t0, .ref s0, .ref p0, .ref g0, .ref xS, .ref xV])), (q2, aI E 30 hi), (q3, aI E 30 le), (q4, aI E 30 en)]) ⟨hx, hb, hml, hown, hts⟩ (c_X2_pairsParted (l := l) (E := E) (sz := _) (s0 := s0) (t0 := t0) (sP := sP) (sD := sD) (sS := sS) (sL := sL) (sF := sF) (q1 := q1) (q2 := q2) (q3 := q3) (q4 := q4) (sc := nI n) (k := k) (pc := pc) (ds := ds) (pr := pr) (r := r) (po := po) (lS := lS) (lo := lo) (a := clp lo) (gr := by first | assumption | omega) (gk := by first | assumption | omega) (glo := fun r h => (gl r h).1) (ga := fun r h => (gl r h).2)) (cwV 1 hts gX4_road_X2_pairsParted rfl rfl rfl (by decide +kernel) ⟨by rw [hR]; decide, by rw [hR]; decide⟩) hK hN hP hD hS hA [1, 8, 6, 7, 2] [0, 3, 4, 5] rfl (by decide) rfl (by decide) (by decide) 1 2 rfl rfl rfl hl.1 rfl (Nat.le_of_ble_eq_true rfl) dX4_road_116 ⟨Nat.zero_le _, Nat.zero_le _⟩ (fun H locs hP hD hS => ?_)
    have hP : va_P E.1 vwCl [(x0, .inr (4, [.ref t0, .ref s0, .ref p0, .ref g0, .ref xS, .ref xV])), (q2, aI E 30 hi), (q3, aI E 30 le), (q4, aI E 30 en), (s0, .inr (2, [.ref t0, .ref sP, .ref sD, .ref sS, .ref sL, .ref sF, .int pc, .int ds, .int pr])), (t0, .inr (3, [.int (nI n), .int (nI k), .ref q1, .ref q2, .ref q3, .ref q4])), (sP, aI E 16 po), (sL, aI E 30 lS), (q1, aI E 30 lo)] H := hP
    have hD : va_D A [(x0, .inr (4, [.ref t0, .ref s0, .ref p0, .ref g0, .ref xS, .ref xV])), (q2, aI E 30 hi), (q3, aI E 30 le), (q4, aI E 30 en), (s0, .inr (2, [.ref t0, .ref sP, .ref sD, .ref sS, .ref sL, .ref sF, .int pc, .int ds, .int pr])), (t0, .inr (3, [.int (nI n), .int (nI k), .ref q1, .ref q2, .ref q3, .ref q4])), (sP, aI E 16 po), (sL, aI E 30 lS), (q1, aI E 30 lo)] := hD
    refine rk_ev (show _ = ppR po lS (clp lo) r from rfl) ?_
    exact ret_i hQ hx hb hr hlocks (hP.sub [0, 5, 4, 8, 1, 2, 3, 6, 7] rfl) (hD.sub [0, 5, 4, 8, 1, 2, 3, 6, 7] (by decide) rfl) hS dX4_road_119 (by rw [swl_s (by decide), swl_s (by decide), swl_s (by decide), swl_s (by decide), swl_s (by decide), swl_0 (by decide)])
  refine lv_tableOut (tgt := 120) hx hb dX4_road_14 (tsw_out (N := 5) (by decide) (fun j hj => by rcases (show j = 0 ∨ j = 1 ∨ j = 2 ∨ j = 3 ∨ j = 4 ∨ j = 5 by omega) with rfl | rfl | rfl | rfl | rfl | rfl <;> assumption)) (by decide) ?_
  refine lv_bipush (v := (-2)) hx hb dX4_road_120 (by decide) ?_
  exact ret_i hQ hx hb hr hlocks (hP.sub [0, 8, 1, 2, 3, 4, 5, 6, 7] rfl) (hD.sub [0, 8, 1, 2, 3, 4, 5, 6, 7] (by decide) rfl) hS dX4_road_122 (by simp only [swl]; rw [if_neg w14_0, if_neg w14_1, if_neg w14_2, if_neg w14_3, if_neg w14_4, if_neg w14_5])
theorem iw_X4_square_4 : ∀ w ∈ u_ws RX4 TX4 6, w ∈ wsX4_square := by decide +kernel
theorem fl_X4_square_10 : Cond.fieldLink RX4 10 (TX4 0).1 (TX4 0).2.1 (TX4 0).2.2.1 ∈ wsX4_square := by decide +kernel
set_option maxHeartbeats 400000 in
set_option maxRecDepth 100000 in
theorem c_X4_square_bad (l : Launch) (E : EE) (sz : Nat) (x0 t0 s0 p0 g0 xS xV sP sD sS sL sF q1 q2 q3 q4 : Nat) (n k : Nat) (r w : Int32) (gb : inR r (nI n) = false) : Ci l yX4_square wsX4_square 1 21 E [.ref x0, .int r, .int w] [(x0, .inr (4, [.ref t0, .ref s0, .ref p0, .ref g0, .ref xS, .ref xV])), (t0, .inr (3, [.int (nI n), .int (nI k), .ref q1, .ref q2, .ref q3, .ref q4]))] sz (-1) [(x0, .inr (4, [.ref t0, .ref s0, .ref p0, .ref g0, .ref xS, .ref xV])), (t0, .inr (3, [.int (nI n), .int (nI k), .ref q1, .ref q2, .ref q3, .ref q4]))] := by
  refine C_of (QQ := QI E (-1) [(x0, .inr (4, [.ref t0, .ref s0, .ref p0, .ref g0, .ref xS, .ref xV])), (t0, .inr (3, [.int (nI n), .int (nI k), .ref q1, .ref q2, .ref q3, .ref q4]))]) (cc := cX4_square) (maxL := 3) (ret := (some .int)) (by decide +kernel) rfl (Nat.le_of_ble_eq_true rfl) ?_
  intro p e s m args below meth c A R Q ls hx hb hr hts hown hml hlocks hA hK hN hP hD hS hl hR hQ
  have hown : s.vm.findClass RX4 = some m.cls := hown
  have hl : lv_has ls 3 [(0, .ref x0), (1, .int r), (2, .int w)] := hl
  refine lv_aload_n hx hb dX4_square_0 rfl (lv_at hl 0 rfl) ?_
  refine rk_get (ci := 4) (C := RX4) (T := TX4) (N := 6) hx hb hts iw_X4_square_4 hown hK hP 0 rfl rfl 0 (by decide) fl_X4_square_10 rfl (v := .ref t0) rfl dX4_square_1 ?_
  refine lv_iload_n hx hb dX4_square_4 rfl (lv_at hl 1 rfl) ?_
  refine kV_i (E := E) (As := [.int r]) (rest := []) (wr := [(x0, .inr (4, [.ref t0, .ref s0, .ref p0, .ref g0, .ref xS, .ref xV]))]) ⟨hx, hb, hml, hown, hts⟩ (c_X3_hasSquare (l := l) (E := E) (sz := _) (h0 := t0) (sc := nI n) (f1 := nI k) (q1 := q1) (q2 := q2) (q3 := q3) (q4 := q4) (x := r) ) (cwV 1 hts gX4_square_X3_hasSquare rfl rfl rfl (by decide +kernel) ⟨by rw [hR]; decide, by rw [hR]; decide⟩) hK hN hP hD hS hA [1] [0] rfl (by decide) rfl (by decide) (by decide) 1 3 rfl rfl rfl hl.1 rfl (Nat.le_of_ble_eq_true rfl) dX4_square_5 ⟨Nat.zero_le _, Nat.zero_le _⟩ (fun H locs hP hD hS => ?_)
  have hP : va_P E.1 vwCl [(x0, .inr (4, [.ref t0, .ref s0, .ref p0, .ref g0, .ref xS, .ref xV])), (t0, .inr (3, [.int (nI n), .int (nI k), .ref q1, .ref q2, .ref q3, .ref q4]))] H := hP
  have hD : va_D A [(x0, .inr (4, [.ref t0, .ref s0, .ref p0, .ref g0, .ref xS, .ref xV])), (t0, .inr (3, [.int (nI n), .int (nI k), .ref q1, .ref q2, .ref q3, .ref q4]))] := hD
  refine rk_if_neB (tgt := 13) hx hb dX4_square_8 (by decide) (fun q => absurd q (by rw [gb]; decide)) (fun zc8 => ?_)
  refine lv_iconst (v := (-1)) hx hb dX4_square_11 (by decide) ?_
  exact ret_i hQ hx hb hr hlocks (hP.sub [0, 1] rfl) (hD.sub [0, 1] (by decide) rfl) hS dX4_square_12 (rfl)
theorem inJ6_X4_square : Cond.initialized RJ6 ∈ wsX4_square := by decide +kernel
theorem ml130_X4_square : Cond.methodLink RX4 130 yJ6_bitCount_0f7a4 ∈ wsX4_square := by decide +kernel
theorem stJ6_X4_square : Cond.static yJ6_bitCount_0f7a4 ∈ wsX4_square := by decide +kernel
theorem fl_X4_square_21 : Cond.fieldLink RX4 21 (TX4 1).1 (TX4 1).2.1 (TX4 1).2.2.1 ∈ wsX4_square := by decide +kernel
theorem iw_X4_square_2 : ∀ w ∈ u_ws RX2 TX2 9, w ∈ wsX4_square := by decide +kernel
theorem fl_X4_square_138 : Cond.fieldLink RX4 138 (TX2 2).1 (TX2 2).2.1 (TX2 2).2.2.1 ∈ wsX4_square := by decide +kernel
theorem fl_X4_square_141 : Cond.fieldLink RX4 141 (TX2 1).1 (TX2 1).2.1 (TX2 1).2.2.1 ∈ wsX4_square := by decide +kernel
set_option maxHeartbeats 400000 in
set_option maxRecDepth 100000 in
theorem c_X4_square_ok (l : Launch) (E : EE) (sz : Nat) (x0 t0 s0 p0 g0 xS xV sP sD sS sL sF q1 q2 q3 q4 : Nat) (n k : Nat) (pc ds pr : Int32) (x : Nat) (w : Int32) (en po dO : Nat → Int32) (gn : n ≤ 16) (gk : k ≤ 30) (gx : x < n) : Ci l yX4_square wsX4_square 3 72 E [.ref x0, .int (nI x), .int w] [(x0, .inr (4, [.ref t0, .ref s0, .ref p0, .ref g0, .ref xS, .ref xV])), (t0, .inr (3, [.int (nI n), .int (nI k), .ref q1, .ref q2, .ref q3, .ref q4])), (s0, .inr (2, [.ref t0, .ref sP, .ref sD, .ref sS, .ref sL, .ref sF, .int pc, .int ds, .int pr])), (q4, aI E 30 en), (sP, aI E 16 po), (sD, aI E 16 dO)] sz (swl w [nI (popc (rAt en (nI x) k)), b2i (decide (¬ mPr en po k n x ≤ 0)), dO x, po x, mPr en po k n x] 0) [(x0, .inr (4, [.ref t0, .ref s0, .ref p0, .ref g0, .ref xS, .ref xV])), (t0, .inr (3, [.int (nI n), .int (nI k), .ref q1, .ref q2, .ref q3, .ref q4])), (s0, .inr (2, [.ref t0, .ref sP, .ref sD, .ref sS, .ref sL, .ref sF, .int pc, .int ds, .int pr])), (q4, aI E 30 en), (sP, aI E 16 po), (sD, aI E 16 dO)] := by
  refine C_of (QQ := QI E (swl w [nI (popc (rAt en (nI x) k)), b2i (decide (¬ mPr en po k n x ≤ 0)), dO x, po x, mPr en po k n x] 0) [(x0, .inr (4, [.ref t0, .ref s0, .ref p0, .ref g0, .ref xS, .ref xV])), (t0, .inr (3, [.int (nI n), .int (nI k), .ref q1, .ref q2, .ref q3, .ref q4])), (s0, .inr (2, [.ref t0, .ref sP, .ref sD, .ref sS, .ref sL, .ref sF, .int pc, .int ds, .int pr])), (q4, aI E 30 en), (sP, aI E 16 po), (sD, aI E 16 dO)]) (cc := cX4_square) (maxL := 3) (ret := (some .int)) (by decide +kernel) rfl (Nat.le_of_ble_eq_true rfl) ?_
  intro p e s m args below meth c A R Q ls hx hb hr hts hown hml hlocks hA hK hN hP hD hS hl hR hQ
  have hown : s.vm.findClass RX4 = some m.cls := hown
  have hl : lv_has ls 3 [(0, .ref x0), (1, .int (nI x)), (2, .int w)] := hl
  refine lv_aload_n hx hb dX4_square_0 rfl (lv_at hl 0 rfl) ?_
  refine rk_get (ci := 4) (C := RX4) (T := TX4) (N := 6) hx hb hts iw_X4_square_4 hown hK hP 0 rfl rfl 0 (by decide) fl_X4_square_10 rfl (v := .ref t0) rfl dX4_square_1 ?_
  refine lv_iload_n hx hb dX4_square_4 rfl (lv_at hl 1 rfl) ?_
  refine kV_i (E := E) (As := [.int (nI x)]) (rest := []) (wr := [(x0, .inr (4, [.ref t0, .ref s0, .ref p0, .ref g0, .ref xS, .ref xV])), (s0, .inr (2, [.ref t0, .ref sP, .ref sD, .ref sS, .ref sL, .ref sF, .int pc, .int ds, .int pr])), (q4, aI E 30 en), (sP, aI E 16 po), (sD, aI E 16 dO)]) ⟨hx, hb, hml, hown, hts⟩ (c_X3_hasSquare (l := l) (E := E) (sz := _) (h0 := t0) (sc := nI n) (f1 := nI k) (q1 := q1) (q2 := q2) (q3 := q3) (q4 := q4) (x := nI x) ) (cwV 1 hts gX4_square_X3_hasSquare rfl rfl rfl (by decide +kernel) ⟨by rw [hR]; decide, by rw [hR]; decide⟩) hK hN hP hD hS hA [1] [0, 2, 3, 4, 5] rfl (by decide) rfl (by decide) (by decide) 1 3 rfl rfl rfl hl.1 rfl (Nat.le_of_ble_eq_true rfl) dX4_square_5 ⟨Nat.zero_le _, Nat.zero_le _⟩ (fun H locs hP hD hS => ?_)
  have hP : va_P E.1 vwCl [(x0, .inr (4, [.ref t0, .ref s0, .ref p0, .ref g0, .ref xS, .ref xV])), (s0, .inr (2, [.ref t0, .ref sP, .ref sD, .ref sS, .ref sL, .ref sF, .int pc, .int ds, .int pr])), (q4, aI E 30 en), (sP, aI E 16 po), (sD, aI E 16 dO), (t0, .inr (3, [.int (nI n), .int (nI k), .ref q1, .ref q2, .ref q3, .ref q4]))] H := hP
  have hD : va_D A [(x0, .inr (4, [.ref t0, .ref s0, .ref p0, .ref g0, .ref xS, .ref xV])), (s0, .inr (2, [.ref t0, .ref sP, .ref sD, .ref sS, .ref sL, .ref sF, .int pc, .int ds, .int pr])), (q4, aI E 30 en), (sP, aI E 16 po), (sD, aI E 16 dO), (t0, .inr (3, [.int (nI n), .int (nI k), .ref q1, .ref q2, .ref q3, .ref q4]))] := hD
  refine rk_if_neB (tgt := 13) hx hb dX4_square_8 (by decide) (fun zc8 => ?_) (fun q => absurd q (by rw [inR_ok gx (by omega)]; decide))
  refine lv_iload_n hx hb dX4_square_13 rfl (lv_at hl 2 rfl) ?_
  by_cases w14_0 : w = nI 0
  · subst w14_0
    refine lv_tableIn (tgt := 48) hx hb dX4_square_14 (by decide) (by decide) rfl (by decide) ?_
    refine lv_aload_n hx hb dX4_square_48 rfl (lv_at hl 0 rfl) ?_
    refine rk_get (ci := 4) (C := RX4) (T := TX4) (N := 6) hx hb hts iw_X4_square_4 hown hK hP 0 rfl rfl 0 (by decide) fl_X4_square_10 rfl (v := .ref t0) rfl dX4_square_49 ?_
    refine lv_iload_n hx hb dX4_square_52 rfl (lv_at hl 1 rfl) ?_
    refine kV_i (E := E) (As := [.int (nI x)]) (rest := []) (wr := [(x0, .inr (4, [.ref t0, .ref s0, .ref p0, .ref g0, .ref xS, .ref xV])), (s0, .inr (2, [.ref t0, .ref sP, .ref sD, .ref sS, .ref sL, .ref sF, .int pc, .int ds, .int pr])), (sP, aI E 16 po), (sD, aI E 16 dO)]) ⟨hx, hb, hml, hown, hts⟩ (c_X3_roadsAt (l := l) (E := E) (sz := _) (h0 := t0) (q1 := q1) (q2 := q2) (q3 := q3) (q4 := q4) (sc := nI n) (k := k) (en := en) (x := nI x) (hk := by first | assumption | omega)) (cwV 1 hts gX4_square_X3_roadsAt rfl rfl rfl (by decide +kernel) ⟨by rw [hR]; decide, by rw [hR]; decide⟩) hK hN hP hD hS hA [5, 2] [0, 1, 3, 4] rfl (by decide) rfl (by decide) (by decide) 5 3 rfl rfl rfl hl.1 rfl (Nat.le_of_ble_eq_true rfl) dX4_square_53 ⟨Nat.zero_le _, Nat.zero_le _⟩ (fun H locs hP hD hS => ?_)
    have hP : va_P E.1 vwCl [(x0, .inr (4, [.ref t0, .ref s0, .ref p0, .ref g0, .ref xS, .ref xV])), (s0, .inr (2, [.ref t0, .ref sP, .ref sD, .ref sS, .ref sL, .ref sF, .int pc, .int ds, .int pr])), (sP, aI E 16 po), (sD, aI E 16 dO), (t0, .inr (3, [.int (nI n), .int (nI k), .ref q1, .ref q2, .ref q3, .ref q4])), (q4, aI E 30 en)] H := hP
    have hD : va_D A [(x0, .inr (4, [.ref t0, .ref s0, .ref p0, .ref g0, .ref xS, .ref xV])), (s0, .inr (2, [.ref t0, .ref sP, .ref sD, .ref sS, .ref sL, .ref sF, .int pc, .int ds, .int pr])), (sP, aI E 16 po), (sD, aI E 16 dO), (t0, .inr (3, [.int (nI n), .int (nI k), .ref q1, .ref q2, .ref q3, .ref q4])), (q4, aI E 30 en)] := hD
    refine kS_i (E := E) (As := [.int (rAt en (nI x) k)]) (rest := []) (wr := [(x0, .inr (4, [.ref t0, .ref s0, .ref p0, .ref g0, .ref xS, .ref xV])), (s0, .inr (2, [.ref t0, .ref sP, .ref sD, .ref sS, .ref sL, .ref sF, .int pc, .int ds, .int pr])), (sP, aI E 16 po), (sD, aI E 16 dO), (t0, .inr (3, [.int (nI n), .int (nI k), .ref q1, .ref q2, .ref q3, .ref q4])), (q4, aI E 30 en)]) ⟨hx, hb, hml, hown, hts⟩ (c_J6_bitCount_0f7a4 (l := l) (E := E) (sz := _) (x := rAt en (nI x) k)) ⟨callB_of 1 hts ggX4_square_J6_bitCount_0f7a4 rfl rfl rfl (hts _ inJ6_X4_square) (hts _ ml130_X4_square) (by decide +kernel) ⟨by rw [hR]; decide, by rw [hR]; decide⟩, hts _ stJ6_X4_square⟩ hK hN hP hD hS hA [] [0, 1, 2, 3, 4, 5] rfl (by decide) rfl (by decide) (by decide) rfl hl.1 rfl (Nat.le_of_ble_eq_true rfl) dX4_square_56 ⟨Nat.zero_le _, Nat.zero_le _⟩ (fun H locs hP hD hS => ?_)
    have hP : va_P E.1 vwCl [(x0, .inr (4, [.ref t0, .ref s0, .ref p0, .ref g0, .ref xS, .ref xV])), (s0, .inr (2, [.ref t0, .ref sP, .ref sD, .ref sS, .ref sL, .ref sF, .int pc, .int ds, .int pr])), (sP, aI E 16 po), (sD, aI E 16 dO), (t0, .inr (3, [.int (nI n), .int (nI k), .ref q1, .ref q2, .ref q3, .ref q4])), (q4, aI E 30 en)] H := hP
    have hD : va_D A [(x0, .inr (4, [.ref t0, .ref s0, .ref p0, .ref g0, .ref xS, .ref xV])), (s0, .inr (2, [.ref t0, .ref sP, .ref sD, .ref sS, .ref sL, .ref sF, .int pc, .int ds, .int pr])), (sP, aI E 16 po), (sD, aI E 16 dO), (t0, .inr (3, [.int (nI n), .int (nI k), .ref q1, .ref q2, .ref q3, .ref q4])), (q4, aI E 30 en)] := hD
    exact ret_i hQ hx hb hr hlocks (hP.sub [0, 4, 1, 5, 2, 3] rfl) (hD.sub [0, 4, 1, 5, 2, 3] (by decide) rfl) hS dX4_square_59 (by rw [swl_0 (by decide)])
  by_cases w14_1 : w = nI 1
  · subst w14_1
    refine lv_tableIn (tgt := 60) hx hb dX4_square_14 (by decide) (by decide) rfl (by decide) ?_
    refine lv_aload_n hx hb dX4_square_60 rfl (lv_at hl 0 rfl) ?_
    refine rk_get (ci := 4) (C := RX4) (T := TX4) (N := 6) hx hb hts iw_X4_square_4 hown hK hP 0 rfl rfl 1 (by decide) fl_X4_square_21 rfl (v := .ref s0) rfl dX4_square_61 ?_
    refine lv_iload_n hx hb dX4_square_64 rfl (lv_at hl 1 rfl) ?_
    refine kV_i (E := E) (As := [.int (nI x)]) (rest := []) (wr := [(x0, .inr (4, [.ref t0, .ref s0, .ref p0, .ref g0, .ref xS, .ref xV])), (sD, aI E 16 dO)]) ⟨hx, hb, hml, hown, hts⟩ (c_X2_morePiecesWithout (l := l) (E := E) (sz := _) (s0 := s0) (t0 := t0) (sP := sP) (sD := sD) (sS := sS) (sL := sL) (sF := sF) (q1 := q1) (q2 := q2) (q3 := q3) (q4 := q4) (k := k) (n := n) (pc := pc) (ds := ds) (pr := pr) (x := x) (po := po) (en := en) (g1 := by first | assumption | omega) (gk := by first | assumption | omega) (gn := by first | assumption | omega)) (cwV 1 hts gX4_square_X2_morePiecesWithout rfl rfl rfl (by decide +kernel) ⟨by rw [hR]; decide, by rw [hR]; decide⟩) hK hN hP hD hS hA [1, 5, 3, 2] [0, 4] rfl (by decide) rfl (by decide) (by decide) 1 2 rfl rfl rfl hl.1 rfl (Nat.le_of_ble_eq_true rfl) dX4_square_65 ⟨Nat.zero_le _, Nat.zero_le _⟩ (fun H locs hP hD hS => ?_)
    have hP : va_P E.1 vwCl [(x0, .inr (4, [.ref t0, .ref s0, .ref p0, .ref g0, .ref xS, .ref xV])), (sD, aI E 16 dO), (s0, .inr (2, [.ref t0, .ref sP, .ref sD, .ref sS, .ref sL, .ref sF, .int pc, .int ds, .int pr])), (t0, .inr (3, [.int (nI n), .int (nI k), .ref q1, .ref q2, .ref q3, .ref q4])), (sP, aI E 16 po), (q4, aI E 30 en)] H := hP
    have hD : va_D A [(x0, .inr (4, [.ref t0, .ref s0, .ref p0, .ref g0, .ref xS, .ref xV])), (sD, aI E 16 dO), (s0, .inr (2, [.ref t0, .ref sP, .ref sD, .ref sS, .ref sL, .ref sF, .int pc, .int ds, .int pr])), (t0, .inr (3, [.int (nI n), .int (nI k), .ref q1, .ref q2, .ref q3, .ref q4])), (sP, aI E 16 po), (q4, aI E 30 en)] := hD
    refine lv_if_le (tgt := 75) hx hb dX4_square_68 (by decide) (fun zc68 => ?_) (fun zc68 => ?_)
    · refine lv_iconst (v := nI 0) hx hb dX4_square_75 (by decide) ?_
      exact ret_i hQ hx hb hr hlocks (hP.sub [0, 3, 2, 5, 4, 1] rfl) (hD.sub [0, 3, 2, 5, 4, 1] (by decide) rfl) hS dX4_square_76 (by rw [swl_s (by decide), swl_0 (by decide)]; exact b2i_f (decide_eq_false (fun q => q zc68)))
    · refine lv_iconst (v := nI 1) hx hb dX4_square_71 (by decide) ?_
      refine lv_goto (tgt := 76) hx hb dX4_square_72 (by decide) ?_
      exact ret_i hQ hx hb hr hlocks (hP.sub [0, 3, 2, 5, 4, 1] rfl) (hD.sub [0, 3, 2, 5, 4, 1] (by decide) rfl) hS dX4_square_76 (by rw [swl_s (by decide), swl_0 (by decide)]; exact b2i_t (decide_eq_true zc68))
  by_cases w14_2 : w = nI 2
  · subst w14_2
    refine lv_tableIn (tgt := 77) hx hb dX4_square_14 (by decide) (by decide) rfl (by decide) ?_
    refine lv_aload_n hx hb dX4_square_77 rfl (lv_at hl 0 rfl) ?_
    refine rk_get (ci := 4) (C := RX4) (T := TX4) (N := 6) hx hb hts iw_X4_square_4 hown hK hP 0 rfl rfl 1 (by decide) fl_X4_square_21 rfl (v := .ref s0) rfl dX4_square_78 ?_
    refine rk_get (ci := 2) (C := RX2) (T := TX2) (N := 9) hx hb hts iw_X4_square_2 hown hK hP 1 rfl rfl 2 (by decide) fl_X4_square_138 rfl (v := .ref sD) rfl dX4_square_81 ?_
    refine lv_iload_n hx hb dX4_square_84 rfl (lv_at hl 1 rfl) ?_
    refine rk_iald hx hb hK hP 4 rfl (by omega) (by omega) (v := dO x) (rfl) dX4_square_85 ?_
    exact ret_i hQ hx hb hr hlocks (hP.sub [0, 5, 1, 2, 3, 4] rfl) (hD.sub [0, 5, 1, 2, 3, 4] (by decide) rfl) hS dX4_square_86 (by rw [swl_s (by decide), swl_s (by decide), swl_0 (by decide)])
  by_cases w14_3 : w = nI 3
  · subst w14_3
    refine lv_tableIn (tgt := 87) hx hb dX4_square_14 (by decide) (by decide) rfl (by decide) ?_
    refine lv_aload_n hx hb dX4_square_87 rfl (lv_at hl 0 rfl) ?_
    refine rk_get (ci := 4) (C := RX4) (T := TX4) (N := 6) hx hb hts iw_X4_square_4 hown hK hP 0 rfl rfl 1 (by decide) fl_X4_square_21 rfl (v := .ref s0) rfl dX4_square_88 ?_
    refine rk_get (ci := 2) (C := RX2) (T := TX2) (N := 9) hx hb hts iw_X4_square_2 hown hK hP 1 rfl rfl 1 (by decide) fl_X4_square_141 rfl (v := .ref sP) rfl dX4_square_91 ?_
    refine lv_iload_n hx hb dX4_square_94 rfl (lv_at hl 1 rfl) ?_
    refine rk_iald hx hb hK hP 3 rfl (by omega) (by omega) (v := po x) (rfl) dX4_square_95 ?_
    exact ret_i hQ hx hb hr hlocks (hP.sub [0, 5, 1, 2, 3, 4] rfl) (hD.sub [0, 5, 1, 2, 3, 4] (by decide) rfl) hS dX4_square_96 (by rw [swl_s (by decide), swl_s (by decide), swl_s (by decide), swl_0 (by decide)])
  by_cases w14_4 : w = nI 4
  · subst w14_4
    refine lv_tableIn (tgt := 97) hx hb dX4_square_14 (by decide) (by decide) rfl (by decide) ?_
    refine lv_aload_n hx hb dX4_square_97 rfl (lv_at hl 0 rfl) ?_
    refine rk_get (ci := 4) (C := RX4) (T := TX4) (N := 6) hx hb hts iw_X4_square_4 hown hK hP 0 rfl rfl 1 (by decide) fl_X4_square_21 rfl (v := .ref s0) rfl dX4_square_98 ?_
    refine lv_iload_n hx hb dX4_square_101 rfl (lv_at hl 1 rfl) ?_
    refine kV_i (E := E) (As := [.int (nI x)]) (rest := []) (wr := [(x0, .inr (4, [.ref t0, .ref s0, .ref p0, .ref g0, .ref xS, .ref xV])), (sD, aI E 16 dO)]) ⟨hx, hb, hml, hown, hts⟩ (c_X2_morePiecesWithout (l := l) (E := E) (sz := _) (s0 := s0) (t0 := t0) (sP := sP) (sD := sD) (sS := sS) (sL := sL) (sF := sF) (q1 := q1) (q2 := q2) (q3 := q3) (q4 := q4) (k := k) (n := n) (pc := pc) (ds := ds) (pr := pr) (x := x) (po := po) (en := en) (g1 := by first | assumption | omega) (gk := by first | assumption | omega) (gn := by first | assumption | omega)) (cwV 1 hts gX4_square_X2_morePiecesWithout rfl rfl rfl (by decide +kernel) ⟨by rw [hR]; decide, by rw [hR]; decide⟩) hK hN hP hD hS hA [1, 5, 3, 2] [0, 4] rfl (by decide) rfl (by decide) (by decide) 1 2 rfl rfl rfl hl.1 rfl (Nat.le_of_ble_eq_true rfl) dX4_square_102 ⟨Nat.zero_le _, Nat.zero_le _⟩ (fun H locs hP hD hS => ?_)
    have hP : va_P E.1 vwCl [(x0, .inr (4, [.ref t0, .ref s0, .ref p0, .ref g0, .ref xS, .ref xV])), (sD, aI E 16 dO), (s0, .inr (2, [.ref t0, .ref sP, .ref sD, .ref sS, .ref sL, .ref sF, .int pc, .int ds, .int pr])), (t0, .inr (3, [.int (nI n), .int (nI k), .ref q1, .ref q2, .ref q3, .ref q4])), (sP, aI E 16 po), (q4, aI E 30 en)] H := hP
    have hD : va_D A [(x0, .inr (4, [.ref t0, .ref s0, .ref p0, .ref g0, .ref xS, .ref xV])), (sD, aI E 16 dO), (s0, .inr (2, [.ref t0, .ref sP, .ref sD, .ref sS, .ref sL, .ref sF, .int pc, .int ds, .int pr])), (t0, .inr (3, [.int (nI n), .int (nI k), .ref q1, .ref q2, .ref q3, .ref q4])), (sP, aI E 16 po), (q4, aI E 30 en)] := hD
    exact ret_i hQ hx hb hr hlocks (hP.sub [0, 3, 2, 5, 4, 1] rfl) (hD.sub [0, 3, 2, 5, 4, 1] (by decide) rfl) hS dX4_square_105 (by rw [swl_s (by decide), swl_s (by decide), swl_s (by decide), swl_s (by decide), swl_0 (by decide)])
  refine lv_tableOut (tgt := 106) hx hb dX4_square_14 (tsw_out (N := 4) (by decide) (fun j hj => by rcases (show j = 0 ∨ j = 1 ∨ j = 2 ∨ j = 3 ∨ j = 4 by omega) with rfl | rfl | rfl | rfl | rfl <;> assumption)) (by decide) ?_
  refine lv_bipush (v := (-2)) hx hb dX4_square_106 (by decide) ?_
  exact ret_i hQ hx hb hr hlocks (hP.sub [0, 5, 1, 2, 3, 4] rfl) (hD.sub [0, 5, 1, 2, 3, 4] (by decide) rfl) hS dX4_square_108 (by simp only [swl]; rw [if_neg w14_0, if_neg w14_1, if_neg w14_2, if_neg w14_3, if_neg w14_4])
theorem iw_X4_district_4 : ∀ w ∈ u_ws RX4 TX4 6, w ∈ wsX4_district := by decide +kernel
theorem fl_X4_district_21 : Cond.fieldLink RX4 21 (TX4 1).1 (TX4 1).2.1 (TX4 1).2.2.1 ∈ wsX4_district := by decide +kernel
theorem iw_X4_district_2 : ∀ w ∈ u_ws RX2 TX2 9, w ∈ wsX4_district := by decide +kernel
theorem fl_X4_district_144 : Cond.fieldLink RX4 144 (TX2 7).1 (TX2 7).2.1 (TX2 7).2.2.1 ∈ wsX4_district := by decide +kernel
set_option maxHeartbeats 400000 in
set_option maxRecDepth 100000 in
theorem c_X4_district_bad (l : Launch) (E : EE) (sz : Nat) (x0 t0 s0 p0 g0 xS xV sP sD sS sL sF q1 q2 q3 q4 : Nat) (n k : Nat) (pc pr : Int32) (ds : Nat) (r w : Int32) (gb : inR r (nI ds) = false) : Ci l yX4_district wsX4_district 0 0 E [.ref x0, .int r, .int w] [(x0, .inr (4, [.ref t0, .ref s0, .ref p0, .ref g0, .ref xS, .ref xV])), (s0, .inr (2, [.ref t0, .ref sP, .ref sD, .ref sS, .ref sL, .ref sF, .int pc, .int (nI ds), .int pr]))] sz (-1) [(x0, .inr (4, [.ref t0, .ref s0, .ref p0, .ref g0, .ref xS, .ref xV])), (s0, .inr (2, [.ref t0, .ref sP, .ref sD, .ref sS, .ref sL, .ref sF, .int pc, .int (nI ds), .int pr]))] := by
  refine C_of (QQ := QI E (-1) [(x0, .inr (4, [.ref t0, .ref s0, .ref p0, .ref g0, .ref xS, .ref xV])), (s0, .inr (2, [.ref t0, .ref sP, .ref sD, .ref sS, .ref sL, .ref sF, .int pc, .int (nI ds), .int pr]))]) (cc := cX4_district) (maxL := 4) (ret := (some .int)) (by decide +kernel) rfl (Nat.le_of_ble_eq_true rfl) ?_
  intro p e s m args below meth c A R Q ls hx hb hr hts hown hml hlocks hA hK hN hP hD hS hl hR hQ
  have hown : s.vm.findClass RX4 = some m.cls := hown
  have hl : lv_has ls 4 [(0, .ref x0), (1, .int r), (2, .int w)] := hl
  refine lv_iload_n hx hb dX4_district_0 rfl (lv_at hl 1 rfl) ?_
  refine lv_if_lt (tgt := 15) hx hb dX4_district_1 (by decide) (fun zc1 => ?_) (fun zc1 => ?_)
  · refine lv_iconst (v := (-1)) hx hb dX4_district_15 (by decide) ?_
    exact ret_i hQ hx hb hr hlocks (hP.sub [0, 1] rfl) (hD.sub [0, 1] (by decide) rfl) hS dX4_district_16 (rfl)
  · refine lv_iload_n hx hb dX4_district_4 rfl (lv_at hl 1 rfl) ?_
    refine lv_aload_n hx hb dX4_district_5 rfl (lv_at hl 0 rfl) ?_
    refine rk_get (ci := 4) (C := RX4) (T := TX4) (N := 6) hx hb hts iw_X4_district_4 hown hK hP 0 rfl rfl 1 (by decide) fl_X4_district_21 rfl (v := .ref s0) rfl dX4_district_6 ?_
    refine rk_get (ci := 2) (C := RX2) (T := TX2) (N := 9) hx hb hts iw_X4_district_2 hown hK hP 1 rfl rfl 7 (by decide) fl_X4_district_144 rfl (v := .int (nI ds)) rfl dX4_district_9 ?_
    refine lv_icmp_lt (tgt := 17) hx hb dX4_district_12 (by decide) (fun q => absurd gb (by rw [inR_t zc1 (Int32.not_le.mpr q)]; decide)) (fun zc12 => ?_)
    refine lv_iconst (v := (-1)) hx hb dX4_district_15 (by decide) ?_
    exact ret_i hQ hx hb hr hlocks (hP.sub [0, 1] rfl) (hD.sub [0, 1] (by decide) rfl) hS dX4_district_16 (rfl)
theorem fl_X4_district_147 : Cond.fieldLink RX4 147 (TX2 3).1 (TX2 3).2.1 (TX2 3).2.2.1 ∈ wsX4_district := by decide +kernel
theorem fl_X4_district_10 : Cond.fieldLink RX4 10 (TX4 0).1 (TX4 0).2.1 (TX4 0).2.2.1 ∈ wsX4_district := by decide +kernel
theorem inJ6_X4_district : Cond.initialized RJ6 ∈ wsX4_district := by decide +kernel
theorem ml130_X4_district : Cond.methodLink RX4 130 yJ6_bitCount_0f7a4 ∈ wsX4_district := by decide +kernel
theorem stJ6_X4_district : Cond.static yJ6_bitCount_0f7a4 ∈ wsX4_district := by decide +kernel
set_option maxHeartbeats 400000 in
set_option maxRecDepth 100000 in
theorem c_X4_district_ok (l : Launch) (E : EE) (sz : Nat) (x0 t0 s0 p0 g0 xS xV sP sD sS sL sF q1 q2 q3 q4 : Nat) (n k : Nat) (pc pr : Int32) (ds d : Nat) (w : Int32) (le en dS : Nat → Int32) (gn : n ≤ 16) (gk : k ≤ 30) (gd : d < ds) (gds : ds ≤ 16) : Ci l yX4_district wsX4_district 2 44 E [.ref x0, .int (nI d), .int w] [(x0, .inr (4, [.ref t0, .ref s0, .ref p0, .ref g0, .ref xS, .ref xV])), (t0, .inr (3, [.int (nI n), .int (nI k), .ref q1, .ref q2, .ref q3, .ref q4])), (s0, .inr (2, [.ref t0, .ref sP, .ref sD, .ref sS, .ref sL, .ref sF, .int pc, .int (nI ds), .int pr])), (q3, aI E 30 le), (q4, aI E 30 en), (sS, aI E 16 dS)] sz (swl w [dS d, lnO le (rWi en (dS d) k) k, nI (pRo en pr (dS d) k), nI (popc (rWi en (dS d) k)) - nI (popc (dS d)) + nI 1] 0) [(x0, .inr (4, [.ref t0, .ref s0, .ref p0, .ref g0, .ref xS, .ref xV])), (t0, .inr (3, [.int (nI n), .int (nI k), .ref q1, .ref q2, .ref q3, .ref q4])), (s0, .inr (2, [.ref t0, .ref sP, .ref sD, .ref sS, .ref sL, .ref sF, .int pc, .int (nI ds), .int pr])), (q3, aI E 30 le), (q4, aI E 30 en), (sS, aI E 16 dS)] := by
  refine C_of (QQ := QI E (swl w [dS d, lnO le (rWi en (dS d) k) k, nI (pRo en pr (dS d) k), nI (popc (rWi en (dS d) k)) - nI (popc (dS d)) + nI 1] 0) [(x0, .inr (4, [.ref t0, .ref s0, .ref p0, .ref g0, .ref xS, .ref xV])), (t0, .inr (3, [.int (nI n), .int (nI k), .ref q1, .ref q2, .ref q3, .ref q4])), (s0, .inr (2, [.ref t0, .ref sP, .ref sD, .ref sS, .ref sL, .ref sF, .int pc, .int (nI ds), .int pr])), (q3, aI E 30 le), (q4, aI E 30 en), (sS, aI E 16 dS)]) (cc := cX4_district) (maxL := 4) (ret := (some .int)) (by decide +kernel) rfl (Nat.le_of_ble_eq_true rfl) ?_
  intro p e s m args below meth c A R Q ls hx hb hr hts hown hml hlocks hA hK hN hP hD hS hl hR hQ
  have hown : s.vm.findClass RX4 = some m.cls := hown
  have hl : lv_has ls 4 [(0, .ref x0), (1, .int (nI d)), (2, .int w)] := hl
  refine lv_iload_n hx hb dX4_district_0 rfl (lv_at hl 1 rfl) ?_
  refine rk_if_ltN (tgt := 15) hx hb (by omega) dX4_district_1 (by decide) ?_
  refine lv_iload_n hx hb dX4_district_4 rfl (lv_at hl 1 rfl) ?_
  refine lv_aload_n hx hb dX4_district_5 rfl (lv_at hl 0 rfl) ?_
  refine rk_get (ci := 4) (C := RX4) (T := TX4) (N := 6) hx hb hts iw_X4_district_4 hown hK hP 0 rfl rfl 1 (by decide) fl_X4_district_21 rfl (v := .ref s0) rfl dX4_district_6 ?_
  refine rk_get (ci := 2) (C := RX2) (T := TX2) (N := 9) hx hb hts iw_X4_district_2 hown hK hP 2 rfl rfl 7 (by decide) fl_X4_district_144 rfl (v := .int (nI ds)) rfl dX4_district_9 ?_
  refine rk_ltN (tgt := 17) hx hb (by omega) (by omega) dX4_district_12 (by decide) (fun zc12 => ?_) (fun q => absurd q (by omega))
  refine lv_aload_n hx hb dX4_district_17 rfl (lv_at hl 0 rfl) ?_
  refine rk_get (ci := 4) (C := RX4) (T := TX4) (N := 6) hx hb hts iw_X4_district_4 hown hK hP 0 rfl rfl 1 (by decide) fl_X4_district_21 rfl (v := .ref s0) rfl dX4_district_18 ?_
  refine rk_get (ci := 2) (C := RX2) (T := TX2) (N := 9) hx hb hts iw_X4_district_2 hown hK hP 2 rfl rfl 3 (by decide) fl_X4_district_147 rfl (v := .ref sS) rfl dX4_district_21 ?_
  refine lv_iload_n hx hb dX4_district_24 rfl (lv_at hl 1 rfl) ?_
  refine rk_iald hx hb hK hP 5 rfl (by omega) (by omega) (v := dS d) (rfl) dX4_district_25 ?_
  refine lv_istore_n (lv' := [(3, .int (dS d)), (0, .ref x0), (1, .int (nI d)), (2, .int w)]) hx hb dX4_district_26 rfl hl (by decide) rfl (fun ls hl => ?_)
  refine lv_iload_n hx hb dX4_district_27 rfl (lv_at hl 3 rfl) ?_
  by_cases w28_0 : w = nI 0
  · subst w28_0
    refine lv_tableIn (tgt := 60) hx hb dX4_district_28 (by decide) (by decide) rfl (by decide) ?_
    refine lv_iload_n hx hb dX4_district_60 rfl (lv_at hl 0 rfl) ?_
    exact ret_i hQ hx hb hr hlocks (hP.sub [0, 1, 2, 3, 4, 5] rfl) (hD.sub [0, 1, 2, 3, 4, 5] (by decide) rfl) hS dX4_district_61 (by rw [swl_0 (by decide)])
  by_cases w28_1 : w = nI 1
  · subst w28_1
    refine lv_tableIn (tgt := 62) hx hb dX4_district_28 (by decide) (by decide) rfl (by decide) ?_
    refine lv_aload_n hx hb dX4_district_62 rfl (lv_at hl 1 rfl) ?_
    refine rk_get (ci := 4) (C := RX4) (T := TX4) (N := 6) hx hb hts iw_X4_district_4 hown hK hP 0 rfl rfl 0 (by decide) fl_X4_district_10 rfl (v := .ref t0) rfl dX4_district_63 ?_
    refine lv_aload_n hx hb dX4_district_66 rfl (lv_at hl 1 rfl) ?_
    refine rk_get (ci := 4) (C := RX4) (T := TX4) (N := 6) hx hb hts iw_X4_district_4 hown hK hP 0 rfl rfl 0 (by decide) fl_X4_district_10 rfl (v := .ref t0) rfl dX4_district_67 ?_
    refine lv_iload_n hx hb dX4_district_70 rfl (lv_at hl 0 rfl) ?_
    refine kV_i (E := E) (As := [.int (dS d)]) (rest := [.ref t0]) (wr := [(x0, .inr (4, [.ref t0, .ref s0, .ref p0, .ref g0, .ref xS, .ref xV])), (s0, .inr (2, [.ref t0, .ref sP, .ref sD, .ref sS, .ref sL, .ref sF, .int pc, .int (nI ds), .int pr])), (q3, aI E 30 le), (sS, aI E 16 dS)]) ⟨hx, hb, hml, hown, hts⟩ (c_X3_roadsWithin (l := l) (E := E) (sz := _) (h0 := t0) (q1 := q1) (q2 := q2) (q3 := q3) (q4 := q4) (sc := nI n) (k := k) (en := en) (x := dS d) (hk := by first | assumption | omega)) (cwV 1 hts gX4_district_X3_roadsWithin rfl rfl rfl (by decide +kernel) ⟨by rw [hR]; decide, by rw [hR]; decide⟩) hK hN hP hD hS hA [1, 4] [0, 2, 3, 5] rfl (by decide) rfl (by decide) (by decide) 1 3 rfl rfl rfl hl.1 rfl (Nat.le_of_ble_eq_true rfl) dX4_district_71 ⟨Nat.zero_le _, Nat.zero_le _⟩ (fun H locs hP hD hS => ?_)
    have hP : va_P E.1 vwCl [(x0, .inr (4, [.ref t0, .ref s0, .ref p0, .ref g0, .ref xS, .ref xV])), (s0, .inr (2, [.ref t0, .ref sP, .ref sD, .ref sS, .ref sL, .ref sF, .int pc, .int (nI ds), .int pr])), (q3, aI E 30 le), (sS, aI E 16 dS), (t0, .inr (3, [.int (nI n), .int (nI k), .ref q1, .ref q2, .ref q3, .ref q4])), (q4, aI E 30 en)] H := hP
    have hD : va_D A [(x0, .inr (4, [.ref t0, .ref s0, .ref p0, .ref g0, .ref xS, .ref xV])), (s0, .inr (2, [.ref t0, .ref sP, .ref sD, .ref sS, .ref sL, .ref sF, .int pc, .int (nI ds), .int pr])), (q3, aI E 30 le), (sS, aI E 16 dS), (t0, .inr (3, [.int (nI n), .int (nI k), .ref q1, .ref q2, .ref q3, .ref q4])), (q4, aI E 30 en)] := hD
    refine kV_i (E := E) (As := [.int (rWi en (dS d) k)]) (rest := []) (wr := [(x0, .inr (4, [.ref t0, .ref s0, .ref p0, .ref g0, .ref xS, .ref xV])), (s0, .inr (2, [.ref t0, .ref sP, .ref sD, .ref sS, .ref sL, .ref sF, .int pc, .int (nI ds), .int pr])), (sS, aI E 16 dS), (q4, aI E 30 en)]) ⟨hx, hb, hml, hown, hts⟩ (c_X3_lengthOf (l := l) (E := E) (sz := _) (h0 := t0) (q1 := q1) (q2 := q2) (q3 := q3) (q4 := q4) (sc := nI n) (k := k) (le := le) (x := rWi en (dS d) k) (hk := by first | assumption | omega)) (cwV 1 hts gX4_district_X3_lengthOf rfl rfl rfl (by decide +kernel) ⟨by rw [hR]; decide, by rw [hR]; decide⟩) hK hN hP hD hS hA [4, 2] [0, 1, 3, 5] rfl (by decide) rfl (by decide) (by decide) 4 3 rfl rfl rfl hl.1 rfl (Nat.le_of_ble_eq_true rfl) dX4_district_74 ⟨Nat.zero_le _, Nat.zero_le _⟩ (fun H locs hP hD hS => ?_)
    have hP : va_P E.1 vwCl [(x0, .inr (4, [.ref t0, .ref s0, .ref p0, .ref g0, .ref xS, .ref xV])), (s0, .inr (2, [.ref t0, .ref sP, .ref sD, .ref sS, .ref sL, .ref sF, .int pc, .int (nI ds), .int pr])), (sS, aI E 16 dS), (q4, aI E 30 en), (t0, .inr (3, [.int (nI n), .int (nI k), .ref q1, .ref q2, .ref q3, .ref q4])), (q3, aI E 30 le)] H := hP
    have hD : va_D A [(x0, .inr (4, [.ref t0, .ref s0, .ref p0, .ref g0, .ref xS, .ref xV])), (s0, .inr (2, [.ref t0, .ref sP, .ref sD, .ref sS, .ref sL, .ref sF, .int pc, .int (nI ds), .int pr])), (sS, aI E 16 dS), (q4, aI E 30 en), (t0, .inr (3, [.int (nI n), .int (nI k), .ref q1, .ref q2, .ref q3, .ref q4])), (q3, aI E 30 le)] := hD
    exact ret_i hQ hx hb hr hlocks (hP.sub [0, 4, 1, 5, 3, 2] rfl) (hD.sub [0, 4, 1, 5, 3, 2] (by decide) rfl) hS dX4_district_77 (by rw [swl_s (by decide), swl_0 (by decide)])
  by_cases w28_2 : w = nI 2
  · subst w28_2
    refine lv_tableIn (tgt := 78) hx hb dX4_district_28 (by decide) (by decide) rfl (by decide) ?_
    refine lv_aload_n hx hb dX4_district_78 rfl (lv_at hl 1 rfl) ?_
    refine rk_get (ci := 4) (C := RX4) (T := TX4) (N := 6) hx hb hts iw_X4_district_4 hown hK hP 0 rfl rfl 1 (by decide) fl_X4_district_21 rfl (v := .ref s0) rfl dX4_district_79 ?_
    refine lv_iload_n hx hb dX4_district_82 rfl (lv_at hl 0 rfl) ?_
    refine kV_i (E := E) (As := [.int (dS d)]) (rest := []) (wr := [(x0, .inr (4, [.ref t0, .ref s0, .ref p0, .ref g0, .ref xS, .ref xV])), (q3, aI E 30 le), (sS, aI E 16 dS)]) ⟨hx, hb, hml, hown, hts⟩ (c_X2_partingRoadsOut (l := l) (E := E) (sz := _) (s0 := s0) (t0 := t0) (sP := sP) (sD := sD) (sS := sS) (sL := sL) (sF := sF) (q1 := q1) (q2 := q2) (q3 := q3) (q4 := q4) (sc := nI n) (k := k) (pc := pc) (ds := nI ds) (pr := pr) (mm := dS d) (en := en) (gk := by first | assumption | omega)) (cwV 1 hts gX4_district_X2_partingRoadsOut rfl rfl rfl (by decide +kernel) ⟨by rw [hR]; decide, by rw [hR]; decide⟩) hK hN hP hD hS hA [2, 1, 4] [0, 3, 5] rfl (by decide) rfl (by decide) (by decide) 2 2 rfl rfl rfl hl.1 rfl (Nat.le_of_ble_eq_true rfl) dX4_district_83 ⟨Nat.zero_le _, Nat.zero_le _⟩ (fun H locs hP hD hS => ?_)
    have hP : va_P E.1 vwCl [(x0, .inr (4, [.ref t0, .ref s0, .ref p0, .ref g0, .ref xS, .ref xV])), (q3, aI E 30 le), (sS, aI E 16 dS), (s0, .inr (2, [.ref t0, .ref sP, .ref sD, .ref sS, .ref sL, .ref sF, .int pc, .int (nI ds), .int pr])), (t0, .inr (3, [.int (nI n), .int (nI k), .ref q1, .ref q2, .ref q3, .ref q4])), (q4, aI E 30 en)] H := hP
    have hD : va_D A [(x0, .inr (4, [.ref t0, .ref s0, .ref p0, .ref g0, .ref xS, .ref xV])), (q3, aI E 30 le), (sS, aI E 16 dS), (s0, .inr (2, [.ref t0, .ref sP, .ref sD, .ref sS, .ref sL, .ref sF, .int pc, .int (nI ds), .int pr])), (t0, .inr (3, [.int (nI n), .int (nI k), .ref q1, .ref q2, .ref q3, .ref q4])), (q4, aI E 30 en)] := hD
    exact ret_i hQ hx hb hr hlocks (hP.sub [0, 4, 3, 1, 5, 2] rfl) (hD.sub [0, 4, 3, 1, 5, 2] (by decide) rfl) hS dX4_district_86 (by rw [swl_s (by decide), swl_s (by decide), swl_0 (by decide)])
  by_cases w28_3 : w = nI 3
  · subst w28_3
    refine lv_tableIn (tgt := 87) hx hb dX4_district_28 (by decide) (by decide) rfl (by decide) ?_
    refine lv_aload_n hx hb dX4_district_87 rfl (lv_at hl 1 rfl) ?_
    refine rk_get (ci := 4) (C := RX4) (T := TX4) (N := 6) hx hb hts iw_X4_district_4 hown hK hP 0 rfl rfl 0 (by decide) fl_X4_district_10 rfl (v := .ref t0) rfl dX4_district_88 ?_
    refine lv_iload_n hx hb dX4_district_91 rfl (lv_at hl 0 rfl) ?_
    refine kV_i (E := E) (As := [.int (dS d)]) (rest := []) (wr := [(x0, .inr (4, [.ref t0, .ref s0, .ref p0, .ref g0, .ref xS, .ref xV])), (s0, .inr (2, [.ref t0, .ref sP, .ref sD, .ref sS, .ref sL, .ref sF, .int pc, .int (nI ds), .int pr])), (q3, aI E 30 le), (sS, aI E 16 dS)]) ⟨hx, hb, hml, hown, hts⟩ (c_X3_roadsWithin (l := l) (E := E) (sz := _) (h0 := t0) (q1 := q1) (q2 := q2) (q3 := q3) (q4 := q4) (sc := nI n) (k := k) (en := en) (x := dS d) (hk := by first | assumption | omega)) (cwV 1 hts gX4_district_X3_roadsWithin rfl rfl rfl (by decide +kernel) ⟨by rw [hR]; decide, by rw [hR]; decide⟩) hK hN hP hD hS hA [1, 4] [0, 2, 3, 5] rfl (by decide) rfl (by decide) (by decide) 1 3 rfl rfl rfl hl.1 rfl (Nat.le_of_ble_eq_true rfl) dX4_district_92 ⟨Nat.zero_le _, Nat.zero_le _⟩ (fun H locs hP hD hS => ?_)
    have hP : va_P E.1 vwCl [(x0, .inr (4, [.ref t0, .ref s0, .ref p0, .ref g0, .ref xS, .ref xV])), (s0, .inr (2, [.ref t0, .ref sP, .ref sD, .ref sS, .ref sL, .ref sF, .int pc, .int (nI ds), .int pr])), (q3, aI E 30 le), (sS, aI E 16 dS), (t0, .inr (3, [.int (nI n), .int (nI k), .ref q1, .ref q2, .ref q3, .ref q4])), (q4, aI E 30 en)] H := hP
    have hD : va_D A [(x0, .inr (4, [.ref t0, .ref s0, .ref p0, .ref g0, .ref xS, .ref xV])), (s0, .inr (2, [.ref t0, .ref sP, .ref sD, .ref sS, .ref sL, .ref sF, .int pc, .int (nI ds), .int pr])), (q3, aI E 30 le), (sS, aI E 16 dS), (t0, .inr (3, [.int (nI n), .int (nI k), .ref q1, .ref q2, .ref q3, .ref q4])), (q4, aI E 30 en)] := hD
    refine kS_i (E := E) (As := [.int (rWi en (dS d) k)]) (rest := []) (wr := [(x0, .inr (4, [.ref t0, .ref s0, .ref p0, .ref g0, .ref xS, .ref xV])), (s0, .inr (2, [.ref t0, .ref sP, .ref sD, .ref sS, .ref sL, .ref sF, .int pc, .int (nI ds), .int pr])), (q3, aI E 30 le), (sS, aI E 16 dS), (t0, .inr (3, [.int (nI n), .int (nI k), .ref q1, .ref q2, .ref q3, .ref q4])), (q4, aI E 30 en)]) ⟨hx, hb, hml, hown, hts⟩ (c_J6_bitCount_0f7a4 (l := l) (E := E) (sz := _) (x := rWi en (dS d) k)) ⟨callB_of 1 hts ggX4_district_J6_bitCount_0f7a4 rfl rfl rfl (hts _ inJ6_X4_district) (hts _ ml130_X4_district) (by decide +kernel) ⟨by rw [hR]; decide, by rw [hR]; decide⟩, hts _ stJ6_X4_district⟩ hK hN hP hD hS hA [] [0, 1, 2, 3, 4, 5] rfl (by decide) rfl (by decide) (by decide) rfl hl.1 rfl (Nat.le_of_ble_eq_true rfl) dX4_district_95 ⟨Nat.zero_le _, Nat.zero_le _⟩ (fun H locs hP hD hS => ?_)
    have hP : va_P E.1 vwCl [(x0, .inr (4, [.ref t0, .ref s0, .ref p0, .ref g0, .ref xS, .ref xV])), (s0, .inr (2, [.ref t0, .ref sP, .ref sD, .ref sS, .ref sL, .ref sF, .int pc, .int (nI ds), .int pr])), (q3, aI E 30 le), (sS, aI E 16 dS), (t0, .inr (3, [.int (nI n), .int (nI k), .ref q1, .ref q2, .ref q3, .ref q4])), (q4, aI E 30 en)] H := hP
    have hD : va_D A [(x0, .inr (4, [.ref t0, .ref s0, .ref p0, .ref g0, .ref xS, .ref xV])), (s0, .inr (2, [.ref t0, .ref sP, .ref sD, .ref sS, .ref sL, .ref sF, .int pc, .int (nI ds), .int pr])), (q3, aI E 30 le), (sS, aI E 16 dS), (t0, .inr (3, [.int (nI n), .int (nI k), .ref q1, .ref q2, .ref q3, .ref q4])), (q4, aI E 30 en)] := hD
    refine lv_iload_n hx hb dX4_district_98 rfl (lv_at hl 0 rfl) ?_
    refine kS_i (E := E) (As := [.int (dS d)]) (rest := [.int (nI (popc (rWi en (dS d) k)))]) (wr := [(x0, .inr (4, [.ref t0, .ref s0, .ref p0, .ref g0, .ref xS, .ref xV])), (s0, .inr (2, [.ref t0, .ref sP, .ref sD, .ref sS, .ref sL, .ref sF, .int pc, .int (nI ds), .int pr])), (q3, aI E 30 le), (sS, aI E 16 dS), (t0, .inr (3, [.int (nI n), .int (nI k), .ref q1, .ref q2, .ref q3, .ref q4])), (q4, aI E 30 en)]) ⟨hx, hb, hml, hown, hts⟩ (c_J6_bitCount_0f7a4 (l := l) (E := E) (sz := _) (x := dS d)) ⟨callB_of 1 hts ggX4_district_J6_bitCount_0f7a4 rfl rfl rfl (hts _ inJ6_X4_district) (hts _ ml130_X4_district) (by decide +kernel) ⟨by rw [hR]; decide, by rw [hR]; decide⟩, hts _ stJ6_X4_district⟩ hK hN hP hD hS hA [] [0, 1, 2, 3, 4, 5] rfl (by decide) rfl (by decide) (by decide) rfl hl.1 rfl (Nat.le_of_ble_eq_true rfl) dX4_district_99 ⟨Nat.zero_le _, Nat.zero_le _⟩ (fun H locs hP hD hS => ?_)
    have hP : va_P E.1 vwCl [(x0, .inr (4, [.ref t0, .ref s0, .ref p0, .ref g0, .ref xS, .ref xV])), (s0, .inr (2, [.ref t0, .ref sP, .ref sD, .ref sS, .ref sL, .ref sF, .int pc, .int (nI ds), .int pr])), (q3, aI E 30 le), (sS, aI E 16 dS), (t0, .inr (3, [.int (nI n), .int (nI k), .ref q1, .ref q2, .ref q3, .ref q4])), (q4, aI E 30 en)] H := hP
    have hD : va_D A [(x0, .inr (4, [.ref t0, .ref s0, .ref p0, .ref g0, .ref xS, .ref xV])), (s0, .inr (2, [.ref t0, .ref sP, .ref sD, .ref sS, .ref sL, .ref sF, .int pc, .int (nI ds), .int pr])), (q3, aI E 30 le), (sS, aI E 16 dS), (t0, .inr (3, [.int (nI n), .int (nI k), .ref q1, .ref q2, .ref q3, .ref q4])), (q4, aI E 30 en)] := hD
    refine lv_isub hx hb dX4_district_102 ?_
    refine lv_iconst (v := nI 1) hx hb dX4_district_103 (by decide) ?_
    refine lv_iadd hx hb dX4_district_104 ?_
    exact ret_i hQ hx hb hr hlocks (hP.sub [0, 4, 1, 2, 5, 3] rfl) (hD.sub [0, 4, 1, 2, 5, 3] (by decide) rfl) hS dX4_district_105 (by rw [swl_s (by decide), swl_s (by decide), swl_s (by decide), swl_0 (by decide)])
  refine lv_tableOut (tgt := 106) hx hb dX4_district_28 (tsw_out (N := 3) (by decide) (fun j hj => by rcases (show j = 0 ∨ j = 1 ∨ j = 2 ∨ j = 3 by omega) with rfl | rfl | rfl | rfl <;> assumption)) (by decide) ?_
  refine lv_bipush (v := (-2)) hx hb dX4_district_106 (by decide) ?_
  exact ret_i hQ hx hb hr hlocks (hP.sub [0, 1, 2, 3, 4, 5] rfl) (hD.sub [0, 1, 2, 3, 4, 5] (by decide) rfl) hS dX4_district_108 (by simp only [swl]; rw [if_neg w28_0, if_neg w28_1, if_neg w28_2, if_neg w28_3])
theorem iw_X4_count_4 : ∀ w ∈ u_ws RX4 TX4 6, w ∈ wsX4_count := by decide +kernel
theorem fl_X4_count_10 : Cond.fieldLink RX4 10 (TX4 0).1 (TX4 0).2.1 (TX4 0).2.2.1 ∈ wsX4_count := by decide +kernel
theorem iw_X4_count_3 : ∀ w ∈ u_ws RX3 TX3 6, w ∈ wsX4_count := by decide +kernel
theorem fl_X4_count_51 : Cond.fieldLink RX4 51 (TX3 0).1 (TX3 0).2.1 (TX3 0).2.2.1 ∈ wsX4_count := by decide +kernel
theorem fl_X4_count_64 : Cond.fieldLink RX4 64 (TX3 1).1 (TX3 1).2.1 (TX3 1).2.2.1 ∈ wsX4_count := by decide +kernel
theorem fl_X4_count_21 : Cond.fieldLink RX4 21 (TX4 1).1 (TX4 1).2.1 (TX4 1).2.2.1 ∈ wsX4_count := by decide +kernel
theorem iw_X4_count_2 : ∀ w ∈ u_ws RX2 TX2 9, w ∈ wsX4_count := by decide +kernel
theorem fl_X4_count_71 : Cond.fieldLink RX4 71 (TX2 6).1 (TX2 6).2.1 (TX2 6).2.2.1 ∈ wsX4_count := by decide +kernel
theorem fl_X4_count_114 : Cond.fieldLink RX4 114 (TX2 8).1 (TX2 8).2.1 (TX2 8).2.2.1 ∈ wsX4_count := by decide +kernel
theorem inJ6_X4_count : Cond.initialized RJ6 ∈ wsX4_count := by decide +kernel
theorem ml130_X4_count : Cond.methodLink RX4 130 yJ6_bitCount_0f7a4 ∈ wsX4_count := by decide +kernel
theorem stJ6_X4_count : Cond.static yJ6_bitCount_0f7a4 ∈ wsX4_count := by decide +kernel
theorem fl_X4_count_144 : Cond.fieldLink RX4 144 (TX2 7).1 (TX2 7).2.1 (TX2 7).2.2.1 ∈ wsX4_count := by decide +kernel
theorem fl_X4_count_28 : Cond.fieldLink RX4 28 (TX4 2).1 (TX4 2).2.1 (TX4 2).2.2.1 ∈ wsX4_count := by decide +kernel
theorem iw_X4_count_1 : ∀ w ∈ u_ws RX1 TX1 5, w ∈ wsX4_count := by decide +kernel
theorem fl_X4_count_101 : Cond.fieldLink RX4 101 (TX1 1).1 (TX1 1).2.1 (TX1 1).2.2.1 ∈ wsX4_count := by decide +kernel
theorem fl_X4_count_35 : Cond.fieldLink RX4 35 (TX4 3).1 (TX4 3).2.1 (TX4 3).2.2.1 ∈ wsX4_count := by decide +kernel
theorem iw_X4_count_0 : ∀ w ∈ u_ws RX0 TX0 2, w ∈ wsX4_count := by decide +kernel
theorem fl_X4_count_168 : Cond.fieldLink RX4 168 (TX0 1).1 (TX0 1).2.1 (TX0 1).2.2.1 ∈ wsX4_count := by decide +kernel
set_option maxHeartbeats 400000 in
set_option maxRecDepth 100000 in
theorem c_X4_count (l : Launch) (E : EE) (sz : Nat) (x0 t0 s0 p0 g0 xS xV sP sD sS sL sF q1 q2 q3 q4 : Nat) (n k : Nat) (pC pN gS : Nat) (pc pr pl hc pb pd : Int32) (ds : Nat) (w : Int32) (le en po dS : Nat → Int32) (gn : n ≤ 16) (gk : k ≤ 30) (gd1 : 1 ≤ ds) (gds : ds ≤ 16) : Ci l yX4_count wsX4_count 4 94 E [.ref x0, .int w] [(x0, .inr (4, [.ref t0, .ref s0, .ref p0, .ref g0, .ref xS, .ref xV])), (t0, .inr (3, [.int (nI n), .int (nI k), .ref q1, .ref q2, .ref q3, .ref q4])), (s0, .inr (2, [.ref t0, .ref sP, .ref sD, .ref sS, .ref sL, .ref sF, .int pc, .int (nI ds), .int pr])), (q3, aI E 30 le), (q4, aI E 30 en), (sP, aI E 16 po), (sS, aI E 16 dS), (p0, .inr (1, [.ref pC, .int pl, .ref pN, .int pb, .int pd])), (g0, .inr (0, [.ref gS, .int hc]))] sz (swl w [nI n, nI k, pc, nI (popc pr), nI (pSq (mPr en po k n) n), nI ds, nI (lgD (dLn en le dS k) ds).1, lnO le (allR (nI k)) k, pl, hc] 0) [(x0, .inr (4, [.ref t0, .ref s0, .ref p0, .ref g0, .ref xS, .ref xV])), (t0, .inr (3, [.int (nI n), .int (nI k), .ref q1, .ref q2, .ref q3, .ref q4])), (s0, .inr (2, [.ref t0, .ref sP, .ref sD, .ref sS, .ref sL, .ref sF, .int pc, .int (nI ds), .int pr])), (q3, aI E 30 le), (q4, aI E 30 en), (sP, aI E 16 po), (sS, aI E 16 dS), (p0, .inr (1, [.ref pC, .int pl, .ref pN, .int pb, .int pd])), (g0, .inr (0, [.ref gS, .int hc]))] := by
  refine C_of (QQ := QI E (swl w [nI n, nI k, pc, nI (popc pr), nI (pSq (mPr en po k n) n), nI ds, nI (lgD (dLn en le dS k) ds).1, lnO le (allR (nI k)) k, pl, hc] 0) [(x0, .inr (4, [.ref t0, .ref s0, .ref p0, .ref g0, .ref xS, .ref xV])), (t0, .inr (3, [.int (nI n), .int (nI k), .ref q1, .ref q2, .ref q3, .ref q4])), (s0, .inr (2, [.ref t0, .ref sP, .ref sD, .ref sS, .ref sL, .ref sF, .int pc, .int (nI ds), .int pr])), (q3, aI E 30 le), (q4, aI E 30 en), (sP, aI E 16 po), (sS, aI E 16 dS), (p0, .inr (1, [.ref pC, .int pl, .ref pN, .int pb, .int pd])), (g0, .inr (0, [.ref gS, .int hc]))]) (cc := cX4_count) (maxL := 2) (ret := (some .int)) (by decide +kernel) rfl (Nat.le_of_ble_eq_true rfl) ?_
  intro p e s m args below meth c A R Q ls hx hb hr hts hown hml hlocks hA hK hN hP hD hS hl hR hQ
  have hown : s.vm.findClass RX4 = some m.cls := hown
  have hl : lv_has ls 2 [(0, .ref x0), (1, .int w)] := hl
  refine lv_iload_n hx hb dX4_count_0 rfl (lv_at hl 1 rfl) ?_
  by_cases w1_0 : w = nI 0
  · subst w1_0
    refine lv_tableIn (tgt := 56) hx hb dX4_count_1 (by decide) (by decide) rfl (by decide) ?_
    refine lv_aload_n hx hb dX4_count_56 rfl (lv_at hl 0 rfl) ?_
    refine rk_get (ci := 4) (C := RX4) (T := TX4) (N := 6) hx hb hts iw_X4_count_4 hown hK hP 0 rfl rfl 0 (by decide) fl_X4_count_10 rfl (v := .ref t0) rfl dX4_count_57 ?_
    refine rk_get (ci := 3) (C := RX3) (T := TX3) (N := 6) hx hb hts iw_X4_count_3 hown hK hP 1 rfl rfl 0 (by decide) fl_X4_count_51 rfl (v := .int (nI n)) rfl dX4_count_60 ?_
    exact ret_i hQ hx hb hr hlocks (hP.sub [0, 1, 2, 3, 4, 5, 6, 7, 8] rfl) (hD.sub [0, 1, 2, 3, 4, 5, 6, 7, 8] (by decide) rfl) hS dX4_count_63 (by rw [swl_0 (by decide)])
  by_cases w1_1 : w = nI 1
  · subst w1_1
    refine lv_tableIn (tgt := 64) hx hb dX4_count_1 (by decide) (by decide) rfl (by decide) ?_
    refine lv_aload_n hx hb dX4_count_64 rfl (lv_at hl 0 rfl) ?_
    refine rk_get (ci := 4) (C := RX4) (T := TX4) (N := 6) hx hb hts iw_X4_count_4 hown hK hP 0 rfl rfl 0 (by decide) fl_X4_count_10 rfl (v := .ref t0) rfl dX4_count_65 ?_
    refine rk_get (ci := 3) (C := RX3) (T := TX3) (N := 6) hx hb hts iw_X4_count_3 hown hK hP 1 rfl rfl 1 (by decide) fl_X4_count_64 rfl (v := .int (nI k)) rfl dX4_count_68 ?_
    exact ret_i hQ hx hb hr hlocks (hP.sub [0, 1, 2, 3, 4, 5, 6, 7, 8] rfl) (hD.sub [0, 1, 2, 3, 4, 5, 6, 7, 8] (by decide) rfl) hS dX4_count_71 (by rw [swl_s (by decide), swl_0 (by decide)])
  by_cases w1_2 : w = nI 2
  · subst w1_2
    refine lv_tableIn (tgt := 72) hx hb dX4_count_1 (by decide) (by decide) rfl (by decide) ?_
    refine lv_aload_n hx hb dX4_count_72 rfl (lv_at hl 0 rfl) ?_
    refine rk_get (ci := 4) (C := RX4) (T := TX4) (N := 6) hx hb hts iw_X4_count_4 hown hK hP 0 rfl rfl 1 (by decide) fl_X4_count_21 rfl (v := .ref s0) rfl dX4_count_73 ?_
    refine rk_get (ci := 2) (C := RX2) (T := TX2) (N := 9) hx hb hts iw_X4_count_2 hown hK hP 2 rfl rfl 6 (by decide) fl_X4_count_71 rfl (v := .int pc) rfl dX4_count_76 ?_
    exact ret_i hQ hx hb hr hlocks (hP.sub [0, 1, 2, 3, 4, 5, 6, 7, 8] rfl) (hD.sub [0, 1, 2, 3, 4, 5, 6, 7, 8] (by decide) rfl) hS dX4_count_79 (by rw [swl_s (by decide), swl_s (by decide), swl_0 (by decide)])
  by_cases w1_3 : w = nI 3
  · subst w1_3
    refine lv_tableIn (tgt := 80) hx hb dX4_count_1 (by decide) (by decide) rfl (by decide) ?_
    refine lv_aload_n hx hb dX4_count_80 rfl (lv_at hl 0 rfl) ?_
    refine rk_get (ci := 4) (C := RX4) (T := TX4) (N := 6) hx hb hts iw_X4_count_4 hown hK hP 0 rfl rfl 1 (by decide) fl_X4_count_21 rfl (v := .ref s0) rfl dX4_count_81 ?_
    refine rk_get (ci := 2) (C := RX2) (T := TX2) (N := 9) hx hb hts iw_X4_count_2 hown hK hP 2 rfl rfl 8 (by decide) fl_X4_count_114 rfl (v := .int pr) rfl dX4_count_84 ?_
    refine kS_i (E := E) (As := [.int pr]) (rest := []) (wr := [(x0, .inr (4, [.ref t0, .ref s0, .ref p0, .ref g0, .ref xS, .ref xV])), (t0, .inr (3, [.int (nI n), .int (nI k), .ref q1, .ref q2, .ref q3, .ref q4])), (s0, .inr (2, [.ref t0, .ref sP, .ref sD, .ref sS, .ref sL, .ref sF, .int pc, .int (nI ds), .int pr])), (q3, aI E 30 le), (q4, aI E 30 en), (sP, aI E 16 po), (sS, aI E 16 dS), (p0, .inr (1, [.ref pC, .int pl, .ref pN, .int pb, .int pd])), (g0, .inr (0, [.ref gS, .int hc]))]) ⟨hx, hb, hml, hown, hts⟩ (c_J6_bitCount_0f7a4 (l := l) (E := E) (sz := _) (x := pr)) ⟨callB_of 1 hts ggX4_count_J6_bitCount_0f7a4 rfl rfl rfl (hts _ inJ6_X4_count) (hts _ ml130_X4_count) (by decide +kernel) ⟨by rw [hR]; decide, by rw [hR]; decide⟩, hts _ stJ6_X4_count⟩ hK hN hP hD hS hA [] [0, 1, 2, 3, 4, 5, 6, 7, 8] rfl (by decide) rfl (by decide) (by decide) rfl hl.1 rfl (Nat.le_of_ble_eq_true rfl) dX4_count_87 ⟨Nat.zero_le _, Nat.zero_le _⟩ (fun H locs hP hD hS => ?_)
    have hP : va_P E.1 vwCl [(x0, .inr (4, [.ref t0, .ref s0, .ref p0, .ref g0, .ref xS, .ref xV])), (t0, .inr (3, [.int (nI n), .int (nI k), .ref q1, .ref q2, .ref q3, .ref q4])), (s0, .inr (2, [.ref t0, .ref sP, .ref sD, .ref sS, .ref sL, .ref sF, .int pc, .int (nI ds), .int pr])), (q3, aI E 30 le), (q4, aI E 30 en), (sP, aI E 16 po), (sS, aI E 16 dS), (p0, .inr (1, [.ref pC, .int pl, .ref pN, .int pb, .int pd])), (g0, .inr (0, [.ref gS, .int hc]))] H := hP
    have hD : va_D A [(x0, .inr (4, [.ref t0, .ref s0, .ref p0, .ref g0, .ref xS, .ref xV])), (t0, .inr (3, [.int (nI n), .int (nI k), .ref q1, .ref q2, .ref q3, .ref q4])), (s0, .inr (2, [.ref t0, .ref sP, .ref sD, .ref sS, .ref sL, .ref sF, .int pc, .int (nI ds), .int pr])), (q3, aI E 30 le), (q4, aI E 30 en), (sP, aI E 16 po), (sS, aI E 16 dS), (p0, .inr (1, [.ref pC, .int pl, .ref pN, .int pb, .int pd])), (g0, .inr (0, [.ref gS, .int hc]))] := hD
    exact ret_i hQ hx hb hr hlocks (hP.sub [0, 1, 2, 3, 4, 5, 6, 7, 8] rfl) (hD.sub [0, 1, 2, 3, 4, 5, 6, 7, 8] (by decide) rfl) hS dX4_count_90 (by rw [swl_s (by decide), swl_s (by decide), swl_s (by decide), swl_0 (by decide)])
  by_cases w1_4 : w = nI 4
  · subst w1_4
    refine lv_tableIn (tgt := 91) hx hb dX4_count_1 (by decide) (by decide) rfl (by decide) ?_
    refine lv_aload_n hx hb dX4_count_91 rfl (lv_at hl 0 rfl) ?_
    refine rk_get (ci := 4) (C := RX4) (T := TX4) (N := 6) hx hb hts iw_X4_count_4 hown hK hP 0 rfl rfl 1 (by decide) fl_X4_count_21 rfl (v := .ref s0) rfl dX4_count_92 ?_
    refine kV_i (E := E) (As := []) (rest := []) (wr := [(x0, .inr (4, [.ref t0, .ref s0, .ref p0, .ref g0, .ref xS, .ref xV])), (q3, aI E 30 le), (sS, aI E 16 dS), (p0, .inr (1, [.ref pC, .int pl, .ref pN, .int pb, .int pd])), (g0, .inr (0, [.ref gS, .int hc]))]) ⟨hx, hb, hml, hown, hts⟩ (c_X2_partingSquares (l := l) (E := E) (sz := _) (s0 := s0) (t0 := t0) (sP := sP) (sD := sD) (sS := sS) (sL := sL) (sF := sF) (q1 := q1) (q2 := q2) (q3 := q3) (q4 := q4) (k := k) (n := n) (pc := pc) (ds := nI ds) (pr := pr) (po := po) (en := en) (gk := by first | assumption | omega) (gn := by first | assumption | omega)) (cwV 0 hts gX4_count_X2_partingSquares rfl rfl rfl (by decide +kernel) ⟨by rw [hR]; decide, by rw [hR]; decide⟩) hK hN hP hD hS hA [2, 1, 5, 4] [0, 3, 6, 7, 8] rfl (by decide) rfl (by decide) (by decide) 2 2 rfl rfl rfl hl.1 rfl (Nat.le_of_ble_eq_true rfl) dX4_count_95 ⟨Nat.zero_le _, Nat.zero_le _⟩ (fun H locs hP hD hS => ?_)
    have hP : va_P E.1 vwCl [(x0, .inr (4, [.ref t0, .ref s0, .ref p0, .ref g0, .ref xS, .ref xV])), (q3, aI E 30 le), (sS, aI E 16 dS), (p0, .inr (1, [.ref pC, .int pl, .ref pN, .int pb, .int pd])), (g0, .inr (0, [.ref gS, .int hc])), (s0, .inr (2, [.ref t0, .ref sP, .ref sD, .ref sS, .ref sL, .ref sF, .int pc, .int (nI ds), .int pr])), (t0, .inr (3, [.int (nI n), .int (nI k), .ref q1, .ref q2, .ref q3, .ref q4])), (sP, aI E 16 po), (q4, aI E 30 en)] H := hP
    have hD : va_D A [(x0, .inr (4, [.ref t0, .ref s0, .ref p0, .ref g0, .ref xS, .ref xV])), (q3, aI E 30 le), (sS, aI E 16 dS), (p0, .inr (1, [.ref pC, .int pl, .ref pN, .int pb, .int pd])), (g0, .inr (0, [.ref gS, .int hc])), (s0, .inr (2, [.ref t0, .ref sP, .ref sD, .ref sS, .ref sL, .ref sF, .int pc, .int (nI ds), .int pr])), (t0, .inr (3, [.int (nI n), .int (nI k), .ref q1, .ref q2, .ref q3, .ref q4])), (sP, aI E 16 po), (q4, aI E 30 en)] := hD
    exact ret_i hQ hx hb hr hlocks (hP.sub [0, 6, 5, 1, 8, 7, 2, 3, 4] rfl) (hD.sub [0, 6, 5, 1, 8, 7, 2, 3, 4] (by decide) rfl) hS dX4_count_98 (by rw [swl_s (by decide), swl_s (by decide), swl_s (by decide), swl_s (by decide), swl_0 (by decide)])
  by_cases w1_5 : w = nI 5
  · subst w1_5
    refine lv_tableIn (tgt := 99) hx hb dX4_count_1 (by decide) (by decide) rfl (by decide) ?_
    refine lv_aload_n hx hb dX4_count_99 rfl (lv_at hl 0 rfl) ?_
    refine rk_get (ci := 4) (C := RX4) (T := TX4) (N := 6) hx hb hts iw_X4_count_4 hown hK hP 0 rfl rfl 1 (by decide) fl_X4_count_21 rfl (v := .ref s0) rfl dX4_count_100 ?_
    refine rk_get (ci := 2) (C := RX2) (T := TX2) (N := 9) hx hb hts iw_X4_count_2 hown hK hP 2 rfl rfl 7 (by decide) fl_X4_count_144 rfl (v := .int (nI ds)) rfl dX4_count_103 ?_
    exact ret_i hQ hx hb hr hlocks (hP.sub [0, 1, 2, 3, 4, 5, 6, 7, 8] rfl) (hD.sub [0, 1, 2, 3, 4, 5, 6, 7, 8] (by decide) rfl) hS dX4_count_106 (by rw [swl_s (by decide), swl_s (by decide), swl_s (by decide), swl_s (by decide), swl_s (by decide), swl_0 (by decide)])
  by_cases w1_6 : w = nI 6
  · subst w1_6
    refine lv_tableIn (tgt := 107) hx hb dX4_count_1 (by decide) (by decide) rfl (by decide) ?_
    refine lv_aload_n hx hb dX4_count_107 rfl (lv_at hl 0 rfl) ?_
    refine rk_get (ci := 4) (C := RX4) (T := TX4) (N := 6) hx hb hts iw_X4_count_4 hown hK hP 0 rfl rfl 1 (by decide) fl_X4_count_21 rfl (v := .ref s0) rfl dX4_count_108 ?_
    refine kV_i (E := E) (As := []) (rest := []) (wr := [(x0, .inr (4, [.ref t0, .ref s0, .ref p0, .ref g0, .ref xS, .ref xV])), (sP, aI E 16 po), (p0, .inr (1, [.ref pC, .int pl, .ref pN, .int pb, .int pd])), (g0, .inr (0, [.ref gS, .int hc]))]) ⟨hx, hb, hml, hown, hts⟩ (c_X2_longestDistrict (l := l) (E := E) (sz := _) (s0 := s0) (t0 := t0) (sP := sP) (sD := sD) (sS := sS) (sL := sL) (sF := sF) (q1 := q1) (q2 := q2) (q3 := q3) (q4 := q4) (sc := nI n) (k := k) (ds := ds) (pc := pc) (pr := pr) (dS := dS) (le := le) (en := en) (gk := by first | assumption | omega) (gd1 := by first | assumption | omega) (gd := by first | assumption | omega)) (cwV 0 hts gX4_count_X2_longestDistrict rfl rfl rfl (by decide +kernel) ⟨by rw [hR]; decide, by rw [hR]; decide⟩) hK hN hP hD hS hA [2, 1, 6, 3, 4] [0, 5, 7, 8] rfl (by decide) rfl (by decide) (by decide) 2 2 rfl rfl rfl hl.1 rfl (Nat.le_of_ble_eq_true rfl) dX4_count_111 ⟨Nat.zero_le _, Nat.zero_le _⟩ (fun H locs hP hD hS => ?_)
    have hP : va_P E.1 vwCl [(x0, .inr (4, [.ref t0, .ref s0, .ref p0, .ref g0, .ref xS, .ref xV])), (sP, aI E 16 po), (p0, .inr (1, [.ref pC, .int pl, .ref pN, .int pb, .int pd])), (g0, .inr (0, [.ref gS, .int hc])), (s0, .inr (2, [.ref t0, .ref sP, .ref sD, .ref sS, .ref sL, .ref sF, .int pc, .int (nI ds), .int pr])), (t0, .inr (3, [.int (nI n), .int (nI k), .ref q1, .ref q2, .ref q3, .ref q4])), (sS, aI E 16 dS), (q3, aI E 30 le), (q4, aI E 30 en)] H := hP
    have hD : va_D A [(x0, .inr (4, [.ref t0, .ref s0, .ref p0, .ref g0, .ref xS, .ref xV])), (sP, aI E 16 po), (p0, .inr (1, [.ref pC, .int pl, .ref pN, .int pb, .int pd])), (g0, .inr (0, [.ref gS, .int hc])), (s0, .inr (2, [.ref t0, .ref sP, .ref sD, .ref sS, .ref sL, .ref sF, .int pc, .int (nI ds), .int pr])), (t0, .inr (3, [.int (nI n), .int (nI k), .ref q1, .ref q2, .ref q3, .ref q4])), (sS, aI E 16 dS), (q3, aI E 30 le), (q4, aI E 30 en)] := hD
    exact ret_i hQ hx hb hr hlocks (hP.sub [0, 5, 4, 7, 8, 1, 6, 2, 3] rfl) (hD.sub [0, 5, 4, 7, 8, 1, 6, 2, 3] (by decide) rfl) hS dX4_count_114 (by rw [swl_s (by decide), swl_s (by decide), swl_s (by decide), swl_s (by decide), swl_s (by decide), swl_s (by decide), swl_0 (by decide)])
  by_cases w1_7 : w = nI 7
  · subst w1_7
    refine lv_tableIn (tgt := 115) hx hb dX4_count_1 (by decide) (by decide) rfl (by decide) ?_
    refine lv_aload_n hx hb dX4_count_115 rfl (lv_at hl 0 rfl) ?_
    refine rk_get (ci := 4) (C := RX4) (T := TX4) (N := 6) hx hb hts iw_X4_count_4 hown hK hP 0 rfl rfl 0 (by decide) fl_X4_count_10 rfl (v := .ref t0) rfl dX4_count_116 ?_
    refine lv_aload_n hx hb dX4_count_119 rfl (lv_at hl 0 rfl) ?_
    refine rk_get (ci := 4) (C := RX4) (T := TX4) (N := 6) hx hb hts iw_X4_count_4 hown hK hP 0 rfl rfl 0 (by decide) fl_X4_count_10 rfl (v := .ref t0) rfl dX4_count_120 ?_
    refine kV_i (E := E) (As := []) (rest := [.ref t0]) (wr := [(x0, .inr (4, [.ref t0, .ref s0, .ref p0, .ref g0, .ref xS, .ref xV])), (s0, .inr (2, [.ref t0, .ref sP, .ref sD, .ref sS, .ref sL, .ref sF, .int pc, .int (nI ds), .int pr])), (q3, aI E 30 le), (q4, aI E 30 en), (sP, aI E 16 po), (sS, aI E 16 dS), (p0, .inr (1, [.ref pC, .int pl, .ref pN, .int pb, .int pd])), (g0, .inr (0, [.ref gS, .int hc]))]) ⟨hx, hb, hml, hown, hts⟩ (c_X3_allRoads (l := l) (E := E) (sz := _) (h0 := t0) (sc := nI n) (f1 := nI k) (q1 := q1) (q2 := q2) (q3 := q3) (q4 := q4) ) (cwV 0 hts gX4_count_X3_allRoads rfl rfl rfl (by decide +kernel) ⟨by rw [hR]; decide, by rw [hR]; decide⟩) hK hN hP hD hS hA [1] [0, 2, 3, 4, 5, 6, 7, 8] rfl (by decide) rfl (by decide) (by decide) 1 3 rfl rfl rfl hl.1 rfl (Nat.le_of_ble_eq_true rfl) dX4_count_123 ⟨Nat.zero_le _, Nat.zero_le _⟩ (fun H locs hP hD hS => ?_)
    have hP : va_P E.1 vwCl [(x0, .inr (4, [.ref t0, .ref s0, .ref p0, .ref g0, .ref xS, .ref xV])), (s0, .inr (2, [.ref t0, .ref sP, .ref sD, .ref sS, .ref sL, .ref sF, .int pc, .int (nI ds), .int pr])), (q3, aI E 30 le), (q4, aI E 30 en), (sP, aI E 16 po), (sS, aI E 16 dS), (p0, .inr (1, [.ref pC, .int pl, .ref pN, .int pb, .int pd])), (g0, .inr (0, [.ref gS, .int hc])), (t0, .inr (3, [.int (nI n), .int (nI k), .ref q1, .ref q2, .ref q3, .ref q4]))] H := hP
    have hD : va_D A [(x0, .inr (4, [.ref t0, .ref s0, .ref p0, .ref g0, .ref xS, .ref xV])), (s0, .inr (2, [.ref t0, .ref sP, .ref sD, .ref sS, .ref sL, .ref sF, .int pc, .int (nI ds), .int pr])), (q3, aI E 30 le), (q4, aI E 30 en), (sP, aI E 16 po), (sS, aI E 16 dS), (p0, .inr (1, [.ref pC, .int pl, .ref pN, .int pb, .int pd])), (g0, .inr (0, [.ref gS, .int hc])), (t0, .inr (3, [.int (nI n), .int (nI k), .ref q1, .ref q2, .ref q3, .ref q4]))] := hD
    refine kV_i (E := E) (As := [.int (allR (nI k))]) (rest := []) (wr := [(x0, .inr (4, [.ref t0, .ref s0, .ref p0, .ref g0, .ref xS, .ref xV])), (s0, .inr (2, [.ref t0, .ref sP, .ref sD, .ref sS, .ref sL, .ref sF, .int pc, .int (nI ds), .int pr])), (q4, aI E 30 en), (sP, aI E 16 po), (sS, aI E 16 dS), (p0, .inr (1, [.ref pC, .int pl, .ref pN, .int pb, .int pd])), (g0, .inr (0, [.ref gS, .int hc]))]) ⟨hx, hb, hml, hown, hts⟩ (c_X3_lengthOf (l := l) (E := E) (sz := _) (h0 := t0) (q1 := q1) (q2 := q2) (q3 := q3) (q4 := q4) (sc := nI n) (k := k) (le := le) (x := allR (nI k)) (hk := by first | assumption | omega)) (cwV 1 hts gX4_count_X3_lengthOf rfl rfl rfl (by decide +kernel) ⟨by rw [hR]; decide, by rw [hR]; decide⟩) hK hN hP hD hS hA [8, 2] [0, 1, 3, 4, 5, 6, 7] rfl (by decide) rfl (by decide) (by decide) 8 3 rfl rfl rfl hl.1 rfl (Nat.le_of_ble_eq_true rfl) dX4_count_126 ⟨Nat.zero_le _, Nat.zero_le _⟩ (fun H locs hP hD hS => ?_)
    have hP : va_P E.1 vwCl [(x0, .inr (4, [.ref t0, .ref s0, .ref p0, .ref g0, .ref xS, .ref xV])), (s0, .inr (2, [.ref t0, .ref sP, .ref sD, .ref sS, .ref sL, .ref sF, .int pc, .int (nI ds), .int pr])), (q4, aI E 30 en), (sP, aI E 16 po), (sS, aI E 16 dS), (p0, .inr (1, [.ref pC, .int pl, .ref pN, .int pb, .int pd])), (g0, .inr (0, [.ref gS, .int hc])), (t0, .inr (3, [.int (nI n), .int (nI k), .ref q1, .ref q2, .ref q3, .ref q4])), (q3, aI E 30 le)] H := hP
    have hD : va_D A [(x0, .inr (4, [.ref t0, .ref s0, .ref p0, .ref g0, .ref xS, .ref xV])), (s0, .inr (2, [.ref t0, .ref sP, .ref sD, .ref sS, .ref sL, .ref sF, .int pc, .int (nI ds), .int pr])), (q4, aI E 30 en), (sP, aI E 16 po), (sS, aI E 16 dS), (p0, .inr (1, [.ref pC, .int pl, .ref pN, .int pb, .int pd])), (g0, .inr (0, [.ref gS, .int hc])), (t0, .inr (3, [.int (nI n), .int (nI k), .ref q1, .ref q2, .ref q3, .ref q4])), (q3, aI E 30 le)] := hD
    exact ret_i hQ hx hb hr hlocks (hP.sub [0, 7, 1, 8, 2, 3, 4, 5, 6] rfl) (hD.sub [0, 7, 1, 8, 2, 3, 4, 5, 6] (by decide) rfl) hS dX4_count_129 (by rw [swl_s (by decide), swl_s (by decide), swl_s (by decide), swl_s (by decide), swl_s (by decide), swl_s (by decide), swl_s (by decide), swl_0 (by decide)])
  by_cases w1_8 : w = nI 8
  · subst w1_8
    refine lv_tableIn (tgt := 130) hx hb dX4_count_1 (by decide) (by decide) rfl (by decide) ?_
    refine lv_aload_n hx hb dX4_count_130 rfl (lv_at hl 0 rfl) ?_
    refine rk_get (ci := 4) (C := RX4) (T := TX4) (N := 6) hx hb hts iw_X4_count_4 hown hK hP 0 rfl rfl 2 (by decide) fl_X4_count_28 rfl (v := .ref p0) rfl dX4_count_131 ?_
    refine rk_get (ci := 1) (C := RX1) (T := TX1) (N := 5) hx hb hts iw_X4_count_1 hown hK hP 7 rfl rfl 1 (by decide) fl_X4_count_101 rfl (v := .int pl) rfl dX4_count_134 ?_
    exact ret_i hQ hx hb hr hlocks (hP.sub [0, 1, 2, 3, 4, 5, 6, 7, 8] rfl) (hD.sub [0, 1, 2, 3, 4, 5, 6, 7, 8] (by decide) rfl) hS dX4_count_137 (by rw [swl_s (by decide), swl_s (by decide), swl_s (by decide), swl_s (by decide), swl_s (by decide), swl_s (by decide), swl_s (by decide), swl_s (by decide), swl_0 (by decide)])
  by_cases w1_9 : w = nI 9
  · subst w1_9
    refine lv_tableIn (tgt := 138) hx hb dX4_count_1 (by decide) (by decide) rfl (by decide) ?_
    refine lv_aload_n hx hb dX4_count_138 rfl (lv_at hl 0 rfl) ?_
    refine rk_get (ci := 4) (C := RX4) (T := TX4) (N := 6) hx hb hts iw_X4_count_4 hown hK hP 0 rfl rfl 3 (by decide) fl_X4_count_35 rfl (v := .ref g0) rfl dX4_count_139 ?_
    refine rk_get (ci := 0) (C := RX0) (T := TX0) (N := 2) hx hb hts iw_X4_count_0 hown hK hP 8 rfl rfl 1 (by decide) fl_X4_count_168 rfl (v := .int hc) rfl dX4_count_142 ?_
    exact ret_i hQ hx hb hr hlocks (hP.sub [0, 1, 2, 3, 4, 5, 6, 7, 8] rfl) (hD.sub [0, 1, 2, 3, 4, 5, 6, 7, 8] (by decide) rfl) hS dX4_count_145 (by rw [swl_s (by decide), swl_s (by decide), swl_s (by decide), swl_s (by decide), swl_s (by decide), swl_s (by decide), swl_s (by decide), swl_s (by decide), swl_s (by decide), swl_0 (by decide)])
  refine lv_tableOut (tgt := 146) hx hb dX4_count_1 (tsw_out (N := 9) (by decide) (fun j hj => by rcases (show j = 0 ∨ j = 1 ∨ j = 2 ∨ j = 3 ∨ j = 4 ∨ j = 5 ∨ j = 6 ∨ j = 7 ∨ j = 8 ∨ j = 9 by omega) with rfl | rfl | rfl | rfl | rfl | rfl | rfl | rfl | rfl | rfl <;> assumption)) (by decide) ?_
  refine lv_bipush (v := (-2)) hx hb dX4_count_146 (by decide) ?_
  exact ret_i hQ hx hb hr hlocks (hP.sub [0, 1, 2, 3, 4, 5, 6, 7, 8] rfl) (hD.sub [0, 1, 2, 3, 4, 5, 6, 7, 8] (by decide) rfl) hS dX4_count_148 (by simp only [swl]; rw [if_neg w1_0, if_neg w1_1, if_neg w1_2, if_neg w1_3, if_neg w1_4, if_neg w1_5, if_neg w1_6, if_neg w1_7, if_neg w1_8, if_neg w1_9])
theorem iw_X4_way_4 : ∀ w ∈ u_ws RX4 TX4 6, w ∈ wsX4_way := by decide +kernel
theorem fl_X4_way_10 : Cond.fieldLink RX4 10 (TX4 0).1 (TX4 0).2.1 (TX4 0).2.2.1 ∈ wsX4_way := by decide +kernel
set_option maxHeartbeats 400000 in
set_option maxRecDepth 100000 in
theorem c_X4_way_bad (l : Launch) (E : EE) (sz : Nat) (x0 t0 s0 p0 g0 xS xV sP sD sS sL sF q1 q2 q3 q4 : Nat) (n k : Nat) (a b w : Int32) (gb : inR a (nI n) = true → inR b (nI n) = false) : Ci l yX4_way wsX4_way 1 21 E [.ref x0, .int a, .int b, .int w] [(x0, .inr (4, [.ref t0, .ref s0, .ref p0, .ref g0, .ref xS, .ref xV])), (t0, .inr (3, [.int (nI n), .int (nI k), .ref q1, .ref q2, .ref q3, .ref q4]))] sz (-1) [(x0, .inr (4, [.ref t0, .ref s0, .ref p0, .ref g0, .ref xS, .ref xV])), (t0, .inr (3, [.int (nI n), .int (nI k), .ref q1, .ref q2, .ref q3, .ref q4]))] := by
  refine C_of (QQ := QI E (-1) [(x0, .inr (4, [.ref t0, .ref s0, .ref p0, .ref g0, .ref xS, .ref xV])), (t0, .inr (3, [.int (nI n), .int (nI k), .ref q1, .ref q2, .ref q3, .ref q4]))]) (cc := cX4_way) (maxL := 5) (ret := (some .int)) (by decide +kernel) rfl (Nat.le_of_ble_eq_true rfl) ?_
  intro p e s m args below meth c A R Q ls hx hb hr hts hown hml hlocks hA hK hN hP hD hS hl hR hQ
  have hown : s.vm.findClass RX4 = some m.cls := hown
  have hl : lv_has ls 5 [(0, .ref x0), (1, .int a), (2, .int b), (3, .int w)] := hl
  refine lv_aload_n hx hb dX4_way_0 rfl (lv_at hl 0 rfl) ?_
  refine rk_get (ci := 4) (C := RX4) (T := TX4) (N := 6) hx hb hts iw_X4_way_4 hown hK hP 0 rfl rfl 0 (by decide) fl_X4_way_10 rfl (v := .ref t0) rfl dX4_way_1 ?_
  refine lv_iload_n hx hb dX4_way_4 rfl (lv_at hl 1 rfl) ?_
  refine kV_i (E := E) (As := [.int a]) (rest := []) (wr := [(x0, .inr (4, [.ref t0, .ref s0, .ref p0, .ref g0, .ref xS, .ref xV]))]) ⟨hx, hb, hml, hown, hts⟩ (c_X3_hasSquare (l := l) (E := E) (sz := _) (h0 := t0) (sc := nI n) (f1 := nI k) (q1 := q1) (q2 := q2) (q3 := q3) (q4 := q4) (x := a) ) (cwV 1 hts gX4_way_X3_hasSquare rfl rfl rfl (by decide +kernel) ⟨by rw [hR]; decide, by rw [hR]; decide⟩) hK hN hP hD hS hA [1] [0] rfl (by decide) rfl (by decide) (by decide) 1 3 rfl rfl rfl hl.1 rfl (Nat.le_of_ble_eq_true rfl) dX4_way_5 ⟨Nat.zero_le _, Nat.zero_le _⟩ (fun H locs hP hD hS => ?_)
  have hP : va_P E.1 vwCl [(x0, .inr (4, [.ref t0, .ref s0, .ref p0, .ref g0, .ref xS, .ref xV])), (t0, .inr (3, [.int (nI n), .int (nI k), .ref q1, .ref q2, .ref q3, .ref q4]))] H := hP
  have hD : va_D A [(x0, .inr (4, [.ref t0, .ref s0, .ref p0, .ref g0, .ref xS, .ref xV])), (t0, .inr (3, [.int (nI n), .int (nI k), .ref q1, .ref q2, .ref q3, .ref q4]))] := hD
  refine rk_if_eqB (tgt := 22) hx hb dX4_way_8 (by decide) (fun zc8 => ?_) (fun zc8 => ?_)
  · refine lv_iconst (v := (-1)) hx hb dX4_way_22 (by decide) ?_
    exact ret_i hQ hx hb hr hlocks (hP.sub [0, 1] rfl) (hD.sub [0, 1] (by decide) rfl) hS dX4_way_23 (rfl)
  · refine lv_aload_n hx hb dX4_way_11 rfl (lv_at hl 0 rfl) ?_
    refine rk_get (ci := 4) (C := RX4) (T := TX4) (N := 6) hx hb hts iw_X4_way_4 hown hK hP 0 rfl rfl 0 (by decide) fl_X4_way_10 rfl (v := .ref t0) rfl dX4_way_12 ?_
    refine lv_iload_n hx hb dX4_way_15 rfl (lv_at hl 2 rfl) ?_
    refine kV_i (E := E) (As := [.int b]) (rest := []) (wr := [(x0, .inr (4, [.ref t0, .ref s0, .ref p0, .ref g0, .ref xS, .ref xV]))]) ⟨hx, hb, hml, hown, hts⟩ (c_X3_hasSquare (l := l) (E := E) (sz := _) (h0 := t0) (sc := nI n) (f1 := nI k) (q1 := q1) (q2 := q2) (q3 := q3) (q4 := q4) (x := b) ) (cwV 1 hts gX4_way_X3_hasSquare rfl rfl rfl (by decide +kernel) ⟨by rw [hR]; decide, by rw [hR]; decide⟩) hK hN hP hD hS hA [1] [0] rfl (by decide) rfl (by decide) (by decide) 1 3 rfl rfl rfl hl.1 rfl (Nat.le_of_ble_eq_true rfl) dX4_way_16 ⟨Nat.zero_le _, Nat.zero_le _⟩ (fun H locs hP hD hS => ?_)
    have hP : va_P E.1 vwCl [(x0, .inr (4, [.ref t0, .ref s0, .ref p0, .ref g0, .ref xS, .ref xV])), (t0, .inr (3, [.int (nI n), .int (nI k), .ref q1, .ref q2, .ref q3, .ref q4]))] H := hP
    have hD : va_D A [(x0, .inr (4, [.ref t0, .ref s0, .ref p0, .ref g0, .ref xS, .ref xV])), (t0, .inr (3, [.int (nI n), .int (nI k), .ref q1, .ref q2, .ref q3, .ref q4]))] := hD
    refine rk_if_neB (tgt := 24) hx hb dX4_way_19 (by decide) (fun q => absurd q (by rw [gb zc8]; decide)) (fun zc19 => ?_)
    refine lv_iconst (v := (-1)) hx hb dX4_way_22 (by decide) ?_
    exact ret_i hQ hx hb hr hlocks (hP.sub [0, 1] rfl) (hD.sub [0, 1] (by decide) rfl) hS dX4_way_23 (rfl)
set_option maxHeartbeats 400000 in
set_option maxRecDepth 100000 in
theorem c_X4_way_val (l : Launch) (E : EE) (sz : Nat) (x0 t0 s0 p0 g0 xS xV sP sD sS sL sF q1 q2 q3 q4 : Nat) (n k : Nat) (x y : Nat) (w : Int32) (gn : n ≤ 16) (gk : k ≤ 30) (gx : x < n) (gy : y < n) (gw : w < 0 ∨ nI 2 < w) : Ci l yX4_way wsX4_way 1 21 E [.ref x0, .int (nI x), .int (nI y), .int w] [(x0, .inr (4, [.ref t0, .ref s0, .ref p0, .ref g0, .ref xS, .ref xV])), (t0, .inr (3, [.int (nI n), .int (nI k), .ref q1, .ref q2, .ref q3, .ref q4]))] sz (-2) [(x0, .inr (4, [.ref t0, .ref s0, .ref p0, .ref g0, .ref xS, .ref xV])), (t0, .inr (3, [.int (nI n), .int (nI k), .ref q1, .ref q2, .ref q3, .ref q4]))] := by
  refine C_of (QQ := QI E (-2) [(x0, .inr (4, [.ref t0, .ref s0, .ref p0, .ref g0, .ref xS, .ref xV])), (t0, .inr (3, [.int (nI n), .int (nI k), .ref q1, .ref q2, .ref q3, .ref q4]))]) (cc := cX4_way) (maxL := 5) (ret := (some .int)) (by decide +kernel) rfl (Nat.le_of_ble_eq_true rfl) ?_
  intro p e s m args below meth c A R Q ls hx hb hr hts hown hml hlocks hA hK hN hP hD hS hl hR hQ
  have hown : s.vm.findClass RX4 = some m.cls := hown
  have hl : lv_has ls 5 [(0, .ref x0), (1, .int (nI x)), (2, .int (nI y)), (3, .int w)] := hl
  refine lv_aload_n hx hb dX4_way_0 rfl (lv_at hl 0 rfl) ?_
  refine rk_get (ci := 4) (C := RX4) (T := TX4) (N := 6) hx hb hts iw_X4_way_4 hown hK hP 0 rfl rfl 0 (by decide) fl_X4_way_10 rfl (v := .ref t0) rfl dX4_way_1 ?_
  refine lv_iload_n hx hb dX4_way_4 rfl (lv_at hl 1 rfl) ?_
  refine kV_i (E := E) (As := [.int (nI x)]) (rest := []) (wr := [(x0, .inr (4, [.ref t0, .ref s0, .ref p0, .ref g0, .ref xS, .ref xV]))]) ⟨hx, hb, hml, hown, hts⟩ (c_X3_hasSquare (l := l) (E := E) (sz := _) (h0 := t0) (sc := nI n) (f1 := nI k) (q1 := q1) (q2 := q2) (q3 := q3) (q4 := q4) (x := nI x) ) (cwV 1 hts gX4_way_X3_hasSquare rfl rfl rfl (by decide +kernel) ⟨by rw [hR]; decide, by rw [hR]; decide⟩) hK hN hP hD hS hA [1] [0] rfl (by decide) rfl (by decide) (by decide) 1 3 rfl rfl rfl hl.1 rfl (Nat.le_of_ble_eq_true rfl) dX4_way_5 ⟨Nat.zero_le _, Nat.zero_le _⟩ (fun H locs hP hD hS => ?_)
  have hP : va_P E.1 vwCl [(x0, .inr (4, [.ref t0, .ref s0, .ref p0, .ref g0, .ref xS, .ref xV])), (t0, .inr (3, [.int (nI n), .int (nI k), .ref q1, .ref q2, .ref q3, .ref q4]))] H := hP
  have hD : va_D A [(x0, .inr (4, [.ref t0, .ref s0, .ref p0, .ref g0, .ref xS, .ref xV])), (t0, .inr (3, [.int (nI n), .int (nI k), .ref q1, .ref q2, .ref q3, .ref q4]))] := hD
  refine rk_if_eqB (tgt := 22) hx hb dX4_way_8 (by decide) (fun q => absurd q (by rw [inR_ok gx (by omega)]; decide)) (fun zc8 => ?_)
  refine lv_aload_n hx hb dX4_way_11 rfl (lv_at hl 0 rfl) ?_
  refine rk_get (ci := 4) (C := RX4) (T := TX4) (N := 6) hx hb hts iw_X4_way_4 hown hK hP 0 rfl rfl 0 (by decide) fl_X4_way_10 rfl (v := .ref t0) rfl dX4_way_12 ?_
  refine lv_iload_n hx hb dX4_way_15 rfl (lv_at hl 2 rfl) ?_
  refine kV_i (E := E) (As := [.int (nI y)]) (rest := []) (wr := [(x0, .inr (4, [.ref t0, .ref s0, .ref p0, .ref g0, .ref xS, .ref xV]))]) ⟨hx, hb, hml, hown, hts⟩ (c_X3_hasSquare (l := l) (E := E) (sz := _) (h0 := t0) (sc := nI n) (f1 := nI k) (q1 := q1) (q2 := q2) (q3 := q3) (q4 := q4) (x := nI y) ) (cwV 1 hts gX4_way_X3_hasSquare rfl rfl rfl (by decide +kernel) ⟨by rw [hR]; decide, by rw [hR]; decide⟩) hK hN hP hD hS hA [1] [0] rfl (by decide) rfl (by decide) (by decide) 1 3 rfl rfl rfl hl.1 rfl (Nat.le_of_ble_eq_true rfl) dX4_way_16 ⟨Nat.zero_le _, Nat.zero_le _⟩ (fun H locs hP hD hS => ?_)
  have hP : va_P E.1 vwCl [(x0, .inr (4, [.ref t0, .ref s0, .ref p0, .ref g0, .ref xS, .ref xV])), (t0, .inr (3, [.int (nI n), .int (nI k), .ref q1, .ref q2, .ref q3, .ref q4]))] H := hP
  have hD : va_D A [(x0, .inr (4, [.ref t0, .ref s0, .ref p0, .ref g0, .ref xS, .ref xV])), (t0, .inr (3, [.int (nI n), .int (nI k), .ref q1, .ref q2, .ref q3, .ref q4]))] := hD
  refine rk_if_neB (tgt := 24) hx hb dX4_way_19 (by decide) (fun zc19 => ?_) (fun q => absurd q (by rw [inR_ok gy (by omega)]; decide))
  refine lv_iload_n hx hb dX4_way_24 rfl (lv_at hl 3 rfl) ?_
  refine lv_if_lt (tgt := 33) hx hb dX4_way_25 (by decide) (fun zc25 => ?_) (fun zc25 => ?_)
  · refine lv_bipush (v := (-2)) hx hb dX4_way_33 (by decide) ?_
    exact ret_i hQ hx hb hr hlocks (hP.sub [0, 1] rfl) (hD.sub [0, 1] (by decide) rfl) hS dX4_way_35 (rfl)
  · refine lv_iload_n hx hb dX4_way_28 rfl (lv_at hl 3 rfl) ?_
    refine lv_iconst (v := nI 2) hx hb dX4_way_29 (by decide) ?_
    refine lv_icmp_le (tgt := 36) hx hb dX4_way_30 (by decide) (fun q => absurd gw (fun z => z.elim zc25 (fun y => absurd q (Int32.not_le.mpr y)))) (fun zc30 => ?_)
    refine lv_bipush (v := (-2)) hx hb dX4_way_33 (by decide) ?_
    exact ret_i hQ hx hb hr hlocks (hP.sub [0, 1] rfl) (hD.sub [0, 1] (by decide) rfl) hS dX4_way_35 (rfl)
theorem fl_X4_way_21 : Cond.fieldLink RX4 21 (TX4 1).1 (TX4 1).2.1 (TX4 1).2.2.1 ∈ wsX4_way := by decide +kernel
set_option maxHeartbeats 400000 in
set_option maxRecDepth 100000 in
theorem c_X4_way_none (l : Launch) (E : EE) (sz : Nat) (x0 t0 s0 p0 g0 xS xV sP sD sS sL sF q1 q2 q3 q4 : Nat) (n k : Nat) (pc ds pr : Int32) (x y : Nat) (w : Int32) (po : Nat → Int32) (gn : n ≤ 16) (gk : k ≤ 30) (gx : x < n) (gy : y < n) (gw1 : ¬ w < 0) (gw2 : w ≤ nI 2) (gh : cnt (po x) (nI y) = false) : Ci l yX4_way wsX4_way 2 43 E [.ref x0, .int (nI x), .int (nI y), .int w] [(x0, .inr (4, [.ref t0, .ref s0, .ref p0, .ref g0, .ref xS, .ref xV])), (t0, .inr (3, [.int (nI n), .int (nI k), .ref q1, .ref q2, .ref q3, .ref q4])), (s0, .inr (2, [.ref t0, .ref sP, .ref sD, .ref sS, .ref sL, .ref sF, .int pc, .int ds, .int pr])), (sP, aI E 16 po)] sz (-6) [(x0, .inr (4, [.ref t0, .ref s0, .ref p0, .ref g0, .ref xS, .ref xV])), (t0, .inr (3, [.int (nI n), .int (nI k), .ref q1, .ref q2, .ref q3, .ref q4])), (s0, .inr (2, [.ref t0, .ref sP, .ref sD, .ref sS, .ref sL, .ref sF, .int pc, .int ds, .int pr])), (sP, aI E 16 po)] := by
  refine C_of (QQ := QI E (-6) [(x0, .inr (4, [.ref t0, .ref s0, .ref p0, .ref g0, .ref xS, .ref xV])), (t0, .inr (3, [.int (nI n), .int (nI k), .ref q1, .ref q2, .ref q3, .ref q4])), (s0, .inr (2, [.ref t0, .ref sP, .ref sD, .ref sS, .ref sL, .ref sF, .int pc, .int ds, .int pr])), (sP, aI E 16 po)]) (cc := cX4_way) (maxL := 5) (ret := (some .int)) (by decide +kernel) rfl (Nat.le_of_ble_eq_true rfl) ?_
  intro p e s m args below meth c A R Q ls hx hb hr hts hown hml hlocks hA hK hN hP hD hS hl hR hQ
  have hown : s.vm.findClass RX4 = some m.cls := hown
  have hl : lv_has ls 5 [(0, .ref x0), (1, .int (nI x)), (2, .int (nI y)), (3, .int w)] := hl
  refine lv_aload_n hx hb dX4_way_0 rfl (lv_at hl 0 rfl) ?_
  refine rk_get (ci := 4) (C := RX4) (T := TX4) (N := 6) hx hb hts iw_X4_way_4 hown hK hP 0 rfl rfl 0 (by decide) fl_X4_way_10 rfl (v := .ref t0) rfl dX4_way_1 ?_
  refine lv_iload_n hx hb dX4_way_4 rfl (lv_at hl 1 rfl) ?_
  refine kV_i (E := E) (As := [.int (nI x)]) (rest := []) (wr := [(x0, .inr (4, [.ref t0, .ref s0, .ref p0, .ref g0, .ref xS, .ref xV])), (s0, .inr (2, [.ref t0, .ref sP, .ref sD, .ref sS, .ref sL, .ref sF, .int pc, .int ds, .int pr])), (sP, aI E 16 po)]) ⟨hx, hb, hml, hown, hts⟩ (c_X3_hasSquare (l := l) (E := E) (sz := _) (h0 := t0) (sc := nI n) (f1 := nI k) (q1 := q1) (q2 := q2) (q3 := q3) (q4 := q4) (x := nI x) ) (cwV 1 hts gX4_way_X3_hasSquare rfl rfl rfl (by decide +kernel) ⟨by rw [hR]; decide, by rw [hR]; decide⟩) hK hN hP hD hS hA [1] [0, 2, 3] rfl (by decide) rfl (by decide) (by decide) 1 3 rfl rfl rfl hl.1 rfl (Nat.le_of_ble_eq_true rfl) dX4_way_5 ⟨Nat.zero_le _, Nat.zero_le _⟩ (fun H locs hP hD hS => ?_)
  have hP : va_P E.1 vwCl [(x0, .inr (4, [.ref t0, .ref s0, .ref p0, .ref g0, .ref xS, .ref xV])), (s0, .inr (2, [.ref t0, .ref sP, .ref sD, .ref sS, .ref sL, .ref sF, .int pc, .int ds, .int pr])), (sP, aI E 16 po), (t0, .inr (3, [.int (nI n), .int (nI k), .ref q1, .ref q2, .ref q3, .ref q4]))] H := hP
  have hD : va_D A [(x0, .inr (4, [.ref t0, .ref s0, .ref p0, .ref g0, .ref xS, .ref xV])), (s0, .inr (2, [.ref t0, .ref sP, .ref sD, .ref sS, .ref sL, .ref sF, .int pc, .int ds, .int pr])), (sP, aI E 16 po), (t0, .inr (3, [.int (nI n), .int (nI k), .ref q1, .ref q2, .ref q3, .ref q4]))] := hD
  refine rk_if_eqB (tgt := 22) hx hb dX4_way_8 (by decide) (fun q => absurd q (by rw [inR_ok gx (by omega)]; decide)) (fun zc8 => ?_)
  refine lv_aload_n hx hb dX4_way_11 rfl (lv_at hl 0 rfl) ?_
  refine rk_get (ci := 4) (C := RX4) (T := TX4) (N := 6) hx hb hts iw_X4_way_4 hown hK hP 0 rfl rfl 0 (by decide) fl_X4_way_10 rfl (v := .ref t0) rfl dX4_way_12 ?_
  refine lv_iload_n hx hb dX4_way_15 rfl (lv_at hl 2 rfl) ?_
  refine kV_i (E := E) (As := [.int (nI y)]) (rest := []) (wr := [(x0, .inr (4, [.ref t0, .ref s0, .ref p0, .ref g0, .ref xS, .ref xV])), (s0, .inr (2, [.ref t0, .ref sP, .ref sD, .ref sS, .ref sL, .ref sF, .int pc, .int ds, .int pr])), (sP, aI E 16 po)]) ⟨hx, hb, hml, hown, hts⟩ (c_X3_hasSquare (l := l) (E := E) (sz := _) (h0 := t0) (sc := nI n) (f1 := nI k) (q1 := q1) (q2 := q2) (q3 := q3) (q4 := q4) (x := nI y) ) (cwV 1 hts gX4_way_X3_hasSquare rfl rfl rfl (by decide +kernel) ⟨by rw [hR]; decide, by rw [hR]; decide⟩) hK hN hP hD hS hA [3] [0, 1, 2] rfl (by decide) rfl (by decide) (by decide) 3 3 rfl rfl rfl hl.1 rfl (Nat.le_of_ble_eq_true rfl) dX4_way_16 ⟨Nat.zero_le _, Nat.zero_le _⟩ (fun H locs hP hD hS => ?_)
  have hP : va_P E.1 vwCl [(x0, .inr (4, [.ref t0, .ref s0, .ref p0, .ref g0, .ref xS, .ref xV])), (s0, .inr (2, [.ref t0, .ref sP, .ref sD, .ref sS, .ref sL, .ref sF, .int pc, .int ds, .int pr])), (sP, aI E 16 po), (t0, .inr (3, [.int (nI n), .int (nI k), .ref q1, .ref q2, .ref q3, .ref q4]))] H := hP
  have hD : va_D A [(x0, .inr (4, [.ref t0, .ref s0, .ref p0, .ref g0, .ref xS, .ref xV])), (s0, .inr (2, [.ref t0, .ref sP, .ref sD, .ref sS, .ref sL, .ref sF, .int pc, .int ds, .int pr])), (sP, aI E 16 po), (t0, .inr (3, [.int (nI n), .int (nI k), .ref q1, .ref q2, .ref q3, .ref q4]))] := hD
  refine rk_if_neB (tgt := 24) hx hb dX4_way_19 (by decide) (fun zc19 => ?_) (fun q => absurd q (by rw [inR_ok gy (by omega)]; decide))
  refine lv_iload_n hx hb dX4_way_24 rfl (lv_at hl 3 rfl) ?_
  refine lv_if_lt (tgt := 33) hx hb dX4_way_25 (by decide) (fun q => absurd q gw1) (fun zc25 => ?_)
  refine lv_iload_n hx hb dX4_way_28 rfl (lv_at hl 3 rfl) ?_
  refine lv_iconst (v := nI 2) hx hb dX4_way_29 (by decide) ?_
  refine lv_icmp_le (tgt := 36) hx hb dX4_way_30 (by decide) (fun zc30 => ?_) (fun q => absurd gw2 q)
  refine lv_aload_n hx hb dX4_way_36 rfl (lv_at hl 0 rfl) ?_
  refine rk_get (ci := 4) (C := RX4) (T := TX4) (N := 6) hx hb hts iw_X4_way_4 hown hK hP 0 rfl rfl 1 (by decide) fl_X4_way_21 rfl (v := .ref s0) rfl dX4_way_37 ?_
  refine lv_iload_n hx hb dX4_way_40 rfl (lv_at hl 1 rfl) ?_
  refine lv_iload_n hx hb dX4_way_41 rfl (lv_at hl 2 rfl) ?_
  refine kV_i (E := E) (As := [.int (nI x), .int (nI y)]) (rest := []) (wr := [(x0, .inr (4, [.ref t0, .ref s0, .ref p0, .ref g0, .ref xS, .ref xV])), (t0, .inr (3, [.int (nI n), .int (nI k), .ref q1, .ref q2, .ref q3, .ref q4]))]) ⟨hx, hb, hml, hown, hts⟩ (c_X2_hangTogether (l := l) (E := E) (sz := _) (s0 := s0) (t0 := t0) (sP := sP) (sD := sD) (sS := sS) (sL := sL) (sF := sF) (q1 := 0) (q2 := 0) (q3 := 0) (q4 := 0) (pc := pc) (ds := ds) (pr := pr) (x := x) (y := nI y) (po := po) (g1 := by first | assumption | omega)) (cwV 2 hts gX4_way_X2_hangTogether rfl rfl rfl (by decide +kernel) ⟨by rw [hR]; decide, by rw [hR]; decide⟩) hK hN hP hD hS hA [1, 2] [0, 3] rfl (by decide) rfl (by decide) (by decide) 1 2 rfl rfl rfl hl.1 rfl (Nat.le_of_ble_eq_true rfl) dX4_way_42 ⟨Nat.zero_le _, Nat.zero_le _⟩ (fun H locs hP hD hS => ?_)
  have hP : va_P E.1 vwCl [(x0, .inr (4, [.ref t0, .ref s0, .ref p0, .ref g0, .ref xS, .ref xV])), (t0, .inr (3, [.int (nI n), .int (nI k), .ref q1, .ref q2, .ref q3, .ref q4])), (s0, .inr (2, [.ref t0, .ref sP, .ref sD, .ref sS, .ref sL, .ref sF, .int pc, .int ds, .int pr])), (sP, aI E 16 po)] H := hP
  have hD : va_D A [(x0, .inr (4, [.ref t0, .ref s0, .ref p0, .ref g0, .ref xS, .ref xV])), (t0, .inr (3, [.int (nI n), .int (nI k), .ref q1, .ref q2, .ref q3, .ref q4])), (s0, .inr (2, [.ref t0, .ref sP, .ref sD, .ref sS, .ref sL, .ref sF, .int pc, .int ds, .int pr])), (sP, aI E 16 po)] := hD
  refine rk_if_neB (tgt := 51) hx hb dX4_way_45 (by decide) (fun q => absurd q (by rw [gh]; decide)) (fun zc45 => ?_)
  refine lv_bipush (v := (-6)) hx hb dX4_way_48 (by decide) ?_
  exact ret_i hQ hx hb hr hlocks (hP.sub [0, 1, 2, 3] rfl) (hD.sub [0, 1, 2, 3] (by decide) rfl) hS dX4_way_50 (rfl)
set_option maxHeartbeats 400000 in
set_option maxRecDepth 100000 in
theorem c_X4_way_len (l : Launch) (E : EE) (sz : Nat) (x0 t0 s0 p0 g0 xS xV sP sD sS sL sF q1 q2 q3 q4 : Nat) (n k : Nat) (pc ds pr : Int32) (x y : Nat) (po lo hi le di : Nat → Int32) (gn : n ≤ 16) (gk : k ≤ 30) (gx : x < n) (gy : y < n) (gl : okL lo k) (gh : okL hi k) (gc : cnt (po x) (nI y) = true) : Ci l yX4_way wsX4_way 2 48 E [.ref x0, .int (nI x), .int (nI y), .int (nI 0)] [(x0, .inr (4, [.ref t0, .ref s0, .ref p0, .ref g0, .ref xS, .ref xV])), (t0, .inr (3, [.int (nI n), .int (nI k), .ref q1, .ref q2, .ref q3, .ref q4])), (s0, .inr (2, [.ref t0, .ref sP, .ref sD, .ref sS, .ref sL, .ref sF, .int pc, .int ds, .int pr])), (sP, aI E 16 po), (sF, aI E 16 di), (q1, aI E 30 lo), (q2, aI E 30 hi), (q3, aI E 30 le)] sz (dL (clp lo) (clp hi) le (upd (dLf di 16) x (nI 0)) k 16 y) [(x0, .inr (4, [.ref t0, .ref s0, .ref p0, .ref g0, .ref xS, .ref xV])), (t0, .inr (3, [.int (nI n), .int (nI k), .ref q1, .ref q2, .ref q3, .ref q4])), (s0, .inr (2, [.ref t0, .ref sP, .ref sD, .ref sS, .ref sL, .ref sF, .int pc, .int ds, .int pr])), (sP, aI E 16 po), (sF, aI E 16 (dL (clp lo) (clp hi) le (upd (dLf di 16) x (nI 0)) k 16)), (q1, aI E 30 lo), (q2, aI E 30 hi), (q3, aI E 30 le)] := by
  refine C_of (QQ := QI E (dL (clp lo) (clp hi) le (upd (dLf di 16) x (nI 0)) k 16 y) [(x0, .inr (4, [.ref t0, .ref s0, .ref p0, .ref g0, .ref xS, .ref xV])), (t0, .inr (3, [.int (nI n), .int (nI k), .ref q1, .ref q2, .ref q3, .ref q4])), (s0, .inr (2, [.ref t0, .ref sP, .ref sD, .ref sS, .ref sL, .ref sF, .int pc, .int ds, .int pr])), (sP, aI E 16 po), (sF, aI E 16 (dL (clp lo) (clp hi) le (upd (dLf di 16) x (nI 0)) k 16)), (q1, aI E 30 lo), (q2, aI E 30 hi), (q3, aI E 30 le)]) (cc := cX4_way) (maxL := 5) (ret := (some .int)) (by decide +kernel) rfl (Nat.le_of_ble_eq_true rfl) ?_
  intro p e s m args below meth c A R Q ls hx hb hr hts hown hml hlocks hA hK hN hP hD hS hl hR hQ
  have hown : s.vm.findClass RX4 = some m.cls := hown
  have hl : lv_has ls 5 [(0, .ref x0), (1, .int (nI x)), (2, .int (nI y)), (3, .int (nI 0))] := hl
  refine lv_aload_n hx hb dX4_way_0 rfl (lv_at hl 0 rfl) ?_
  refine rk_get (ci := 4) (C := RX4) (T := TX4) (N := 6) hx hb hts iw_X4_way_4 hown hK hP 0 rfl rfl 0 (by decide) fl_X4_way_10 rfl (v := .ref t0) rfl dX4_way_1 ?_
  refine lv_iload_n hx hb dX4_way_4 rfl (lv_at hl 1 rfl) ?_
  refine kV_i (E := E) (As := [.int (nI x)]) (rest := []) (wr := [(x0, .inr (4, [.ref t0, .ref s0, .ref p0, .ref g0, .ref xS, .ref xV])), (s0, .inr (2, [.ref t0, .ref sP, .ref sD, .ref sS, .ref sL, .ref sF, .int pc, .int ds, .int pr])), (sP, aI E 16 po), (sF, aI E 16 di), (q1, aI E 30 lo), (q2, aI E 30 hi), (q3, aI E 30 le)]) ⟨hx, hb, hml, hown, hts⟩ (c_X3_hasSquare (l := l) (E := E) (sz := _) (h0 := t0) (sc := nI n) (f1 := nI k) (q1 := q1) (q2 := q2) (q3 := q3) (q4 := q4) (x := nI x) ) (cwV 1 hts gX4_way_X3_hasSquare rfl rfl rfl (by decide +kernel) ⟨by rw [hR]; decide, by rw [hR]; decide⟩) hK hN hP hD hS hA [1] [0, 2, 3, 4, 5, 6, 7] rfl (by decide) rfl (by decide) (by decide) 1 3 rfl rfl rfl hl.1 rfl (Nat.le_of_ble_eq_true rfl) dX4_way_5 ⟨Nat.zero_le _, Nat.zero_le _⟩ (fun H locs hP hD hS => ?_)
  have hP : va_P E.1 vwCl [(x0, .inr (4, [.ref t0, .ref s0, .ref p0, .ref g0, .ref xS, .ref xV])), (s0, .inr (2, [.ref t0, .ref sP, .ref sD, .ref sS, .ref sL, .ref sF, .int pc, .int ds, .int pr])), (sP, aI E 16 po), (sF, aI E 16 di), (q1, aI E 30 lo), (q2, aI E 30 hi), (q3, aI E 30 le), (t0, .inr (3, [.int (nI n), .int (nI k), .ref q1, .ref q2, .ref q3, .ref q4]))] H := hP
  have hD : va_D A [(x0, .inr (4, [.ref t0, .ref s0, .ref p0, .ref g0, .ref xS, .ref xV])), (s0, .inr (2, [.ref t0, .ref sP, .ref sD, .ref sS, .ref sL, .ref sF, .int pc, .int ds, .int pr])), (sP, aI E 16 po), (sF, aI E 16 di), (q1, aI E 30 lo), (q2, aI E 30 hi), (q3, aI E 30 le), (t0, .inr (3, [.int (nI n), .int (nI k), .ref q1, .ref q2, .ref q3, .ref q4]))] := hD
  refine rk_if_eqB (tgt := 22) hx hb dX4_way_8 (by decide) (fun q => absurd q (by rw [inR_ok gx (by omega)]; decide)) (fun zc8 => ?_)
  refine lv_aload_n hx hb dX4_way_11 rfl (lv_at hl 0 rfl) ?_
  refine rk_get (ci := 4) (C := RX4) (T := TX4) (N := 6) hx hb hts iw_X4_way_4 hown hK hP 0 rfl rfl 0 (by decide) fl_X4_way_10 rfl (v := .ref t0) rfl dX4_way_12 ?_
  refine lv_iload_n hx hb dX4_way_15 rfl (lv_at hl 2 rfl) ?_
  refine kV_i (E := E) (As := [.int (nI y)]) (rest := []) (wr := [(x0, .inr (4, [.ref t0, .ref s0, .ref p0, .ref g0, .ref xS, .ref xV])), (s0, .inr (2, [.ref t0, .ref sP, .ref sD, .ref sS, .ref sL, .ref sF, .int pc, .int ds, .int pr])), (sP, aI E 16 po), (sF, aI E 16 di), (q1, aI E 30 lo), (q2, aI E 30 hi), (q3, aI E 30 le)]) ⟨hx, hb, hml, hown, hts⟩ (c_X3_hasSquare (l := l) (E := E) (sz := _) (h0 := t0) (sc := nI n) (f1 := nI k) (q1 := q1) (q2 := q2) (q3 := q3) (q4 := q4) (x := nI y) ) (cwV 1 hts gX4_way_X3_hasSquare rfl rfl rfl (by decide +kernel) ⟨by rw [hR]; decide, by rw [hR]; decide⟩) hK hN hP hD hS hA [7] [0, 1, 2, 3, 4, 5, 6] rfl (by decide) rfl (by decide) (by decide) 7 3 rfl rfl rfl hl.1 rfl (Nat.le_of_ble_eq_true rfl) dX4_way_16 ⟨Nat.zero_le _, Nat.zero_le _⟩ (fun H locs hP hD hS => ?_)
  have hP : va_P E.1 vwCl [(x0, .inr (4, [.ref t0, .ref s0, .ref p0, .ref g0, .ref xS, .ref xV])), (s0, .inr (2, [.ref t0, .ref sP, .ref sD, .ref sS, .ref sL, .ref sF, .int pc, .int ds, .int pr])), (sP, aI E 16 po), (sF, aI E 16 di), (q1, aI E 30 lo), (q2, aI E 30 hi), (q3, aI E 30 le), (t0, .inr (3, [.int (nI n), .int (nI k), .ref q1, .ref q2, .ref q3, .ref q4]))] H := hP
  have hD : va_D A [(x0, .inr (4, [.ref t0, .ref s0, .ref p0, .ref g0, .ref xS, .ref xV])), (s0, .inr (2, [.ref t0, .ref sP, .ref sD, .ref sS, .ref sL, .ref sF, .int pc, .int ds, .int pr])), (sP, aI E 16 po), (sF, aI E 16 di), (q1, aI E 30 lo), (q2, aI E 30 hi), (q3, aI E 30 le), (t0, .inr (3, [.int (nI n), .int (nI k), .ref q1, .ref q2, .ref q3, .ref q4]))] := hD
  refine rk_if_neB (tgt := 24) hx hb dX4_way_19 (by decide) (fun zc19 => ?_) (fun q => absurd q (by rw [inR_ok gy (by omega)]; decide))
  refine lv_iload_n hx hb dX4_way_24 rfl (lv_at hl 3 rfl) ?_
  refine lv_if_lt (tgt := 33) hx hb dX4_way_25 (by decide) (fun q => absurd q (by decide)) (fun _ => ?_)
  refine lv_iload_n hx hb dX4_way_28 rfl (lv_at hl 3 rfl) ?_
  refine lv_iconst (v := nI 2) hx hb dX4_way_29 (by decide) ?_
  refine rk_leN (tgt := 36) hx hb (by omega) (by omega) dX4_way_30 (by decide) (fun _ => ?_) (fun q => absurd q (by decide))
  refine lv_aload_n hx hb dX4_way_36 rfl (lv_at hl 0 rfl) ?_
  refine rk_get (ci := 4) (C := RX4) (T := TX4) (N := 6) hx hb hts iw_X4_way_4 hown hK hP 0 rfl rfl 1 (by decide) fl_X4_way_21 rfl (v := .ref s0) rfl dX4_way_37 ?_
  refine lv_iload_n hx hb dX4_way_40 rfl (lv_at hl 1 rfl) ?_
  refine lv_iload_n hx hb dX4_way_41 rfl (lv_at hl 2 rfl) ?_
  refine kV_i (E := E) (As := [.int (nI x), .int (nI y)]) (rest := []) (wr := [(x0, .inr (4, [.ref t0, .ref s0, .ref p0, .ref g0, .ref xS, .ref xV])), (sF, aI E 16 di), (q1, aI E 30 lo), (q2, aI E 30 hi), (q3, aI E 30 le), (t0, .inr (3, [.int (nI n), .int (nI k), .ref q1, .ref q2, .ref q3, .ref q4]))]) ⟨hx, hb, hml, hown, hts⟩ (c_X2_hangTogether (l := l) (E := E) (sz := _) (s0 := s0) (t0 := t0) (sP := sP) (sD := sD) (sS := sS) (sL := sL) (sF := sF) (q1 := 0) (q2 := 0) (q3 := 0) (q4 := 0) (pc := pc) (ds := ds) (pr := pr) (x := x) (y := nI y) (po := po) (g1 := by first | assumption | omega)) (cwV 2 hts gX4_way_X2_hangTogether rfl rfl rfl (by decide +kernel) ⟨by rw [hR]; decide, by rw [hR]; decide⟩) hK hN hP hD hS hA [1, 2] [0, 3, 4, 5, 6, 7] rfl (by decide) rfl (by decide) (by decide) 1 2 rfl rfl rfl hl.1 rfl (Nat.le_of_ble_eq_true rfl) dX4_way_42 ⟨Nat.zero_le _, Nat.zero_le _⟩ (fun H locs hP hD hS => ?_)
  have hP : va_P E.1 vwCl [(x0, .inr (4, [.ref t0, .ref s0, .ref p0, .ref g0, .ref xS, .ref xV])), (sF, aI E 16 di), (q1, aI E 30 lo), (q2, aI E 30 hi), (q3, aI E 30 le), (t0, .inr (3, [.int (nI n), .int (nI k), .ref q1, .ref q2, .ref q3, .ref q4])), (s0, .inr (2, [.ref t0, .ref sP, .ref sD, .ref sS, .ref sL, .ref sF, .int pc, .int ds, .int pr])), (sP, aI E 16 po)] H := hP
  have hD : va_D A [(x0, .inr (4, [.ref t0, .ref s0, .ref p0, .ref g0, .ref xS, .ref xV])), (sF, aI E 16 di), (q1, aI E 30 lo), (q2, aI E 30 hi), (q3, aI E 30 le), (t0, .inr (3, [.int (nI n), .int (nI k), .ref q1, .ref q2, .ref q3, .ref q4])), (s0, .inr (2, [.ref t0, .ref sP, .ref sD, .ref sS, .ref sL, .ref sF, .int pc, .int ds, .int pr])), (sP, aI E 16 po)] := hD
  refine rk_if_neB (tgt := 51) hx hb dX4_way_45 (by decide) (fun zc45 => ?_) (fun q => absurd q (by rw [gc]; decide))
  refine lv_iload_n hx hb dX4_way_51 rfl (lv_at hl 3 rfl) ?_
  refine lv_if_ne (tgt := 65) hx hb dX4_way_52 (by decide) (fun q => absurd q (by decide)) (fun _ => ?_)
  refine lv_aload_n hx hb dX4_way_55 rfl (lv_at hl 0 rfl) ?_
  refine rk_get (ci := 4) (C := RX4) (T := TX4) (N := 6) hx hb hts iw_X4_way_4 hown hK hP 0 rfl rfl 1 (by decide) fl_X4_way_21 rfl (v := .ref s0) rfl dX4_way_56 ?_
  refine lv_iload_n hx hb dX4_way_59 rfl (lv_at hl 1 rfl) ?_
  refine lv_iload_n hx hb dX4_way_60 rfl (lv_at hl 2 rfl) ?_
  refine kV_i (E := E) (As := [.int (nI x), .int (nI y)]) (rest := []) (wr := [(x0, .inr (4, [.ref t0, .ref s0, .ref p0, .ref g0, .ref xS, .ref xV])), (sP, aI E 16 po)]) ⟨hx, hb, hml, hown, hts⟩ (c_X2_leastLength (l := l) (E := E) (sz := _) (s0 := s0) (t0 := t0) (sP := sP) (sD := sD) (sS := sS) (sL := sL) (sF := sF) (q1 := q1) (q2 := q2) (q3 := q3) (q4 := q4) (sc := nI n) (k := k) (pc := pc) (ds := ds) (pr := pr) (x := x) (y := y) (lo := lo) (hi := hi) (le := le) (di := di) (a := clp lo) (b := clp hi) (g1 := by first | assumption | omega) (g2 := by first | assumption | omega) (gk := by first | assumption | omega) (glo := fun r h => (gl r h).1) (ghi := fun r h => (gh r h).1) (ga := fun r h => (gl r h).2) (gb := fun r h => (gh r h).2)) (cwV 2 hts gX4_way_X2_leastLength rfl rfl rfl (by decide +kernel) ⟨by rw [hR]; decide, by rw [hR]; decide⟩) hK hN hP hD hS hA [6, 5, 1, 2, 3, 4] [0, 7] rfl (by decide) rfl (by decide) (by decide) 6 2 rfl rfl rfl hl.1 rfl (Nat.le_of_ble_eq_true rfl) dX4_way_61 ⟨Nat.zero_le _, Nat.zero_le _⟩ (fun H locs hP hD hS => ?_)
  have hP : va_P E.1 vwCl [(x0, .inr (4, [.ref t0, .ref s0, .ref p0, .ref g0, .ref xS, .ref xV])), (sP, aI E 16 po), (s0, .inr (2, [.ref t0, .ref sP, .ref sD, .ref sS, .ref sL, .ref sF, .int pc, .int ds, .int pr])), (t0, .inr (3, [.int (nI n), .int (nI k), .ref q1, .ref q2, .ref q3, .ref q4])), (sF, aI E 16 (dL (clp lo) (clp hi) le (upd (dLf di 16) x (nI 0)) k 16)), (q1, aI E 30 lo), (q2, aI E 30 hi), (q3, aI E 30 le)] H := hP
  have hD : va_D A [(x0, .inr (4, [.ref t0, .ref s0, .ref p0, .ref g0, .ref xS, .ref xV])), (sP, aI E 16 po), (s0, .inr (2, [.ref t0, .ref sP, .ref sD, .ref sS, .ref sL, .ref sF, .int pc, .int ds, .int pr])), (t0, .inr (3, [.int (nI n), .int (nI k), .ref q1, .ref q2, .ref q3, .ref q4])), (sF, aI E 16 (dL (clp lo) (clp hi) le (upd (dLf di 16) x (nI 0)) k 16)), (q1, aI E 30 lo), (q2, aI E 30 hi), (q3, aI E 30 le)] := hD
  exact ret_i hQ hx hb hr hlocks (hP.sub [0, 3, 2, 1, 4, 5, 6, 7] rfl) (hD.sub [0, 3, 2, 1, 4, 5, 6, 7] (by decide) rfl) hS dX4_way_64 (rfl)
theorem inJ6_X4_way : Cond.initialized RJ6 ∈ wsX4_way := by decide +kernel
theorem ml130_X4_way : Cond.methodLink RX4 130 yJ6_bitCount_0f7a4 ∈ wsX4_way := by decide +kernel
theorem stJ6_X4_way : Cond.static yJ6_bitCount_0f7a4 ∈ wsX4_way := by decide +kernel
set_option maxHeartbeats 400000 in
set_option maxRecDepth 100000 in
theorem c_X4_way_cnt (l : Launch) (E : EE) (sz : Nat) (x0 t0 s0 p0 g0 xS xV sP sD sS sL sF q1 q2 q3 q4 : Nat) (n k : Nat) (pc ds pr : Int32) (x y w : Nat) (po lS : Nat → Int32) (gn : n ≤ 16) (gk : k ≤ 30) (gx : x < n) (gy : y < n) (gw1 : 1 ≤ w) (gw2 : w ≤ 2) (gc : cnt (po x) (nI y) = true) : Ci l yX4_way wsX4_way 3 68 E [.ref x0, .int (nI x), .int (nI y), .int (nI w)] [(x0, .inr (4, [.ref t0, .ref s0, .ref p0, .ref g0, .ref xS, .ref xV])), (t0, .inr (3, [.int (nI n), .int (nI k), .ref q1, .ref q2, .ref q3, .ref q4])), (s0, .inr (2, [.ref t0, .ref sP, .ref sD, .ref sS, .ref sL, .ref sF, .int pc, .int ds, .int pr])), (sP, aI E 16 po), (sL, aI E 30 lS)] sz (nI (popc (rBt po lS x (nI y) k) + (w - 1))) [(x0, .inr (4, [.ref t0, .ref s0, .ref p0, .ref g0, .ref xS, .ref xV])), (t0, .inr (3, [.int (nI n), .int (nI k), .ref q1, .ref q2, .ref q3, .ref q4])), (s0, .inr (2, [.ref t0, .ref sP, .ref sD, .ref sS, .ref sL, .ref sF, .int pc, .int ds, .int pr])), (sP, aI E 16 po), (sL, aI E 30 lS)] := by
  refine C_of (QQ := QI E (nI (popc (rBt po lS x (nI y) k) + (w - 1))) [(x0, .inr (4, [.ref t0, .ref s0, .ref p0, .ref g0, .ref xS, .ref xV])), (t0, .inr (3, [.int (nI n), .int (nI k), .ref q1, .ref q2, .ref q3, .ref q4])), (s0, .inr (2, [.ref t0, .ref sP, .ref sD, .ref sS, .ref sL, .ref sF, .int pc, .int ds, .int pr])), (sP, aI E 16 po), (sL, aI E 30 lS)]) (cc := cX4_way) (maxL := 5) (ret := (some .int)) (by decide +kernel) rfl (Nat.le_of_ble_eq_true rfl) ?_
  intro p e s m args below meth c A R Q ls hx hb hr hts hown hml hlocks hA hK hN hP hD hS hl hR hQ
  have hown : s.vm.findClass RX4 = some m.cls := hown
  have hl : lv_has ls 5 [(0, .ref x0), (1, .int (nI x)), (2, .int (nI y)), (3, .int (nI w))] := hl
  refine lv_aload_n hx hb dX4_way_0 rfl (lv_at hl 0 rfl) ?_
  refine rk_get (ci := 4) (C := RX4) (T := TX4) (N := 6) hx hb hts iw_X4_way_4 hown hK hP 0 rfl rfl 0 (by decide) fl_X4_way_10 rfl (v := .ref t0) rfl dX4_way_1 ?_
  refine lv_iload_n hx hb dX4_way_4 rfl (lv_at hl 1 rfl) ?_
  refine kV_i (E := E) (As := [.int (nI x)]) (rest := []) (wr := [(x0, .inr (4, [.ref t0, .ref s0, .ref p0, .ref g0, .ref xS, .ref xV])), (s0, .inr (2, [.ref t0, .ref sP, .ref sD, .ref sS, .ref sL, .ref sF, .int pc, .int ds, .int pr])), (sP, aI E 16 po), (sL, aI E 30 lS)]) ⟨hx, hb, hml, hown, hts⟩ (c_X3_hasSquare (l := l) (E := E) (sz := _) (h0 := t0) (sc := nI n) (f1 := nI k) (q1 := q1) (q2 := q2) (q3 := q3) (q4 := q4) (x := nI x) ) (cwV 1 hts gX4_way_X3_hasSquare rfl rfl rfl (by decide +kernel) ⟨by rw [hR]; decide, by rw [hR]; decide⟩) hK hN hP hD hS hA [1] [0, 2, 3, 4] rfl (by decide) rfl (by decide) (by decide) 1 3 rfl rfl rfl hl.1 rfl (Nat.le_of_ble_eq_true rfl) dX4_way_5 ⟨Nat.zero_le _, Nat.zero_le _⟩ (fun H locs hP hD hS => ?_)
  have hP : va_P E.1 vwCl [(x0, .inr (4, [.ref t0, .ref s0, .ref p0, .ref g0, .ref xS, .ref xV])), (s0, .inr (2, [.ref t0, .ref sP, .ref sD, .ref sS, .ref sL, .ref sF, .int pc, .int ds, .int pr])), (sP, aI E 16 po), (sL, aI E 30 lS), (t0, .inr (3, [.int (nI n), .int (nI k), .ref q1, .ref q2, .ref q3, .ref q4]))] H := hP
  have hD : va_D A [(x0, .inr (4, [.ref t0, .ref s0, .ref p0, .ref g0, .ref xS, .ref xV])), (s0, .inr (2, [.ref t0, .ref sP, .ref sD, .ref sS, .ref sL, .ref sF, .int pc, .int ds, .int pr])), (sP, aI E 16 po), (sL, aI E 30 lS), (t0, .inr (3, [.int (nI n), .int (nI k), .ref q1, .ref q2, .ref q3, .ref q4]))] := hD
  refine rk_if_eqB (tgt := 22) hx hb dX4_way_8 (by decide) (fun q => absurd q (by rw [inR_ok gx (by omega)]; decide)) (fun zc8 => ?_)
  refine lv_aload_n hx hb dX4_way_11 rfl (lv_at hl 0 rfl) ?_
  refine rk_get (ci := 4) (C := RX4) (T := TX4) (N := 6) hx hb hts iw_X4_way_4 hown hK hP 0 rfl rfl 0 (by decide) fl_X4_way_10 rfl (v := .ref t0) rfl dX4_way_12 ?_
  refine lv_iload_n hx hb dX4_way_15 rfl (lv_at hl 2 rfl) ?_
  refine kV_i (E := E) (As := [.int (nI y)]) (rest := []) (wr := [(x0, .inr (4, [.ref t0, .ref s0, .ref p0, .ref g0, .ref xS, .ref xV])), (s0, .inr (2, [.ref t0, .ref sP, .ref sD, .ref sS, .ref sL, .ref sF, .int pc, .int ds, .int pr])), (sP, aI E 16 po), (sL, aI E 30 lS)]) ⟨hx, hb, hml, hown, hts⟩ (c_X3_hasSquare (l := l) (E := E) (sz := _) (h0 := t0) (sc := nI n) (f1 := nI k) (q1 := q1) (q2 := q2) (q3 := q3) (q4 := q4) (x := nI y) ) (cwV 1 hts gX4_way_X3_hasSquare rfl rfl rfl (by decide +kernel) ⟨by rw [hR]; decide, by rw [hR]; decide⟩) hK hN hP hD hS hA [4] [0, 1, 2, 3] rfl (by decide) rfl (by decide) (by decide) 4 3 rfl rfl rfl hl.1 rfl (Nat.le_of_ble_eq_true rfl) dX4_way_16 ⟨Nat.zero_le _, Nat.zero_le _⟩ (fun H locs hP hD hS => ?_)
  have hP : va_P E.1 vwCl [(x0, .inr (4, [.ref t0, .ref s0, .ref p0, .ref g0, .ref xS, .ref xV])), (s0, .inr (2, [.ref t0, .ref sP, .ref sD, .ref sS, .ref sL, .ref sF, .int pc, .int ds, .int pr])), (sP, aI E 16 po), (sL, aI E 30 lS), (t0, .inr (3, [.int (nI n), .int (nI k), .ref q1, .ref q2, .ref q3, .ref q4]))] H := hP
  have hD : va_D A [(x0, .inr (4, [.ref t0, .ref s0, .ref p0, .ref g0, .ref xS, .ref xV])), (s0, .inr (2, [.ref t0, .ref sP, .ref sD, .ref sS, .ref sL, .ref sF, .int pc, .int ds, .int pr])), (sP, aI E 16 po), (sL, aI E 30 lS), (t0, .inr (3, [.int (nI n), .int (nI k), .ref q1, .ref q2, .ref q3, .ref q4]))] := hD
  refine rk_if_neB (tgt := 24) hx hb dX4_way_19 (by decide) (fun zc19 => ?_) (fun q => absurd q (by rw [inR_ok gy (by omega)]; decide))
  refine lv_iload_n hx hb dX4_way_24 rfl (lv_at hl 3 rfl) ?_
  refine rk_if_ltN (tgt := 33) hx hb (by omega) dX4_way_25 (by decide) ?_
  refine lv_iload_n hx hb dX4_way_28 rfl (lv_at hl 3 rfl) ?_
  refine lv_iconst (v := nI 2) hx hb dX4_way_29 (by decide) ?_
  refine rk_leN (tgt := 36) hx hb (by omega) (by omega) dX4_way_30 (by decide) (fun zc30 => ?_) (fun q => absurd q (by omega))
  refine lv_aload_n hx hb dX4_way_36 rfl (lv_at hl 0 rfl) ?_
  refine rk_get (ci := 4) (C := RX4) (T := TX4) (N := 6) hx hb hts iw_X4_way_4 hown hK hP 0 rfl rfl 1 (by decide) fl_X4_way_21 rfl (v := .ref s0) rfl dX4_way_37 ?_
  refine lv_iload_n hx hb dX4_way_40 rfl (lv_at hl 1 rfl) ?_
  refine lv_iload_n hx hb dX4_way_41 rfl (lv_at hl 2 rfl) ?_
  refine kV_i (E := E) (As := [.int (nI x), .int (nI y)]) (rest := []) (wr := [(x0, .inr (4, [.ref t0, .ref s0, .ref p0, .ref g0, .ref xS, .ref xV])), (sL, aI E 30 lS), (t0, .inr (3, [.int (nI n), .int (nI k), .ref q1, .ref q2, .ref q3, .ref q4]))]) ⟨hx, hb, hml, hown, hts⟩ (c_X2_hangTogether (l := l) (E := E) (sz := _) (s0 := s0) (t0 := t0) (sP := sP) (sD := sD) (sS := sS) (sL := sL) (sF := sF) (q1 := 0) (q2 := 0) (q3 := 0) (q4 := 0) (pc := pc) (ds := ds) (pr := pr) (x := x) (y := nI y) (po := po) (g1 := by first | assumption | omega)) (cwV 2 hts gX4_way_X2_hangTogether rfl rfl rfl (by decide +kernel) ⟨by rw [hR]; decide, by rw [hR]; decide⟩) hK hN hP hD hS hA [1, 2] [0, 3, 4] rfl (by decide) rfl (by decide) (by decide) 1 2 rfl rfl rfl hl.1 rfl (Nat.le_of_ble_eq_true rfl) dX4_way_42 ⟨Nat.zero_le _, Nat.zero_le _⟩ (fun H locs hP hD hS => ?_)
  have hP : va_P E.1 vwCl [(x0, .inr (4, [.ref t0, .ref s0, .ref p0, .ref g0, .ref xS, .ref xV])), (sL, aI E 30 lS), (t0, .inr (3, [.int (nI n), .int (nI k), .ref q1, .ref q2, .ref q3, .ref q4])), (s0, .inr (2, [.ref t0, .ref sP, .ref sD, .ref sS, .ref sL, .ref sF, .int pc, .int ds, .int pr])), (sP, aI E 16 po)] H := hP
  have hD : va_D A [(x0, .inr (4, [.ref t0, .ref s0, .ref p0, .ref g0, .ref xS, .ref xV])), (sL, aI E 30 lS), (t0, .inr (3, [.int (nI n), .int (nI k), .ref q1, .ref q2, .ref q3, .ref q4])), (s0, .inr (2, [.ref t0, .ref sP, .ref sD, .ref sS, .ref sL, .ref sF, .int pc, .int ds, .int pr])), (sP, aI E 16 po)] := hD
  refine rk_if_neB (tgt := 51) hx hb dX4_way_45 (by decide) (fun zc45 => ?_) (fun q => absurd q (by rw [gc]; decide))
  refine lv_iload_n hx hb dX4_way_51 rfl (lv_at hl 3 rfl) ?_
  refine rk_if_neN (tgt := 65) hx hb (by omega) dX4_way_52 (by decide) (fun zc52 => ?_) (fun q => absurd q (by omega))
  refine lv_aload_n hx hb dX4_way_65 rfl (lv_at hl 0 rfl) ?_
  refine rk_get (ci := 4) (C := RX4) (T := TX4) (N := 6) hx hb hts iw_X4_way_4 hown hK hP 0 rfl rfl 1 (by decide) fl_X4_way_21 rfl (v := .ref s0) rfl dX4_way_66 ?_
  refine lv_iload_n hx hb dX4_way_69 rfl (lv_at hl 1 rfl) ?_
  refine lv_iload_n hx hb dX4_way_70 rfl (lv_at hl 2 rfl) ?_
  refine kV_i (E := E) (As := [.int (nI x), .int (nI y)]) (rest := []) (wr := [(x0, .inr (4, [.ref t0, .ref s0, .ref p0, .ref g0, .ref xS, .ref xV]))]) ⟨hx, hb, hml, hown, hts⟩ (c_X2_roadsBetween (l := l) (E := E) (sz := _) (s0 := s0) (t0 := t0) (sP := sP) (sD := sD) (sS := sS) (sL := sL) (sF := sF) (q1 := q1) (q2 := q2) (q3 := q3) (q4 := q4) (sc := nI n) (k := k) (pc := pc) (ds := ds) (pr := pr) (x := x) (y := nI y) (po := po) (lS := lS) (g1 := by first | assumption | omega) (gk := by first | assumption | omega)) (cwV 2 hts gX4_way_X2_roadsBetween rfl rfl rfl (by decide +kernel) ⟨by rw [hR]; decide, by rw [hR]; decide⟩) hK hN hP hD hS hA [3, 2, 4, 1] [0] rfl (by decide) rfl (by decide) (by decide) 3 2 rfl rfl rfl hl.1 rfl (Nat.le_of_ble_eq_true rfl) dX4_way_71 ⟨Nat.zero_le _, Nat.zero_le _⟩ (fun H locs hP hD hS => ?_)
  have hP : va_P E.1 vwCl [(x0, .inr (4, [.ref t0, .ref s0, .ref p0, .ref g0, .ref xS, .ref xV])), (s0, .inr (2, [.ref t0, .ref sP, .ref sD, .ref sS, .ref sL, .ref sF, .int pc, .int ds, .int pr])), (t0, .inr (3, [.int (nI n), .int (nI k), .ref q1, .ref q2, .ref q3, .ref q4])), (sP, aI E 16 po), (sL, aI E 30 lS)] H := hP
  have hD : va_D A [(x0, .inr (4, [.ref t0, .ref s0, .ref p0, .ref g0, .ref xS, .ref xV])), (s0, .inr (2, [.ref t0, .ref sP, .ref sD, .ref sS, .ref sL, .ref sF, .int pc, .int ds, .int pr])), (t0, .inr (3, [.int (nI n), .int (nI k), .ref q1, .ref q2, .ref q3, .ref q4])), (sP, aI E 16 po), (sL, aI E 30 lS)] := hD
  refine kS_i (E := E) (As := [.int (rBt po lS x (nI y) k)]) (rest := []) (wr := [(x0, .inr (4, [.ref t0, .ref s0, .ref p0, .ref g0, .ref xS, .ref xV])), (s0, .inr (2, [.ref t0, .ref sP, .ref sD, .ref sS, .ref sL, .ref sF, .int pc, .int ds, .int pr])), (t0, .inr (3, [.int (nI n), .int (nI k), .ref q1, .ref q2, .ref q3, .ref q4])), (sP, aI E 16 po), (sL, aI E 30 lS)]) ⟨hx, hb, hml, hown, hts⟩ (c_J6_bitCount_0f7a4 (l := l) (E := E) (sz := _) (x := rBt po lS x (nI y) k)) ⟨callB_of 1 hts ggX4_way_J6_bitCount_0f7a4 rfl rfl rfl (hts _ inJ6_X4_way) (hts _ ml130_X4_way) (by decide +kernel) ⟨by rw [hR]; decide, by rw [hR]; decide⟩, hts _ stJ6_X4_way⟩ hK hN hP hD hS hA [] [0, 1, 2, 3, 4] rfl (by decide) rfl (by decide) (by decide) rfl hl.1 rfl (Nat.le_of_ble_eq_true rfl) dX4_way_74 ⟨Nat.zero_le _, Nat.zero_le _⟩ (fun H locs hP hD hS => ?_)
  have hP : va_P E.1 vwCl [(x0, .inr (4, [.ref t0, .ref s0, .ref p0, .ref g0, .ref xS, .ref xV])), (s0, .inr (2, [.ref t0, .ref sP, .ref sD, .ref sS, .ref sL, .ref sF, .int pc, .int ds, .int pr])), (t0, .inr (3, [.int (nI n), .int (nI k), .ref q1, .ref q2, .ref q3, .ref q4])), (sP, aI E 16 po), (sL, aI E 30 lS)] H := hP
  have hD : va_D A [(x0, .inr (4, [.ref t0, .ref s0, .ref p0, .ref g0, .ref xS, .ref xV])), (s0, .inr (2, [.ref t0, .ref sP, .ref sD, .ref sS, .ref sL, .ref sF, .int pc, .int ds, .int pr])), (t0, .inr (3, [.int (nI n), .int (nI k), .ref q1, .ref q2, .ref q3, .ref q4])), (sP, aI E 16 po), (sL, aI E 30 lS)] := hD
  refine lv_istore (lv' := [(4, .int (nI (popc (rBt po lS x (nI y) k)))), (0, .ref x0), (1, .int (nI x)), (2, .int (nI y)), (3, .int (nI w))]) hx hb dX4_way_77 hl (by decide) rfl (fun ls hl => ?_)
  refine lv_iload_n hx hb dX4_way_79 rfl (lv_at hl 4 rfl) ?_
  refine lv_iconst (v := nI 1) hx hb dX4_way_80 (by decide) ?_
  refine rk_neN (tgt := 89) hx hb (by omega) (by omega) dX4_way_81 (by decide) (fun zc81 => ?_) (fun zc81 => ?_)
  · refine lv_iload hx hb dX4_way_89 (lv_at hl 0 rfl) ?_
    refine lv_iconst (v := nI 1) hx hb dX4_way_91 (by decide) ?_
    refine rk_iaddN hx hb dX4_way_92 ?_
    exact ret_i hQ hx hb hr hlocks (hP.sub [0, 2, 1, 3, 4] rfl) (hD.sub [0, 2, 1, 3, 4] (by decide) rfl) hS dX4_way_93 (by congr 1; omega)
  · refine lv_iload hx hb dX4_way_84 (lv_at hl 0 rfl) ?_
    refine lv_goto (tgt := 93) hx hb dX4_way_86 (by decide) ?_
    exact ret_i hQ hx hb hr hlocks (hP.sub [0, 2, 1, 3, 4] rfl) (hD.sub [0, 2, 1, 3, 4] (by decide) rfl) hS dX4_way_93 (by congr 1; omega)
theorem iw_X4_must_4 : ∀ w ∈ u_ws RX4 TX4 6, w ∈ wsX4_must := by decide +kernel
theorem fl_X4_must_10 : Cond.fieldLink RX4 10 (TX4 0).1 (TX4 0).2.1 (TX4 0).2.2.1 ∈ wsX4_must := by decide +kernel
set_option maxHeartbeats 400000 in
set_option maxRecDepth 100000 in
theorem c_X4_must_bad (l : Launch) (E : EE) (sz : Nat) (x0 t0 s0 p0 g0 xS xV sP sD sS sL sF q1 q2 q3 q4 : Nat) (n k : Nat) (a b w : Int32) (gb : inR a (nI n) = true → inR b (nI n) = false) : Ci l yX4_must wsX4_must 1 21 E [.ref x0, .int a, .int b, .int w] [(x0, .inr (4, [.ref t0, .ref s0, .ref p0, .ref g0, .ref xS, .ref xV])), (t0, .inr (3, [.int (nI n), .int (nI k), .ref q1, .ref q2, .ref q3, .ref q4]))] sz (-1) [(x0, .inr (4, [.ref t0, .ref s0, .ref p0, .ref g0, .ref xS, .ref xV])), (t0, .inr (3, [.int (nI n), .int (nI k), .ref q1, .ref q2, .ref q3, .ref q4]))] := by
  refine C_of (QQ := QI E (-1) [(x0, .inr (4, [.ref t0, .ref s0, .ref p0, .ref g0, .ref xS, .ref xV])), (t0, .inr (3, [.int (nI n), .int (nI k), .ref q1, .ref q2, .ref q3, .ref q4]))]) (cc := cX4_must) (maxL := 4) (ret := (some .int)) (by decide +kernel) rfl (Nat.le_of_ble_eq_true rfl) ?_
  intro p e s m args below meth c A R Q ls hx hb hr hts hown hml hlocks hA hK hN hP hD hS hl hR hQ
  have hown : s.vm.findClass RX4 = some m.cls := hown
  have hl : lv_has ls 4 [(0, .ref x0), (1, .int a), (2, .int b), (3, .int w)] := hl
  refine lv_aload_n hx hb dX4_must_0 rfl (lv_at hl 0 rfl) ?_
  refine rk_get (ci := 4) (C := RX4) (T := TX4) (N := 6) hx hb hts iw_X4_must_4 hown hK hP 0 rfl rfl 0 (by decide) fl_X4_must_10 rfl (v := .ref t0) rfl dX4_must_1 ?_
  refine lv_iload_n hx hb dX4_must_4 rfl (lv_at hl 1 rfl) ?_
  refine kV_i (E := E) (As := [.int a]) (rest := []) (wr := [(x0, .inr (4, [.ref t0, .ref s0, .ref p0, .ref g0, .ref xS, .ref xV]))]) ⟨hx, hb, hml, hown, hts⟩ (c_X3_hasSquare (l := l) (E := E) (sz := _) (h0 := t0) (sc := nI n) (f1 := nI k) (q1 := q1) (q2 := q2) (q3 := q3) (q4 := q4) (x := a) ) (cwV 1 hts gX4_must_X3_hasSquare rfl rfl rfl (by decide +kernel) ⟨by rw [hR]; decide, by rw [hR]; decide⟩) hK hN hP hD hS hA [1] [0] rfl (by decide) rfl (by decide) (by decide) 1 3 rfl rfl rfl hl.1 rfl (Nat.le_of_ble_eq_true rfl) dX4_must_5 ⟨Nat.zero_le _, Nat.zero_le _⟩ (fun H locs hP hD hS => ?_)
  have hP : va_P E.1 vwCl [(x0, .inr (4, [.ref t0, .ref s0, .ref p0, .ref g0, .ref xS, .ref xV])), (t0, .inr (3, [.int (nI n), .int (nI k), .ref q1, .ref q2, .ref q3, .ref q4]))] H := hP
  have hD : va_D A [(x0, .inr (4, [.ref t0, .ref s0, .ref p0, .ref g0, .ref xS, .ref xV])), (t0, .inr (3, [.int (nI n), .int (nI k), .ref q1, .ref q2, .ref q3, .ref q4]))] := hD
  refine rk_if_eqB (tgt := 22) hx hb dX4_must_8 (by decide) (fun zc8 => ?_) (fun zc8 => ?_)
  · refine lv_iconst (v := (-1)) hx hb dX4_must_22 (by decide) ?_
    exact ret_i hQ hx hb hr hlocks (hP.sub [0, 1] rfl) (hD.sub [0, 1] (by decide) rfl) hS dX4_must_23 (rfl)
  · refine lv_aload_n hx hb dX4_must_11 rfl (lv_at hl 0 rfl) ?_
    refine rk_get (ci := 4) (C := RX4) (T := TX4) (N := 6) hx hb hts iw_X4_must_4 hown hK hP 0 rfl rfl 0 (by decide) fl_X4_must_10 rfl (v := .ref t0) rfl dX4_must_12 ?_
    refine lv_iload_n hx hb dX4_must_15 rfl (lv_at hl 2 rfl) ?_
    refine kV_i (E := E) (As := [.int b]) (rest := []) (wr := [(x0, .inr (4, [.ref t0, .ref s0, .ref p0, .ref g0, .ref xS, .ref xV]))]) ⟨hx, hb, hml, hown, hts⟩ (c_X3_hasSquare (l := l) (E := E) (sz := _) (h0 := t0) (sc := nI n) (f1 := nI k) (q1 := q1) (q2 := q2) (q3 := q3) (q4 := q4) (x := b) ) (cwV 1 hts gX4_must_X3_hasSquare rfl rfl rfl (by decide +kernel) ⟨by rw [hR]; decide, by rw [hR]; decide⟩) hK hN hP hD hS hA [1] [0] rfl (by decide) rfl (by decide) (by decide) 1 3 rfl rfl rfl hl.1 rfl (Nat.le_of_ble_eq_true rfl) dX4_must_16 ⟨Nat.zero_le _, Nat.zero_le _⟩ (fun H locs hP hD hS => ?_)
    have hP : va_P E.1 vwCl [(x0, .inr (4, [.ref t0, .ref s0, .ref p0, .ref g0, .ref xS, .ref xV])), (t0, .inr (3, [.int (nI n), .int (nI k), .ref q1, .ref q2, .ref q3, .ref q4]))] H := hP
    have hD : va_D A [(x0, .inr (4, [.ref t0, .ref s0, .ref p0, .ref g0, .ref xS, .ref xV])), (t0, .inr (3, [.int (nI n), .int (nI k), .ref q1, .ref q2, .ref q3, .ref q4]))] := hD
    refine rk_if_neB (tgt := 24) hx hb dX4_must_19 (by decide) (fun q => absurd q (by rw [gb zc8]; decide)) (fun zc19 => ?_)
    refine lv_iconst (v := (-1)) hx hb dX4_must_22 (by decide) ?_
    exact ret_i hQ hx hb hr hlocks (hP.sub [0, 1] rfl) (hD.sub [0, 1] (by decide) rfl) hS dX4_must_23 (rfl)
set_option maxHeartbeats 400000 in
set_option maxRecDepth 100000 in
theorem c_X4_must_val (l : Launch) (E : EE) (sz : Nat) (x0 t0 s0 p0 g0 xS xV sP sD sS sL sF q1 q2 q3 q4 : Nat) (n k : Nat) (x y : Nat) (w : Int32) (gn : n ≤ 16) (gk : k ≤ 30) (gx : x < n) (gy : y < n) (gw : ¬ 0 ≤ w) : Ci l yX4_must wsX4_must 1 21 E [.ref x0, .int (nI x), .int (nI y), .int w] [(x0, .inr (4, [.ref t0, .ref s0, .ref p0, .ref g0, .ref xS, .ref xV])), (t0, .inr (3, [.int (nI n), .int (nI k), .ref q1, .ref q2, .ref q3, .ref q4]))] sz (-2) [(x0, .inr (4, [.ref t0, .ref s0, .ref p0, .ref g0, .ref xS, .ref xV])), (t0, .inr (3, [.int (nI n), .int (nI k), .ref q1, .ref q2, .ref q3, .ref q4]))] := by
  refine C_of (QQ := QI E (-2) [(x0, .inr (4, [.ref t0, .ref s0, .ref p0, .ref g0, .ref xS, .ref xV])), (t0, .inr (3, [.int (nI n), .int (nI k), .ref q1, .ref q2, .ref q3, .ref q4]))]) (cc := cX4_must) (maxL := 4) (ret := (some .int)) (by decide +kernel) rfl (Nat.le_of_ble_eq_true rfl) ?_
  intro p e s m args below meth c A R Q ls hx hb hr hts hown hml hlocks hA hK hN hP hD hS hl hR hQ
  have hown : s.vm.findClass RX4 = some m.cls := hown
  have hl : lv_has ls 4 [(0, .ref x0), (1, .int (nI x)), (2, .int (nI y)), (3, .int w)] := hl
  refine lv_aload_n hx hb dX4_must_0 rfl (lv_at hl 0 rfl) ?_
  refine rk_get (ci := 4) (C := RX4) (T := TX4) (N := 6) hx hb hts iw_X4_must_4 hown hK hP 0 rfl rfl 0 (by decide) fl_X4_must_10 rfl (v := .ref t0) rfl dX4_must_1 ?_
  refine lv_iload_n hx hb dX4_must_4 rfl (lv_at hl 1 rfl) ?_
  refine kV_i (E := E) (As := [.int (nI x)]) (rest := []) (wr := [(x0, .inr (4, [.ref t0, .ref s0, .ref p0, .ref g0, .ref xS, .ref xV]))]) ⟨hx, hb, hml, hown, hts⟩ (c_X3_hasSquare (l := l) (E := E) (sz := _) (h0 := t0) (sc := nI n) (f1 := nI k) (q1 := q1) (q2 := q2) (q3 := q3) (q4 := q4) (x := nI x) ) (cwV 1 hts gX4_must_X3_hasSquare rfl rfl rfl (by decide +kernel) ⟨by rw [hR]; decide, by rw [hR]; decide⟩) hK hN hP hD hS hA [1] [0] rfl (by decide) rfl (by decide) (by decide) 1 3 rfl rfl rfl hl.1 rfl (Nat.le_of_ble_eq_true rfl) dX4_must_5 ⟨Nat.zero_le _, Nat.zero_le _⟩ (fun H locs hP hD hS => ?_)
  have hP : va_P E.1 vwCl [(x0, .inr (4, [.ref t0, .ref s0, .ref p0, .ref g0, .ref xS, .ref xV])), (t0, .inr (3, [.int (nI n), .int (nI k), .ref q1, .ref q2, .ref q3, .ref q4]))] H := hP
  have hD : va_D A [(x0, .inr (4, [.ref t0, .ref s0, .ref p0, .ref g0, .ref xS, .ref xV])), (t0, .inr (3, [.int (nI n), .int (nI k), .ref q1, .ref q2, .ref q3, .ref q4]))] := hD
  refine rk_if_eqB (tgt := 22) hx hb dX4_must_8 (by decide) (fun q => absurd q (by rw [inR_ok gx (by omega)]; decide)) (fun zc8 => ?_)
  refine lv_aload_n hx hb dX4_must_11 rfl (lv_at hl 0 rfl) ?_
  refine rk_get (ci := 4) (C := RX4) (T := TX4) (N := 6) hx hb hts iw_X4_must_4 hown hK hP 0 rfl rfl 0 (by decide) fl_X4_must_10 rfl (v := .ref t0) rfl dX4_must_12 ?_
  refine lv_iload_n hx hb dX4_must_15 rfl (lv_at hl 2 rfl) ?_
  refine kV_i (E := E) (As := [.int (nI y)]) (rest := []) (wr := [(x0, .inr (4, [.ref t0, .ref s0, .ref p0, .ref g0, .ref xS, .ref xV]))]) ⟨hx, hb, hml, hown, hts⟩ (c_X3_hasSquare (l := l) (E := E) (sz := _) (h0 := t0) (sc := nI n) (f1 := nI k) (q1 := q1) (q2 := q2) (q3 := q3) (q4 := q4) (x := nI y) ) (cwV 1 hts gX4_must_X3_hasSquare rfl rfl rfl (by decide +kernel) ⟨by rw [hR]; decide, by rw [hR]; decide⟩) hK hN hP hD hS hA [1] [0] rfl (by decide) rfl (by decide) (by decide) 1 3 rfl rfl rfl hl.1 rfl (Nat.le_of_ble_eq_true rfl) dX4_must_16 ⟨Nat.zero_le _, Nat.zero_le _⟩ (fun H locs hP hD hS => ?_)
  have hP : va_P E.1 vwCl [(x0, .inr (4, [.ref t0, .ref s0, .ref p0, .ref g0, .ref xS, .ref xV])), (t0, .inr (3, [.int (nI n), .int (nI k), .ref q1, .ref q2, .ref q3, .ref q4]))] H := hP
  have hD : va_D A [(x0, .inr (4, [.ref t0, .ref s0, .ref p0, .ref g0, .ref xS, .ref xV])), (t0, .inr (3, [.int (nI n), .int (nI k), .ref q1, .ref q2, .ref q3, .ref q4]))] := hD
  refine rk_if_neB (tgt := 24) hx hb dX4_must_19 (by decide) (fun zc19 => ?_) (fun q => absurd q (by rw [inR_ok gy (by omega)]; decide))
  refine lv_iload_n hx hb dX4_must_24 rfl (lv_at hl 3 rfl) ?_
  refine lv_if_ge (tgt := 31) hx hb dX4_must_25 (by decide) (fun q => absurd q gw) (fun zc25 => ?_)
  refine lv_bipush (v := (-2)) hx hb dX4_must_28 (by decide) ?_
  exact ret_i hQ hx hb hr hlocks (hP.sub [0, 1] rfl) (hD.sub [0, 1] (by decide) rfl) hS dX4_must_30 (rfl)
