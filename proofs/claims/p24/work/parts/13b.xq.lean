theorem fl_X4_must_21 : Cond.fieldLink RX4 21 (TX4 1).1 (TX4 1).2.1 (TX4 1).2.2.1 ∈ wsX4_must := by decide +kernel
set_option maxHeartbeats 400000 in
set_option maxRecDepth 100000 in
theorem c_X4_must_ok (l : Launch) (E : EE) (sz : Nat) (x0 t0 s0 p0 g0 xS xV sP sD sS sL sF q1 q2 q3 q4 : Nat) (n k : Nat) (pc ds pr : Int32) (x y : Nat) (w : Int32) (po lS : Nat → Int32) (gn : n ≤ 16) (gk : k ≤ 30) (gx : x < n) (gy : y < n) (gw : 0 ≤ w) : Ci l yX4_must wsX4_must 4 95 E [.ref x0, .int (nI x), .int (nI y), .int w] [(x0, .inr (4, [.ref t0, .ref s0, .ref p0, .ref g0, .ref xS, .ref xV])), (t0, .inr (3, [.int (nI n), .int (nI k), .ref q1, .ref q2, .ref q3, .ref q4])), (s0, .inr (2, [.ref t0, .ref sP, .ref sD, .ref sS, .ref sL, .ref sF, .int pc, .int ds, .int pr])), (sP, aI E 16 po), (sL, aI E 30 lS)] sz (fst6 (rOWp po lS x (rBt po lS x (nI y) k) w k) 0 k) [(x0, .inr (4, [.ref t0, .ref s0, .ref p0, .ref g0, .ref xS, .ref xV])), (t0, .inr (3, [.int (nI n), .int (nI k), .ref q1, .ref q2, .ref q3, .ref q4])), (s0, .inr (2, [.ref t0, .ref sP, .ref sD, .ref sS, .ref sL, .ref sF, .int pc, .int ds, .int pr])), (sP, aI E 16 po), (sL, aI E 30 lS)] := by
  refine C_of (QQ := QI E (fst6 (rOWp po lS x (rBt po lS x (nI y) k) w k) 0 k) [(x0, .inr (4, [.ref t0, .ref s0, .ref p0, .ref g0, .ref xS, .ref xV])), (t0, .inr (3, [.int (nI n), .int (nI k), .ref q1, .ref q2, .ref q3, .ref q4])), (s0, .inr (2, [.ref t0, .ref sP, .ref sD, .ref sS, .ref sL, .ref sF, .int pc, .int ds, .int pr])), (sP, aI E 16 po), (sL, aI E 30 lS)]) (cc := cX4_must) (maxL := 4) (ret := (some .int)) (by decide +kernel) rfl (Nat.le_of_ble_eq_true rfl) ?_
  intro p e s m args below meth c A R Q ls hx hb hr hts hown hml hlocks hA hK hN hP hD hS hl hR hQ
  have hown : s.vm.findClass RX4 = some m.cls := hown
  have hl : lv_has ls 4 [(0, .ref x0), (1, .int (nI x)), (2, .int (nI y)), (3, .int w)] := hl
  refine lv_aload_n hx hb dX4_must_0 rfl (lv_at hl 0 rfl) ?_
  refine rk_get (ci := 4) (C := RX4) (T := TX4) (N := 6) hx hb hts iw_X4_must_4 hown hK hP 0 rfl rfl 0 (by decide) fl_X4_must_10 rfl (v := .ref t0) rfl dX4_must_1 ?_
  refine lv_iload_n hx hb dX4_must_4 rfl (lv_at hl 1 rfl) ?_
  refine kV_i (E := E) (As := [.int (nI x)]) (rest := []) (wr := [(x0, .inr (4, [.ref t0, .ref s0, .ref p0, .ref g0, .ref xS, .ref xV])), (s0, .inr (2, [.ref t0, .ref sP, .ref sD, .ref sS, .ref sL, .ref sF, .int pc, .int ds, .int pr])), (sP, aI E 16 po), (sL, aI E 30 lS)]) ⟨hx, hb, hml, hown, hts⟩ (c_X3_hasSquare (l := l) (E := E) (sz := _) (h0 := t0) (sc := nI n) (f1 := nI k) (q1 := q1) (q2 := q2) (q3 := q3) (q4 := q4) (x := nI x) ) (cwV 1 hts gX4_must_X3_hasSquare rfl rfl rfl (by decide +kernel) ⟨by rw [hR]; decide, by rw [hR]; decide⟩) hK hN hP hD hS hA [1] [0, 2, 3, 4] rfl (by decide) rfl (by decide) (by decide) 1 3 rfl rfl rfl hl.1 rfl (Nat.le_of_ble_eq_true rfl) dX4_must_5 ⟨Nat.zero_le _, Nat.zero_le _⟩ (fun H locs hP hD hS => ?_)
  have hP : va_P E.1 vwCl [(x0, .inr (4, [.ref t0, .ref s0, .ref p0, .ref g0, .ref xS, .ref xV])), (s0, .inr (2, [.ref t0, .ref sP, .ref sD, .ref sS, .ref sL, .ref sF, .int pc, .int ds, .int pr])), (sP, aI E 16 po), (sL, aI E 30 lS), (t0, .inr (3, [.int (nI n), .int (nI k), .ref q1, .ref q2, .ref q3, .ref q4]))] H := hP
  have hD : va_D A [(x0, .inr (4, [.ref t0, .ref s0, .ref p0, .ref g0, .ref xS, .ref xV])), (s0, .inr (2, [.ref t0, .ref sP, .ref sD, .ref sS, .ref sL, .ref sF, .int pc, .int ds, .int pr])), (sP, aI E 16 po), (sL, aI E 30 lS), (t0, .inr (3, [.int (nI n), .int (nI k), .ref q1, .ref q2, .ref q3, .ref q4]))] := hD
  refine rk_if_eqB (tgt := 22) hx hb dX4_must_8 (by decide) (fun q => absurd q (by rw [inR_ok gx (by omega)]; decide)) (fun zc8 => ?_)
  refine lv_aload_n hx hb dX4_must_11 rfl (lv_at hl 0 rfl) ?_
  refine rk_get (ci := 4) (C := RX4) (T := TX4) (N := 6) hx hb hts iw_X4_must_4 hown hK hP 0 rfl rfl 0 (by decide) fl_X4_must_10 rfl (v := .ref t0) rfl dX4_must_12 ?_
  refine lv_iload_n hx hb dX4_must_15 rfl (lv_at hl 2 rfl) ?_
  refine kV_i (E := E) (As := [.int (nI y)]) (rest := []) (wr := [(x0, .inr (4, [.ref t0, .ref s0, .ref p0, .ref g0, .ref xS, .ref xV])), (s0, .inr (2, [.ref t0, .ref sP, .ref sD, .ref sS, .ref sL, .ref sF, .int pc, .int ds, .int pr])), (sP, aI E 16 po), (sL, aI E 30 lS)]) ⟨hx, hb, hml, hown, hts⟩ (c_X3_hasSquare (l := l) (E := E) (sz := _) (h0 := t0) (sc := nI n) (f1 := nI k) (q1 := q1) (q2 := q2) (q3 := q3) (q4 := q4) (x := nI y) ) (cwV 1 hts gX4_must_X3_hasSquare rfl rfl rfl (by decide +kernel) ⟨by rw [hR]; decide, by rw [hR]; decide⟩) hK hN hP hD hS hA [4] [0, 1, 2, 3] rfl (by decide) rfl (by decide) (by decide) 4 3 rfl rfl rfl hl.1 rfl (Nat.le_of_ble_eq_true rfl) dX4_must_16 ⟨Nat.zero_le _, Nat.zero_le _⟩ (fun H locs hP hD hS => ?_)
  have hP : va_P E.1 vwCl [(x0, .inr (4, [.ref t0, .ref s0, .ref p0, .ref g0, .ref xS, .ref xV])), (s0, .inr (2, [.ref t0, .ref sP, .ref sD, .ref sS, .ref sL, .ref sF, .int pc, .int ds, .int pr])), (sP, aI E 16 po), (sL, aI E 30 lS), (t0, .inr (3, [.int (nI n), .int (nI k), .ref q1, .ref q2, .ref q3, .ref q4]))] H := hP
  have hD : va_D A [(x0, .inr (4, [.ref t0, .ref s0, .ref p0, .ref g0, .ref xS, .ref xV])), (s0, .inr (2, [.ref t0, .ref sP, .ref sD, .ref sS, .ref sL, .ref sF, .int pc, .int ds, .int pr])), (sP, aI E 16 po), (sL, aI E 30 lS), (t0, .inr (3, [.int (nI n), .int (nI k), .ref q1, .ref q2, .ref q3, .ref q4]))] := hD
  refine rk_if_neB (tgt := 24) hx hb dX4_must_19 (by decide) (fun zc19 => ?_) (fun q => absurd q (by rw [inR_ok gy (by omega)]; decide))
  refine lv_iload_n hx hb dX4_must_24 rfl (lv_at hl 3 rfl) ?_
  refine lv_if_ge (tgt := 31) hx hb dX4_must_25 (by decide) (fun zc25 => ?_) (fun q => absurd gw q)
  refine lv_aload_n hx hb dX4_must_31 rfl (lv_at hl 0 rfl) ?_
  refine rk_get (ci := 4) (C := RX4) (T := TX4) (N := 6) hx hb hts iw_X4_must_4 hown hK hP 0 rfl rfl 1 (by decide) fl_X4_must_21 rfl (v := .ref s0) rfl dX4_must_32 ?_
  refine lv_iload_n hx hb dX4_must_35 rfl (lv_at hl 1 rfl) ?_
  refine lv_iload_n hx hb dX4_must_36 rfl (lv_at hl 2 rfl) ?_
  refine lv_iload_n hx hb dX4_must_37 rfl (lv_at hl 3 rfl) ?_
  refine kV_i (E := E) (As := [.int (nI x), .int (nI y), .int w]) (rest := []) (wr := [(x0, .inr (4, [.ref t0, .ref s0, .ref p0, .ref g0, .ref xS, .ref xV]))]) ⟨hx, hb, hml, hown, hts⟩ (c_X2_roadOnWay (l := l) (E := E) (sz := _) (s0 := s0) (t0 := t0) (sP := sP) (sD := sD) (sS := sS) (sL := sL) (sF := sF) (q1 := q1) (q2 := q2) (q3 := q3) (q4 := q4) (sc := nI n) (k := k) (pc := pc) (ds := ds) (pr := pr) (x := x) (y := nI y) (pl := w) (po := po) (lS := lS) (g1 := by first | assumption | omega) (gk := by first | assumption | omega)) (cwV 3 hts gX4_must_X2_roadOnWay rfl rfl rfl (by decide +kernel) ⟨by rw [hR]; decide, by rw [hR]; decide⟩) hK hN hP hD hS hA [1, 4, 2, 3] [0] rfl (by decide) rfl (by decide) (by decide) 1 2 rfl rfl rfl hl.1 rfl (Nat.le_of_ble_eq_true rfl) dX4_must_38 ⟨Nat.zero_le _, Nat.zero_le _⟩ (fun H locs hP hD hS => ?_)
  have hP : va_P E.1 vwCl [(x0, .inr (4, [.ref t0, .ref s0, .ref p0, .ref g0, .ref xS, .ref xV])), (s0, .inr (2, [.ref t0, .ref sP, .ref sD, .ref sS, .ref sL, .ref sF, .int pc, .int ds, .int pr])), (t0, .inr (3, [.int (nI n), .int (nI k), .ref q1, .ref q2, .ref q3, .ref q4])), (sP, aI E 16 po), (sL, aI E 30 lS)] H := hP
  have hD : va_D A [(x0, .inr (4, [.ref t0, .ref s0, .ref p0, .ref g0, .ref xS, .ref xV])), (s0, .inr (2, [.ref t0, .ref sP, .ref sD, .ref sS, .ref sL, .ref sF, .int pc, .int ds, .int pr])), (t0, .inr (3, [.int (nI n), .int (nI k), .ref q1, .ref q2, .ref q3, .ref q4])), (sP, aI E 16 po), (sL, aI E 30 lS)] := hD
  exact ret_i hQ hx hb hr hlocks (hP.sub [0, 2, 1, 3, 4] rfl) (hD.sub [0, 2, 1, 3, 4] (by decide) rfl) hS dX4_must_41 (rfl)
theorem iw_X4_cutOff_4 : ∀ w ∈ u_ws RX4 TX4 6, w ∈ wsX4_cutOff := by decide +kernel
theorem fl_X4_cutOff_10 : Cond.fieldLink RX4 10 (TX4 0).1 (TX4 0).2.1 (TX4 0).2.2.1 ∈ wsX4_cutOff := by decide +kernel
set_option maxHeartbeats 400000 in
set_option maxRecDepth 100000 in
theorem c_X4_cutOff_bad (l : Launch) (E : EE) (sz : Nat) (x0 t0 s0 p0 g0 xS xV sP sD sS sL sF q1 q2 q3 q4 : Nat) (n k : Nat) (a b : Int32) (gb : inR a (nI n) = true → inR b (nI k) = false) : Ci l yX4_cutOff wsX4_cutOff 1 21 E [.ref x0, .int a, .int b] [(x0, .inr (4, [.ref t0, .ref s0, .ref p0, .ref g0, .ref xS, .ref xV])), (t0, .inr (3, [.int (nI n), .int (nI k), .ref q1, .ref q2, .ref q3, .ref q4]))] sz (-1) [(x0, .inr (4, [.ref t0, .ref s0, .ref p0, .ref g0, .ref xS, .ref xV])), (t0, .inr (3, [.int (nI n), .int (nI k), .ref q1, .ref q2, .ref q3, .ref q4]))] := by
  refine C_of (QQ := QI E (-1) [(x0, .inr (4, [.ref t0, .ref s0, .ref p0, .ref g0, .ref xS, .ref xV])), (t0, .inr (3, [.int (nI n), .int (nI k), .ref q1, .ref q2, .ref q3, .ref q4]))]) (cc := cX4_cutOff) (maxL := 3) (ret := (some .int)) (by decide +kernel) rfl (Nat.le_of_ble_eq_true rfl) ?_
  intro p e s m args below meth c A R Q ls hx hb hr hts hown hml hlocks hA hK hN hP hD hS hl hR hQ
  have hown : s.vm.findClass RX4 = some m.cls := hown
  have hl : lv_has ls 3 [(0, .ref x0), (1, .int a), (2, .int b)] := hl
  refine lv_aload_n hx hb dX4_cutOff_0 rfl (lv_at hl 0 rfl) ?_
  refine rk_get (ci := 4) (C := RX4) (T := TX4) (N := 6) hx hb hts iw_X4_cutOff_4 hown hK hP 0 rfl rfl 0 (by decide) fl_X4_cutOff_10 rfl (v := .ref t0) rfl dX4_cutOff_1 ?_
  refine lv_iload_n hx hb dX4_cutOff_4 rfl (lv_at hl 1 rfl) ?_
  refine kV_i (E := E) (As := [.int a]) (rest := []) (wr := [(x0, .inr (4, [.ref t0, .ref s0, .ref p0, .ref g0, .ref xS, .ref xV]))]) ⟨hx, hb, hml, hown, hts⟩ (c_X3_hasSquare (l := l) (E := E) (sz := _) (h0 := t0) (sc := nI n) (f1 := nI k) (q1 := q1) (q2 := q2) (q3 := q3) (q4 := q4) (x := a) ) (cwV 1 hts gX4_cutOff_X3_hasSquare rfl rfl rfl (by decide +kernel) ⟨by rw [hR]; decide, by rw [hR]; decide⟩) hK hN hP hD hS hA [1] [0] rfl (by decide) rfl (by decide) (by decide) 1 3 rfl rfl rfl hl.1 rfl (Nat.le_of_ble_eq_true rfl) dX4_cutOff_5 ⟨Nat.zero_le _, Nat.zero_le _⟩ (fun H locs hP hD hS => ?_)
  have hP : va_P E.1 vwCl [(x0, .inr (4, [.ref t0, .ref s0, .ref p0, .ref g0, .ref xS, .ref xV])), (t0, .inr (3, [.int (nI n), .int (nI k), .ref q1, .ref q2, .ref q3, .ref q4]))] H := hP
  have hD : va_D A [(x0, .inr (4, [.ref t0, .ref s0, .ref p0, .ref g0, .ref xS, .ref xV])), (t0, .inr (3, [.int (nI n), .int (nI k), .ref q1, .ref q2, .ref q3, .ref q4]))] := hD
  refine rk_if_eqB (tgt := 22) hx hb dX4_cutOff_8 (by decide) (fun zc8 => ?_) (fun zc8 => ?_)
  · refine lv_iconst (v := (-1)) hx hb dX4_cutOff_22 (by decide) ?_
    exact ret_i hQ hx hb hr hlocks (hP.sub [0, 1] rfl) (hD.sub [0, 1] (by decide) rfl) hS dX4_cutOff_23 (rfl)
  · refine lv_aload_n hx hb dX4_cutOff_11 rfl (lv_at hl 0 rfl) ?_
    refine rk_get (ci := 4) (C := RX4) (T := TX4) (N := 6) hx hb hts iw_X4_cutOff_4 hown hK hP 0 rfl rfl 0 (by decide) fl_X4_cutOff_10 rfl (v := .ref t0) rfl dX4_cutOff_12 ?_
    refine lv_iload_n hx hb dX4_cutOff_15 rfl (lv_at hl 2 rfl) ?_
    refine kV_i (E := E) (As := [.int b]) (rest := []) (wr := [(x0, .inr (4, [.ref t0, .ref s0, .ref p0, .ref g0, .ref xS, .ref xV]))]) ⟨hx, hb, hml, hown, hts⟩ (c_X3_hasRoad (l := l) (E := E) (sz := _) (h0 := t0) (sc := nI n) (f1 := nI k) (q1 := q1) (q2 := q2) (q3 := q3) (q4 := q4) (x := b) ) (cwV 1 hts gX4_cutOff_X3_hasRoad rfl rfl rfl (by decide +kernel) ⟨by rw [hR]; decide, by rw [hR]; decide⟩) hK hN hP hD hS hA [1] [0] rfl (by decide) rfl (by decide) (by decide) 1 3 rfl rfl rfl hl.1 rfl (Nat.le_of_ble_eq_true rfl) dX4_cutOff_16 ⟨Nat.zero_le _, Nat.zero_le _⟩ (fun H locs hP hD hS => ?_)
    have hP : va_P E.1 vwCl [(x0, .inr (4, [.ref t0, .ref s0, .ref p0, .ref g0, .ref xS, .ref xV])), (t0, .inr (3, [.int (nI n), .int (nI k), .ref q1, .ref q2, .ref q3, .ref q4]))] H := hP
    have hD : va_D A [(x0, .inr (4, [.ref t0, .ref s0, .ref p0, .ref g0, .ref xS, .ref xV])), (t0, .inr (3, [.int (nI n), .int (nI k), .ref q1, .ref q2, .ref q3, .ref q4]))] := hD
    refine rk_if_neB (tgt := 24) hx hb dX4_cutOff_19 (by decide) (fun q => absurd q (by rw [gb zc8]; decide)) (fun zc19 => ?_)
    refine lv_iconst (v := (-1)) hx hb dX4_cutOff_22 (by decide) ?_
    exact ret_i hQ hx hb hr hlocks (hP.sub [0, 1] rfl) (hD.sub [0, 1] (by decide) rfl) hS dX4_cutOff_23 (rfl)
theorem fl_X4_cutOff_21 : Cond.fieldLink RX4 21 (TX4 1).1 (TX4 1).2.1 (TX4 1).2.2.1 ∈ wsX4_cutOff := by decide +kernel
set_option maxHeartbeats 400000 in
set_option maxRecDepth 100000 in
theorem c_X4_cutOff_ok (l : Launch) (E : EE) (sz : Nat) (x0 t0 s0 p0 g0 xS xV sP sD sS sL sF q1 q2 q3 q4 : Nat) (n k : Nat) (pc ds pr : Int32) (x r : Nat) (po lS : Nat → Int32) (gn : n ≤ 16) (gk : k ≤ 30) (gx : x < n) (gy : r < k) : Ci l yX4_cutOff wsX4_cutOff 2 44 E [.ref x0, .int (nI x), .int (nI r)] [(x0, .inr (4, [.ref t0, .ref s0, .ref p0, .ref g0, .ref xS, .ref xV])), (t0, .inr (3, [.int (nI n), .int (nI k), .ref q1, .ref q2, .ref q3, .ref q4])), (s0, .inr (2, [.ref t0, .ref sP, .ref sD, .ref sS, .ref sL, .ref sF, .int pc, .int ds, .int pr])), (sP, aI E 16 po), (sL, aI E 30 lS)] sz (sqB po lS x r) [(x0, .inr (4, [.ref t0, .ref s0, .ref p0, .ref g0, .ref xS, .ref xV])), (t0, .inr (3, [.int (nI n), .int (nI k), .ref q1, .ref q2, .ref q3, .ref q4])), (s0, .inr (2, [.ref t0, .ref sP, .ref sD, .ref sS, .ref sL, .ref sF, .int pc, .int ds, .int pr])), (sP, aI E 16 po), (sL, aI E 30 lS)] := by
  refine C_of (QQ := QI E (sqB po lS x r) [(x0, .inr (4, [.ref t0, .ref s0, .ref p0, .ref g0, .ref xS, .ref xV])), (t0, .inr (3, [.int (nI n), .int (nI k), .ref q1, .ref q2, .ref q3, .ref q4])), (s0, .inr (2, [.ref t0, .ref sP, .ref sD, .ref sS, .ref sL, .ref sF, .int pc, .int ds, .int pr])), (sP, aI E 16 po), (sL, aI E 30 lS)]) (cc := cX4_cutOff) (maxL := 3) (ret := (some .int)) (by decide +kernel) rfl (Nat.le_of_ble_eq_true rfl) ?_
  intro p e s m args below meth c A R Q ls hx hb hr hts hown hml hlocks hA hK hN hP hD hS hl hR hQ
  have hown : s.vm.findClass RX4 = some m.cls := hown
  have hl : lv_has ls 3 [(0, .ref x0), (1, .int (nI x)), (2, .int (nI r))] := hl
  refine lv_aload_n hx hb dX4_cutOff_0 rfl (lv_at hl 0 rfl) ?_
  refine rk_get (ci := 4) (C := RX4) (T := TX4) (N := 6) hx hb hts iw_X4_cutOff_4 hown hK hP 0 rfl rfl 0 (by decide) fl_X4_cutOff_10 rfl (v := .ref t0) rfl dX4_cutOff_1 ?_
  refine lv_iload_n hx hb dX4_cutOff_4 rfl (lv_at hl 1 rfl) ?_
  refine kV_i (E := E) (As := [.int (nI x)]) (rest := []) (wr := [(x0, .inr (4, [.ref t0, .ref s0, .ref p0, .ref g0, .ref xS, .ref xV])), (s0, .inr (2, [.ref t0, .ref sP, .ref sD, .ref sS, .ref sL, .ref sF, .int pc, .int ds, .int pr])), (sP, aI E 16 po), (sL, aI E 30 lS)]) ⟨hx, hb, hml, hown, hts⟩ (c_X3_hasSquare (l := l) (E := E) (sz := _) (h0 := t0) (sc := nI n) (f1 := nI k) (q1 := q1) (q2 := q2) (q3 := q3) (q4 := q4) (x := nI x) ) (cwV 1 hts gX4_cutOff_X3_hasSquare rfl rfl rfl (by decide +kernel) ⟨by rw [hR]; decide, by rw [hR]; decide⟩) hK hN hP hD hS hA [1] [0, 2, 3, 4] rfl (by decide) rfl (by decide) (by decide) 1 3 rfl rfl rfl hl.1 rfl (Nat.le_of_ble_eq_true rfl) dX4_cutOff_5 ⟨Nat.zero_le _, Nat.zero_le _⟩ (fun H locs hP hD hS => ?_)
  have hP : va_P E.1 vwCl [(x0, .inr (4, [.ref t0, .ref s0, .ref p0, .ref g0, .ref xS, .ref xV])), (s0, .inr (2, [.ref t0, .ref sP, .ref sD, .ref sS, .ref sL, .ref sF, .int pc, .int ds, .int pr])), (sP, aI E 16 po), (sL, aI E 30 lS), (t0, .inr (3, [.int (nI n), .int (nI k), .ref q1, .ref q2, .ref q3, .ref q4]))] H := hP
  have hD : va_D A [(x0, .inr (4, [.ref t0, .ref s0, .ref p0, .ref g0, .ref xS, .ref xV])), (s0, .inr (2, [.ref t0, .ref sP, .ref sD, .ref sS, .ref sL, .ref sF, .int pc, .int ds, .int pr])), (sP, aI E 16 po), (sL, aI E 30 lS), (t0, .inr (3, [.int (nI n), .int (nI k), .ref q1, .ref q2, .ref q3, .ref q4]))] := hD
  refine rk_if_eqB (tgt := 22) hx hb dX4_cutOff_8 (by decide) (fun q => absurd q (by rw [inR_ok gx (by omega)]; decide)) (fun zc8 => ?_)
  refine lv_aload_n hx hb dX4_cutOff_11 rfl (lv_at hl 0 rfl) ?_
  refine rk_get (ci := 4) (C := RX4) (T := TX4) (N := 6) hx hb hts iw_X4_cutOff_4 hown hK hP 0 rfl rfl 0 (by decide) fl_X4_cutOff_10 rfl (v := .ref t0) rfl dX4_cutOff_12 ?_
  refine lv_iload_n hx hb dX4_cutOff_15 rfl (lv_at hl 2 rfl) ?_
  refine kV_i (E := E) (As := [.int (nI r)]) (rest := []) (wr := [(x0, .inr (4, [.ref t0, .ref s0, .ref p0, .ref g0, .ref xS, .ref xV])), (s0, .inr (2, [.ref t0, .ref sP, .ref sD, .ref sS, .ref sL, .ref sF, .int pc, .int ds, .int pr])), (sP, aI E 16 po), (sL, aI E 30 lS)]) ⟨hx, hb, hml, hown, hts⟩ (c_X3_hasRoad (l := l) (E := E) (sz := _) (h0 := t0) (sc := nI n) (f1 := nI k) (q1 := q1) (q2 := q2) (q3 := q3) (q4 := q4) (x := nI r) ) (cwV 1 hts gX4_cutOff_X3_hasRoad rfl rfl rfl (by decide +kernel) ⟨by rw [hR]; decide, by rw [hR]; decide⟩) hK hN hP hD hS hA [4] [0, 1, 2, 3] rfl (by decide) rfl (by decide) (by decide) 4 3 rfl rfl rfl hl.1 rfl (Nat.le_of_ble_eq_true rfl) dX4_cutOff_16 ⟨Nat.zero_le _, Nat.zero_le _⟩ (fun H locs hP hD hS => ?_)
  have hP : va_P E.1 vwCl [(x0, .inr (4, [.ref t0, .ref s0, .ref p0, .ref g0, .ref xS, .ref xV])), (s0, .inr (2, [.ref t0, .ref sP, .ref sD, .ref sS, .ref sL, .ref sF, .int pc, .int ds, .int pr])), (sP, aI E 16 po), (sL, aI E 30 lS), (t0, .inr (3, [.int (nI n), .int (nI k), .ref q1, .ref q2, .ref q3, .ref q4]))] H := hP
  have hD : va_D A [(x0, .inr (4, [.ref t0, .ref s0, .ref p0, .ref g0, .ref xS, .ref xV])), (s0, .inr (2, [.ref t0, .ref sP, .ref sD, .ref sS, .ref sL, .ref sF, .int pc, .int ds, .int pr])), (sP, aI E 16 po), (sL, aI E 30 lS), (t0, .inr (3, [.int (nI n), .int (nI k), .ref q1, .ref q2, .ref q3, .ref q4]))] := hD
  refine rk_if_neB (tgt := 24) hx hb dX4_cutOff_19 (by decide) (fun zc19 => ?_) (fun q => absurd q (by rw [inR_ok gy (by omega)]; decide))
  refine lv_aload_n hx hb dX4_cutOff_24 rfl (lv_at hl 0 rfl) ?_
  refine rk_get (ci := 4) (C := RX4) (T := TX4) (N := 6) hx hb hts iw_X4_cutOff_4 hown hK hP 0 rfl rfl 1 (by decide) fl_X4_cutOff_21 rfl (v := .ref s0) rfl dX4_cutOff_25 ?_
  refine lv_iload_n hx hb dX4_cutOff_28 rfl (lv_at hl 1 rfl) ?_
  refine lv_iload_n hx hb dX4_cutOff_29 rfl (lv_at hl 2 rfl) ?_
  refine kV_i (E := E) (As := [.int (nI x), .int (nI r)]) (rest := []) (wr := [(x0, .inr (4, [.ref t0, .ref s0, .ref p0, .ref g0, .ref xS, .ref xV])), (t0, .inr (3, [.int (nI n), .int (nI k), .ref q1, .ref q2, .ref q3, .ref q4]))]) ⟨hx, hb, hml, hown, hts⟩ (c_X2_squaresBehind (l := l) (E := E) (sz := _) (s0 := s0) (t0 := t0) (sP := sP) (sD := sD) (sS := sS) (sL := sL) (sF := sF) (q1 := 0) (q2 := 0) (q3 := 0) (q4 := 0) (pc := pc) (ds := ds) (pr := pr) (x := x) (r := r) (po := po) (lS := lS) (g1 := by first | assumption | omega) (g2 := by first | assumption | omega)) (cwV 2 hts gX4_cutOff_X2_squaresBehind rfl rfl rfl (by decide +kernel) ⟨by rw [hR]; decide, by rw [hR]; decide⟩) hK hN hP hD hS hA [1, 2, 3] [0, 4] rfl (by decide) rfl (by decide) (by decide) 1 2 rfl rfl rfl hl.1 rfl (Nat.le_of_ble_eq_true rfl) dX4_cutOff_30 ⟨Nat.zero_le _, Nat.zero_le _⟩ (fun H locs hP hD hS => ?_)
  have hP : va_P E.1 vwCl [(x0, .inr (4, [.ref t0, .ref s0, .ref p0, .ref g0, .ref xS, .ref xV])), (t0, .inr (3, [.int (nI n), .int (nI k), .ref q1, .ref q2, .ref q3, .ref q4])), (s0, .inr (2, [.ref t0, .ref sP, .ref sD, .ref sS, .ref sL, .ref sF, .int pc, .int ds, .int pr])), (sP, aI E 16 po), (sL, aI E 30 lS)] H := hP
  have hD : va_D A [(x0, .inr (4, [.ref t0, .ref s0, .ref p0, .ref g0, .ref xS, .ref xV])), (t0, .inr (3, [.int (nI n), .int (nI k), .ref q1, .ref q2, .ref q3, .ref q4])), (s0, .inr (2, [.ref t0, .ref sP, .ref sD, .ref sS, .ref sL, .ref sF, .int pc, .int ds, .int pr])), (sP, aI E 16 po), (sL, aI E 30 lS)] := hD
  exact ret_i hQ hx hb hr hlocks (hP.sub [0, 1, 2, 3, 4] rfl) (hD.sub [0, 1, 2, 3, 4] (by decide) rfl) hS dX4_cutOff_33 (rfl)
theorem iw_X4_ifBuilt_4 : ∀ w ∈ u_ws RX4 TX4 6, w ∈ wsX4_ifBuilt := by decide +kernel
theorem fl_X4_ifBuilt_10 : Cond.fieldLink RX4 10 (TX4 0).1 (TX4 0).2.1 (TX4 0).2.2.1 ∈ wsX4_ifBuilt := by decide +kernel
set_option maxHeartbeats 400000 in
set_option maxRecDepth 100000 in
theorem c_X4_ifBuilt_bad (l : Launch) (E : EE) (sz : Nat) (x0 t0 s0 p0 g0 xS xV sP sD sS sL sF q1 q2 q3 q4 : Nat) (n k : Nat) (a b w : Int32) (gb : inR a (nI n) = true → inR b (nI n) = false) : Ci l yX4_ifBuilt wsX4_ifBuilt 1 21 E [.ref x0, .int a, .int b, .int w] [(x0, .inr (4, [.ref t0, .ref s0, .ref p0, .ref g0, .ref xS, .ref xV])), (t0, .inr (3, [.int (nI n), .int (nI k), .ref q1, .ref q2, .ref q3, .ref q4]))] sz (-1) [(x0, .inr (4, [.ref t0, .ref s0, .ref p0, .ref g0, .ref xS, .ref xV])), (t0, .inr (3, [.int (nI n), .int (nI k), .ref q1, .ref q2, .ref q3, .ref q4]))] := by
  refine C_of (QQ := QI E (-1) [(x0, .inr (4, [.ref t0, .ref s0, .ref p0, .ref g0, .ref xS, .ref xV])), (t0, .inr (3, [.int (nI n), .int (nI k), .ref q1, .ref q2, .ref q3, .ref q4]))]) (cc := cX4_ifBuilt) (maxL := 5) (ret := (some .int)) (by decide +kernel) rfl (Nat.le_of_ble_eq_true rfl) ?_
  intro p e s m args below meth c A R Q ls hx hb hr hts hown hml hlocks hA hK hN hP hD hS hl hR hQ
  have hown : s.vm.findClass RX4 = some m.cls := hown
  have hl : lv_has ls 5 [(0, .ref x0), (1, .int a), (2, .int b), (3, .int w)] := hl
  refine lv_aload_n hx hb dX4_ifBuilt_0 rfl (lv_at hl 0 rfl) ?_
  refine rk_get (ci := 4) (C := RX4) (T := TX4) (N := 6) hx hb hts iw_X4_ifBuilt_4 hown hK hP 0 rfl rfl 0 (by decide) fl_X4_ifBuilt_10 rfl (v := .ref t0) rfl dX4_ifBuilt_1 ?_
  refine lv_iload_n hx hb dX4_ifBuilt_4 rfl (lv_at hl 1 rfl) ?_
  refine kV_i (E := E) (As := [.int a]) (rest := []) (wr := [(x0, .inr (4, [.ref t0, .ref s0, .ref p0, .ref g0, .ref xS, .ref xV]))]) ⟨hx, hb, hml, hown, hts⟩ (c_X3_hasSquare (l := l) (E := E) (sz := _) (h0 := t0) (sc := nI n) (f1 := nI k) (q1 := q1) (q2 := q2) (q3 := q3) (q4 := q4) (x := a) ) (cwV 1 hts gX4_ifBuilt_X3_hasSquare rfl rfl rfl (by decide +kernel) ⟨by rw [hR]; decide, by rw [hR]; decide⟩) hK hN hP hD hS hA [1] [0] rfl (by decide) rfl (by decide) (by decide) 1 3 rfl rfl rfl hl.1 rfl (Nat.le_of_ble_eq_true rfl) dX4_ifBuilt_5 ⟨Nat.zero_le _, Nat.zero_le _⟩ (fun H locs hP hD hS => ?_)
  have hP : va_P E.1 vwCl [(x0, .inr (4, [.ref t0, .ref s0, .ref p0, .ref g0, .ref xS, .ref xV])), (t0, .inr (3, [.int (nI n), .int (nI k), .ref q1, .ref q2, .ref q3, .ref q4]))] H := hP
  have hD : va_D A [(x0, .inr (4, [.ref t0, .ref s0, .ref p0, .ref g0, .ref xS, .ref xV])), (t0, .inr (3, [.int (nI n), .int (nI k), .ref q1, .ref q2, .ref q3, .ref q4]))] := hD
  refine rk_if_eqB (tgt := 22) hx hb dX4_ifBuilt_8 (by decide) (fun zc8 => ?_) (fun zc8 => ?_)
  · refine lv_iconst (v := (-1)) hx hb dX4_ifBuilt_22 (by decide) ?_
    exact ret_i hQ hx hb hr hlocks (hP.sub [0, 1] rfl) (hD.sub [0, 1] (by decide) rfl) hS dX4_ifBuilt_23 (rfl)
  · refine lv_aload_n hx hb dX4_ifBuilt_11 rfl (lv_at hl 0 rfl) ?_
    refine rk_get (ci := 4) (C := RX4) (T := TX4) (N := 6) hx hb hts iw_X4_ifBuilt_4 hown hK hP 0 rfl rfl 0 (by decide) fl_X4_ifBuilt_10 rfl (v := .ref t0) rfl dX4_ifBuilt_12 ?_
    refine lv_iload_n hx hb dX4_ifBuilt_15 rfl (lv_at hl 2 rfl) ?_
    refine kV_i (E := E) (As := [.int b]) (rest := []) (wr := [(x0, .inr (4, [.ref t0, .ref s0, .ref p0, .ref g0, .ref xS, .ref xV]))]) ⟨hx, hb, hml, hown, hts⟩ (c_X3_hasSquare (l := l) (E := E) (sz := _) (h0 := t0) (sc := nI n) (f1 := nI k) (q1 := q1) (q2 := q2) (q3 := q3) (q4 := q4) (x := b) ) (cwV 1 hts gX4_ifBuilt_X3_hasSquare rfl rfl rfl (by decide +kernel) ⟨by rw [hR]; decide, by rw [hR]; decide⟩) hK hN hP hD hS hA [1] [0] rfl (by decide) rfl (by decide) (by decide) 1 3 rfl rfl rfl hl.1 rfl (Nat.le_of_ble_eq_true rfl) dX4_ifBuilt_16 ⟨Nat.zero_le _, Nat.zero_le _⟩ (fun H locs hP hD hS => ?_)
    have hP : va_P E.1 vwCl [(x0, .inr (4, [.ref t0, .ref s0, .ref p0, .ref g0, .ref xS, .ref xV])), (t0, .inr (3, [.int (nI n), .int (nI k), .ref q1, .ref q2, .ref q3, .ref q4]))] H := hP
    have hD : va_D A [(x0, .inr (4, [.ref t0, .ref s0, .ref p0, .ref g0, .ref xS, .ref xV])), (t0, .inr (3, [.int (nI n), .int (nI k), .ref q1, .ref q2, .ref q3, .ref q4]))] := hD
    refine rk_if_neB (tgt := 24) hx hb dX4_ifBuilt_19 (by decide) (fun q => absurd q (by rw [gb zc8]; decide)) (fun zc19 => ?_)
    refine lv_iconst (v := (-1)) hx hb dX4_ifBuilt_22 (by decide) ?_
    exact ret_i hQ hx hb hr hlocks (hP.sub [0, 1] rfl) (hD.sub [0, 1] (by decide) rfl) hS dX4_ifBuilt_23 (rfl)
set_option maxHeartbeats 400000 in
set_option maxRecDepth 100000 in
theorem c_X4_ifBuilt_same (l : Launch) (E : EE) (sz : Nat) (x0 t0 s0 p0 g0 xS xV sP sD sS sL sF q1 q2 q3 q4 : Nat) (n k : Nat) (x : Nat) (w : Int32) (gn : n ≤ 16) (gk : k ≤ 30) (gx : x < n) : Ci l yX4_ifBuilt wsX4_ifBuilt 1 21 E [.ref x0, .int (nI x), .int (nI x), .int w] [(x0, .inr (4, [.ref t0, .ref s0, .ref p0, .ref g0, .ref xS, .ref xV])), (t0, .inr (3, [.int (nI n), .int (nI k), .ref q1, .ref q2, .ref q3, .ref q4]))] sz (-2) [(x0, .inr (4, [.ref t0, .ref s0, .ref p0, .ref g0, .ref xS, .ref xV])), (t0, .inr (3, [.int (nI n), .int (nI k), .ref q1, .ref q2, .ref q3, .ref q4]))] := by
  refine C_of (QQ := QI E (-2) [(x0, .inr (4, [.ref t0, .ref s0, .ref p0, .ref g0, .ref xS, .ref xV])), (t0, .inr (3, [.int (nI n), .int (nI k), .ref q1, .ref q2, .ref q3, .ref q4]))]) (cc := cX4_ifBuilt) (maxL := 5) (ret := (some .int)) (by decide +kernel) rfl (Nat.le_of_ble_eq_true rfl) ?_
  intro p e s m args below meth c A R Q ls hx hb hr hts hown hml hlocks hA hK hN hP hD hS hl hR hQ
  have hown : s.vm.findClass RX4 = some m.cls := hown
  have hl : lv_has ls 5 [(0, .ref x0), (1, .int (nI x)), (2, .int (nI x)), (3, .int w)] := hl
  refine lv_aload_n hx hb dX4_ifBuilt_0 rfl (lv_at hl 0 rfl) ?_
  refine rk_get (ci := 4) (C := RX4) (T := TX4) (N := 6) hx hb hts iw_X4_ifBuilt_4 hown hK hP 0 rfl rfl 0 (by decide) fl_X4_ifBuilt_10 rfl (v := .ref t0) rfl dX4_ifBuilt_1 ?_
  refine lv_iload_n hx hb dX4_ifBuilt_4 rfl (lv_at hl 1 rfl) ?_
  refine kV_i (E := E) (As := [.int (nI x)]) (rest := []) (wr := [(x0, .inr (4, [.ref t0, .ref s0, .ref p0, .ref g0, .ref xS, .ref xV]))]) ⟨hx, hb, hml, hown, hts⟩ (c_X3_hasSquare (l := l) (E := E) (sz := _) (h0 := t0) (sc := nI n) (f1 := nI k) (q1 := q1) (q2 := q2) (q3 := q3) (q4 := q4) (x := nI x) ) (cwV 1 hts gX4_ifBuilt_X3_hasSquare rfl rfl rfl (by decide +kernel) ⟨by rw [hR]; decide, by rw [hR]; decide⟩) hK hN hP hD hS hA [1] [0] rfl (by decide) rfl (by decide) (by decide) 1 3 rfl rfl rfl hl.1 rfl (Nat.le_of_ble_eq_true rfl) dX4_ifBuilt_5 ⟨Nat.zero_le _, Nat.zero_le _⟩ (fun H locs hP hD hS => ?_)
  have hP : va_P E.1 vwCl [(x0, .inr (4, [.ref t0, .ref s0, .ref p0, .ref g0, .ref xS, .ref xV])), (t0, .inr (3, [.int (nI n), .int (nI k), .ref q1, .ref q2, .ref q3, .ref q4]))] H := hP
  have hD : va_D A [(x0, .inr (4, [.ref t0, .ref s0, .ref p0, .ref g0, .ref xS, .ref xV])), (t0, .inr (3, [.int (nI n), .int (nI k), .ref q1, .ref q2, .ref q3, .ref q4]))] := hD
  refine rk_if_eqB (tgt := 22) hx hb dX4_ifBuilt_8 (by decide) (fun q => absurd q (by rw [inR_ok gx (by omega)]; decide)) (fun zc8 => ?_)
  refine lv_aload_n hx hb dX4_ifBuilt_11 rfl (lv_at hl 0 rfl) ?_
  refine rk_get (ci := 4) (C := RX4) (T := TX4) (N := 6) hx hb hts iw_X4_ifBuilt_4 hown hK hP 0 rfl rfl 0 (by decide) fl_X4_ifBuilt_10 rfl (v := .ref t0) rfl dX4_ifBuilt_12 ?_
  refine lv_iload_n hx hb dX4_ifBuilt_15 rfl (lv_at hl 2 rfl) ?_
  refine kV_i (E := E) (As := [.int (nI x)]) (rest := []) (wr := [(x0, .inr (4, [.ref t0, .ref s0, .ref p0, .ref g0, .ref xS, .ref xV]))]) ⟨hx, hb, hml, hown, hts⟩ (c_X3_hasSquare (l := l) (E := E) (sz := _) (h0 := t0) (sc := nI n) (f1 := nI k) (q1 := q1) (q2 := q2) (q3 := q3) (q4 := q4) (x := nI x) ) (cwV 1 hts gX4_ifBuilt_X3_hasSquare rfl rfl rfl (by decide +kernel) ⟨by rw [hR]; decide, by rw [hR]; decide⟩) hK hN hP hD hS hA [1] [0] rfl (by decide) rfl (by decide) (by decide) 1 3 rfl rfl rfl hl.1 rfl (Nat.le_of_ble_eq_true rfl) dX4_ifBuilt_16 ⟨Nat.zero_le _, Nat.zero_le _⟩ (fun H locs hP hD hS => ?_)
  have hP : va_P E.1 vwCl [(x0, .inr (4, [.ref t0, .ref s0, .ref p0, .ref g0, .ref xS, .ref xV])), (t0, .inr (3, [.int (nI n), .int (nI k), .ref q1, .ref q2, .ref q3, .ref q4]))] H := hP
  have hD : va_D A [(x0, .inr (4, [.ref t0, .ref s0, .ref p0, .ref g0, .ref xS, .ref xV])), (t0, .inr (3, [.int (nI n), .int (nI k), .ref q1, .ref q2, .ref q3, .ref q4]))] := hD
  refine rk_if_neB (tgt := 24) hx hb dX4_ifBuilt_19 (by decide) (fun zc19 => ?_) (fun q => absurd q (by rw [inR_ok gx (by omega)]; decide))
  refine lv_iload_n hx hb dX4_ifBuilt_24 rfl (lv_at hl 1 rfl) ?_
  refine lv_iload_n hx hb dX4_ifBuilt_25 rfl (lv_at hl 2 rfl) ?_
  refine rk_neN (tgt := 32) hx hb (by omega) (by omega) dX4_ifBuilt_26 (by decide) (fun q => absurd rfl q) (fun zc26 => ?_)
  refine lv_bipush (v := (-2)) hx hb dX4_ifBuilt_29 (by decide) ?_
  exact ret_i hQ hx hb hr hlocks (hP.sub [0, 1] rfl) (hD.sub [0, 1] (by decide) rfl) hS dX4_ifBuilt_31 (rfl)
theorem fl_X4_ifBuilt_21 : Cond.fieldLink RX4 21 (TX4 1).1 (TX4 1).2.1 (TX4 1).2.2.1 ∈ wsX4_ifBuilt := by decide +kernel
theorem inJ6_X4_ifBuilt : Cond.initialized RJ6 ∈ wsX4_ifBuilt := by decide +kernel
theorem ml130_X4_ifBuilt : Cond.methodLink RX4 130 yJ6_bitCount_0f7a4 ∈ wsX4_ifBuilt := by decide +kernel
theorem stJ6_X4_ifBuilt : Cond.static yJ6_bitCount_0f7a4 ∈ wsX4_ifBuilt := by decide +kernel
theorem iw_X4_ifBuilt_2 : ∀ w ∈ u_ws RX2 TX2 9, w ∈ wsX4_ifBuilt := by decide +kernel
theorem fl_X4_ifBuilt_144 : Cond.fieldLink RX4 144 (TX2 7).1 (TX2 7).2.1 (TX2 7).2.2.1 ∈ wsX4_ifBuilt := by decide +kernel
theorem fl_X4_ifBuilt_71 : Cond.fieldLink RX4 71 (TX2 6).1 (TX2 6).2.1 (TX2 6).2.2.1 ∈ wsX4_ifBuilt := by decide +kernel
set_option maxHeartbeats 400000 in
set_option maxRecDepth 100000 in
theorem c_X4_ifBuilt_ok (l : Launch) (E : EE) (sz : Nat) (x0 t0 s0 p0 g0 xS xV sP sD sS sL sF q1 q2 q3 q4 : Nat) (n k : Nat) (pc ds : Nat) (pr : Int32) (x y : Nat) (w : Int32) (po lS : Nat → Int32) (gn : n ≤ 16) (gk : k ≤ 30) (gx : x < n) (gy : y < n) (gne : ¬ x = y) : Ci l yX4_ifBuilt wsX4_ifBuilt 3 68 E [.ref x0, .int (nI x), .int (nI y), .int w] [(x0, .inr (4, [.ref t0, .ref s0, .ref p0, .ref g0, .ref xS, .ref xV])), (t0, .inr (3, [.int (nI n), .int (nI k), .ref q1, .ref q2, .ref q3, .ref q4])), (s0, .inr (2, [.ref t0, .ref sP, .ref sD, .ref sS, .ref sL, .ref sF, .int (nI pc), .int (nI ds), .int pr])), (sP, aI E 16 po), (sL, aI E 30 lS)] sz (swl w [nI (popc (rBt po lS x (nI y) k)), nI ds - nI (popc (rBt po lS x (nI y) k)), if cnt (po x) (nI y) = true then nI pc else nI pc - nI 1] 0) [(x0, .inr (4, [.ref t0, .ref s0, .ref p0, .ref g0, .ref xS, .ref xV])), (t0, .inr (3, [.int (nI n), .int (nI k), .ref q1, .ref q2, .ref q3, .ref q4])), (s0, .inr (2, [.ref t0, .ref sP, .ref sD, .ref sS, .ref sL, .ref sF, .int (nI pc), .int (nI ds), .int pr])), (sP, aI E 16 po), (sL, aI E 30 lS)] := by
  refine C_of (QQ := QI E (swl w [nI (popc (rBt po lS x (nI y) k)), nI ds - nI (popc (rBt po lS x (nI y) k)), if cnt (po x) (nI y) = true then nI pc else nI pc - nI 1] 0) [(x0, .inr (4, [.ref t0, .ref s0, .ref p0, .ref g0, .ref xS, .ref xV])), (t0, .inr (3, [.int (nI n), .int (nI k), .ref q1, .ref q2, .ref q3, .ref q4])), (s0, .inr (2, [.ref t0, .ref sP, .ref sD, .ref sS, .ref sL, .ref sF, .int (nI pc), .int (nI ds), .int pr])), (sP, aI E 16 po), (sL, aI E 30 lS)]) (cc := cX4_ifBuilt) (maxL := 5) (ret := (some .int)) (by decide +kernel) rfl (Nat.le_of_ble_eq_true rfl) ?_
  intro p e s m args below meth c A R Q ls hx hb hr hts hown hml hlocks hA hK hN hP hD hS hl hR hQ
  have hown : s.vm.findClass RX4 = some m.cls := hown
  have hl : lv_has ls 5 [(0, .ref x0), (1, .int (nI x)), (2, .int (nI y)), (3, .int w)] := hl
  refine lv_aload_n hx hb dX4_ifBuilt_0 rfl (lv_at hl 0 rfl) ?_
  refine rk_get (ci := 4) (C := RX4) (T := TX4) (N := 6) hx hb hts iw_X4_ifBuilt_4 hown hK hP 0 rfl rfl 0 (by decide) fl_X4_ifBuilt_10 rfl (v := .ref t0) rfl dX4_ifBuilt_1 ?_
  refine lv_iload_n hx hb dX4_ifBuilt_4 rfl (lv_at hl 1 rfl) ?_
  refine kV_i (E := E) (As := [.int (nI x)]) (rest := []) (wr := [(x0, .inr (4, [.ref t0, .ref s0, .ref p0, .ref g0, .ref xS, .ref xV])), (s0, .inr (2, [.ref t0, .ref sP, .ref sD, .ref sS, .ref sL, .ref sF, .int (nI pc), .int (nI ds), .int pr])), (sP, aI E 16 po), (sL, aI E 30 lS)]) ⟨hx, hb, hml, hown, hts⟩ (c_X3_hasSquare (l := l) (E := E) (sz := _) (h0 := t0) (sc := nI n) (f1 := nI k) (q1 := q1) (q2 := q2) (q3 := q3) (q4 := q4) (x := nI x) ) (cwV 1 hts gX4_ifBuilt_X3_hasSquare rfl rfl rfl (by decide +kernel) ⟨by rw [hR]; decide, by rw [hR]; decide⟩) hK hN hP hD hS hA [1] [0, 2, 3, 4] rfl (by decide) rfl (by decide) (by decide) 1 3 rfl rfl rfl hl.1 rfl (Nat.le_of_ble_eq_true rfl) dX4_ifBuilt_5 ⟨Nat.zero_le _, Nat.zero_le _⟩ (fun H locs hP hD hS => ?_)
  have hP : va_P E.1 vwCl [(x0, .inr (4, [.ref t0, .ref s0, .ref p0, .ref g0, .ref xS, .ref xV])), (s0, .inr (2, [.ref t0, .ref sP, .ref sD, .ref sS, .ref sL, .ref sF, .int (nI pc), .int (nI ds), .int pr])), (sP, aI E 16 po), (sL, aI E 30 lS), (t0, .inr (3, [.int (nI n), .int (nI k), .ref q1, .ref q2, .ref q3, .ref q4]))] H := hP
  have hD : va_D A [(x0, .inr (4, [.ref t0, .ref s0, .ref p0, .ref g0, .ref xS, .ref xV])), (s0, .inr (2, [.ref t0, .ref sP, .ref sD, .ref sS, .ref sL, .ref sF, .int (nI pc), .int (nI ds), .int pr])), (sP, aI E 16 po), (sL, aI E 30 lS), (t0, .inr (3, [.int (nI n), .int (nI k), .ref q1, .ref q2, .ref q3, .ref q4]))] := hD
  refine rk_if_eqB (tgt := 22) hx hb dX4_ifBuilt_8 (by decide) (fun q => absurd q (by rw [inR_ok gx (by omega)]; decide)) (fun zc8 => ?_)
  refine lv_aload_n hx hb dX4_ifBuilt_11 rfl (lv_at hl 0 rfl) ?_
  refine rk_get (ci := 4) (C := RX4) (T := TX4) (N := 6) hx hb hts iw_X4_ifBuilt_4 hown hK hP 0 rfl rfl 0 (by decide) fl_X4_ifBuilt_10 rfl (v := .ref t0) rfl dX4_ifBuilt_12 ?_
  refine lv_iload_n hx hb dX4_ifBuilt_15 rfl (lv_at hl 2 rfl) ?_
  refine kV_i (E := E) (As := [.int (nI y)]) (rest := []) (wr := [(x0, .inr (4, [.ref t0, .ref s0, .ref p0, .ref g0, .ref xS, .ref xV])), (s0, .inr (2, [.ref t0, .ref sP, .ref sD, .ref sS, .ref sL, .ref sF, .int (nI pc), .int (nI ds), .int pr])), (sP, aI E 16 po), (sL, aI E 30 lS)]) ⟨hx, hb, hml, hown, hts⟩ (c_X3_hasSquare (l := l) (E := E) (sz := _) (h0 := t0) (sc := nI n) (f1 := nI k) (q1 := q1) (q2 := q2) (q3 := q3) (q4 := q4) (x := nI y) ) (cwV 1 hts gX4_ifBuilt_X3_hasSquare rfl rfl rfl (by decide +kernel) ⟨by rw [hR]; decide, by rw [hR]; decide⟩) hK hN hP hD hS hA [4] [0, 1, 2, 3] rfl (by decide) rfl (by decide) (by decide) 4 3 rfl rfl rfl hl.1 rfl (Nat.le_of_ble_eq_true rfl) dX4_ifBuilt_16 ⟨Nat.zero_le _, Nat.zero_le _⟩ (fun H locs hP hD hS => ?_)
  have hP : va_P E.1 vwCl [(x0, .inr (4, [.ref t0, .ref s0, .ref p0, .ref g0, .ref xS, .ref xV])), (s0, .inr (2, [.ref t0, .ref sP, .ref sD, .ref sS, .ref sL, .ref sF, .int (nI pc), .int (nI ds), .int pr])), (sP, aI E 16 po), (sL, aI E 30 lS), (t0, .inr (3, [.int (nI n), .int (nI k), .ref q1, .ref q2, .ref q3, .ref q4]))] H := hP
  have hD : va_D A [(x0, .inr (4, [.ref t0, .ref s0, .ref p0, .ref g0, .ref xS, .ref xV])), (s0, .inr (2, [.ref t0, .ref sP, .ref sD, .ref sS, .ref sL, .ref sF, .int (nI pc), .int (nI ds), .int pr])), (sP, aI E 16 po), (sL, aI E 30 lS), (t0, .inr (3, [.int (nI n), .int (nI k), .ref q1, .ref q2, .ref q3, .ref q4]))] := hD
  refine rk_if_neB (tgt := 24) hx hb dX4_ifBuilt_19 (by decide) (fun zc19 => ?_) (fun q => absurd q (by rw [inR_ok gy (by omega)]; decide))
  refine lv_iload_n hx hb dX4_ifBuilt_24 rfl (lv_at hl 1 rfl) ?_
  refine lv_iload_n hx hb dX4_ifBuilt_25 rfl (lv_at hl 2 rfl) ?_
  refine rk_neN (tgt := 32) hx hb (by omega) (by omega) dX4_ifBuilt_26 (by decide) (fun zc26 => ?_) (fun q => absurd q gne)
  refine lv_aload_n hx hb dX4_ifBuilt_32 rfl (lv_at hl 0 rfl) ?_
  refine rk_get (ci := 4) (C := RX4) (T := TX4) (N := 6) hx hb hts iw_X4_ifBuilt_4 hown hK hP 0 rfl rfl 1 (by decide) fl_X4_ifBuilt_21 rfl (v := .ref s0) rfl dX4_ifBuilt_33 ?_
  refine lv_iload_n hx hb dX4_ifBuilt_36 rfl (lv_at hl 1 rfl) ?_
  refine lv_iload_n hx hb dX4_ifBuilt_37 rfl (lv_at hl 2 rfl) ?_
  refine kV_i (E := E) (As := [.int (nI x), .int (nI y)]) (rest := []) (wr := [(x0, .inr (4, [.ref t0, .ref s0, .ref p0, .ref g0, .ref xS, .ref xV]))]) ⟨hx, hb, hml, hown, hts⟩ (c_X2_roadsBetween (l := l) (E := E) (sz := _) (s0 := s0) (t0 := t0) (sP := sP) (sD := sD) (sS := sS) (sL := sL) (sF := sF) (q1 := q1) (q2 := q2) (q3 := q3) (q4 := q4) (sc := nI n) (k := k) (pc := nI pc) (ds := nI ds) (pr := pr) (x := x) (y := nI y) (po := po) (lS := lS) (g1 := by first | assumption | omega) (gk := by first | assumption | omega)) (cwV 2 hts gX4_ifBuilt_X2_roadsBetween rfl rfl rfl (by decide +kernel) ⟨by rw [hR]; decide, by rw [hR]; decide⟩) hK hN hP hD hS hA [1, 4, 2, 3] [0] rfl (by decide) rfl (by decide) (by decide) 1 2 rfl rfl rfl hl.1 rfl (Nat.le_of_ble_eq_true rfl) dX4_ifBuilt_38 ⟨Nat.zero_le _, Nat.zero_le _⟩ (fun H locs hP hD hS => ?_)
  have hP : va_P E.1 vwCl [(x0, .inr (4, [.ref t0, .ref s0, .ref p0, .ref g0, .ref xS, .ref xV])), (s0, .inr (2, [.ref t0, .ref sP, .ref sD, .ref sS, .ref sL, .ref sF, .int (nI pc), .int (nI ds), .int pr])), (t0, .inr (3, [.int (nI n), .int (nI k), .ref q1, .ref q2, .ref q3, .ref q4])), (sP, aI E 16 po), (sL, aI E 30 lS)] H := hP
  have hD : va_D A [(x0, .inr (4, [.ref t0, .ref s0, .ref p0, .ref g0, .ref xS, .ref xV])), (s0, .inr (2, [.ref t0, .ref sP, .ref sD, .ref sS, .ref sL, .ref sF, .int (nI pc), .int (nI ds), .int pr])), (t0, .inr (3, [.int (nI n), .int (nI k), .ref q1, .ref q2, .ref q3, .ref q4])), (sP, aI E 16 po), (sL, aI E 30 lS)] := hD
  refine kS_i (E := E) (As := [.int (rBt po lS x (nI y) k)]) (rest := []) (wr := [(x0, .inr (4, [.ref t0, .ref s0, .ref p0, .ref g0, .ref xS, .ref xV])), (s0, .inr (2, [.ref t0, .ref sP, .ref sD, .ref sS, .ref sL, .ref sF, .int (nI pc), .int (nI ds), .int pr])), (t0, .inr (3, [.int (nI n), .int (nI k), .ref q1, .ref q2, .ref q3, .ref q4])), (sP, aI E 16 po), (sL, aI E 30 lS)]) ⟨hx, hb, hml, hown, hts⟩ (c_J6_bitCount_0f7a4 (l := l) (E := E) (sz := _) (x := rBt po lS x (nI y) k)) ⟨callB_of 1 hts ggX4_ifBuilt_J6_bitCount_0f7a4 rfl rfl rfl (hts _ inJ6_X4_ifBuilt) (hts _ ml130_X4_ifBuilt) (by decide +kernel) ⟨by rw [hR]; decide, by rw [hR]; decide⟩, hts _ stJ6_X4_ifBuilt⟩ hK hN hP hD hS hA [] [0, 1, 2, 3, 4] rfl (by decide) rfl (by decide) (by decide) rfl hl.1 rfl (Nat.le_of_ble_eq_true rfl) dX4_ifBuilt_41 ⟨Nat.zero_le _, Nat.zero_le _⟩ (fun H locs hP hD hS => ?_)
  have hP : va_P E.1 vwCl [(x0, .inr (4, [.ref t0, .ref s0, .ref p0, .ref g0, .ref xS, .ref xV])), (s0, .inr (2, [.ref t0, .ref sP, .ref sD, .ref sS, .ref sL, .ref sF, .int (nI pc), .int (nI ds), .int pr])), (t0, .inr (3, [.int (nI n), .int (nI k), .ref q1, .ref q2, .ref q3, .ref q4])), (sP, aI E 16 po), (sL, aI E 30 lS)] H := hP
  have hD : va_D A [(x0, .inr (4, [.ref t0, .ref s0, .ref p0, .ref g0, .ref xS, .ref xV])), (s0, .inr (2, [.ref t0, .ref sP, .ref sD, .ref sS, .ref sL, .ref sF, .int (nI pc), .int (nI ds), .int pr])), (t0, .inr (3, [.int (nI n), .int (nI k), .ref q1, .ref q2, .ref q3, .ref q4])), (sP, aI E 16 po), (sL, aI E 30 lS)] := hD
  refine lv_istore (lv' := [(4, .int (nI (popc (rBt po lS x (nI y) k)))), (0, .ref x0), (1, .int (nI x)), (2, .int (nI y)), (3, .int w)]) hx hb dX4_ifBuilt_44 hl (by decide) rfl (fun ls hl => ?_)
  refine lv_iload_n hx hb dX4_ifBuilt_46 rfl (lv_at hl 4 rfl) ?_
  by_cases w47_0 : w = nI 0
  · subst w47_0
    refine lv_tableIn (tgt := 72) hx hb dX4_ifBuilt_47 (by decide) (by decide) rfl (by decide) ?_
    refine lv_iload hx hb dX4_ifBuilt_72 (lv_at hl 0 rfl) ?_
    exact ret_i hQ hx hb hr hlocks (hP.sub [0, 2, 1, 3, 4] rfl) (hD.sub [0, 2, 1, 3, 4] (by decide) rfl) hS dX4_ifBuilt_74 (by rw [swl_0 (by decide)])
  by_cases w47_1 : w = nI 1
  · subst w47_1
    refine lv_tableIn (tgt := 75) hx hb dX4_ifBuilt_47 (by decide) (by decide) rfl (by decide) ?_
    refine lv_aload_n hx hb dX4_ifBuilt_75 rfl (lv_at hl 1 rfl) ?_
    refine rk_get (ci := 4) (C := RX4) (T := TX4) (N := 6) hx hb hts iw_X4_ifBuilt_4 hown hK hP 0 rfl rfl 1 (by decide) fl_X4_ifBuilt_21 rfl (v := .ref s0) rfl dX4_ifBuilt_76 ?_
    refine rk_get (ci := 2) (C := RX2) (T := TX2) (N := 9) hx hb hts iw_X4_ifBuilt_2 hown hK hP 1 rfl rfl 7 (by decide) fl_X4_ifBuilt_144 rfl (v := .int (nI ds)) rfl dX4_ifBuilt_79 ?_
    refine lv_iload hx hb dX4_ifBuilt_82 (lv_at hl 0 rfl) ?_
    refine lv_isub hx hb dX4_ifBuilt_84 ?_
    exact ret_i hQ hx hb hr hlocks (hP.sub [0, 2, 1, 3, 4] rfl) (hD.sub [0, 2, 1, 3, 4] (by decide) rfl) hS dX4_ifBuilt_85 (by rw [swl_s (by decide), swl_0 (by decide)])
  by_cases w47_2 : w = nI 2
  · subst w47_2
    refine lv_tableIn (tgt := 86) hx hb dX4_ifBuilt_47 (by decide) (by decide) rfl (by decide) ?_
    refine lv_aload_n hx hb dX4_ifBuilt_86 rfl (lv_at hl 1 rfl) ?_
    refine rk_get (ci := 4) (C := RX4) (T := TX4) (N := 6) hx hb hts iw_X4_ifBuilt_4 hown hK hP 0 rfl rfl 1 (by decide) fl_X4_ifBuilt_21 rfl (v := .ref s0) rfl dX4_ifBuilt_87 ?_
    refine lv_iload_n hx hb dX4_ifBuilt_90 rfl (lv_at hl 2 rfl) ?_
    refine lv_iload_n hx hb dX4_ifBuilt_91 rfl (lv_at hl 3 rfl) ?_
    refine kV_i (E := E) (As := [.int (nI x), .int (nI y)]) (rest := []) (wr := [(x0, .inr (4, [.ref t0, .ref s0, .ref p0, .ref g0, .ref xS, .ref xV])), (t0, .inr (3, [.int (nI n), .int (nI k), .ref q1, .ref q2, .ref q3, .ref q4])), (sL, aI E 30 lS)]) ⟨hx, hb, hml, hown, hts⟩ (c_X2_hangTogether (l := l) (E := E) (sz := _) (s0 := s0) (t0 := t0) (sP := sP) (sD := sD) (sS := sS) (sL := sL) (sF := sF) (q1 := 0) (q2 := 0) (q3 := 0) (q4 := 0) (pc := nI pc) (ds := nI ds) (pr := pr) (x := x) (y := nI y) (po := po) (g1 := by first | assumption | omega)) (cwV 2 hts gX4_ifBuilt_X2_hangTogether rfl rfl rfl (by decide +kernel) ⟨by rw [hR]; decide, by rw [hR]; decide⟩) hK hN hP hD hS hA [1, 3] [0, 2, 4] rfl (by decide) rfl (by decide) (by decide) 1 2 rfl rfl rfl hl.1 rfl (Nat.le_of_ble_eq_true rfl) dX4_ifBuilt_92 ⟨Nat.zero_le _, Nat.zero_le _⟩ (fun H locs hP hD hS => ?_)
    have hP : va_P E.1 vwCl [(x0, .inr (4, [.ref t0, .ref s0, .ref p0, .ref g0, .ref xS, .ref xV])), (t0, .inr (3, [.int (nI n), .int (nI k), .ref q1, .ref q2, .ref q3, .ref q4])), (sL, aI E 30 lS), (s0, .inr (2, [.ref t0, .ref sP, .ref sD, .ref sS, .ref sL, .ref sF, .int (nI pc), .int (nI ds), .int pr])), (sP, aI E 16 po)] H := hP
    have hD : va_D A [(x0, .inr (4, [.ref t0, .ref s0, .ref p0, .ref g0, .ref xS, .ref xV])), (t0, .inr (3, [.int (nI n), .int (nI k), .ref q1, .ref q2, .ref q3, .ref q4])), (sL, aI E 30 lS), (s0, .inr (2, [.ref t0, .ref sP, .ref sD, .ref sS, .ref sL, .ref sF, .int (nI pc), .int (nI ds), .int pr])), (sP, aI E 16 po)] := hD
    refine rk_if_eqB (tgt := 108) hx hb dX4_ifBuilt_95 (by decide) (fun zc95 => ?_) (fun zc95 => ?_)
    · refine lv_aload_n hx hb dX4_ifBuilt_108 rfl (lv_at hl 1 rfl) ?_
      refine rk_get (ci := 4) (C := RX4) (T := TX4) (N := 6) hx hb hts iw_X4_ifBuilt_4 hown hK hP 0 rfl rfl 1 (by decide) fl_X4_ifBuilt_21 rfl (v := .ref s0) rfl dX4_ifBuilt_109 ?_
      refine rk_get (ci := 2) (C := RX2) (T := TX2) (N := 9) hx hb hts iw_X4_ifBuilt_2 hown hK hP 3 rfl rfl 6 (by decide) fl_X4_ifBuilt_71 rfl (v := .int (nI pc)) rfl dX4_ifBuilt_112 ?_
      refine lv_iconst (v := nI 1) hx hb dX4_ifBuilt_115 (by decide) ?_
      refine lv_isub hx hb dX4_ifBuilt_116 ?_
      exact ret_i hQ hx hb hr hlocks (hP.sub [0, 1, 3, 4, 2] rfl) (hD.sub [0, 1, 3, 4, 2] (by decide) rfl) hS dX4_ifBuilt_117 (by rw [swl_s (by decide), swl_s (by decide), swl_0 (by decide)]; exact (if_neg (by rw [zc95]; decide)).symm)
    · refine lv_aload_n hx hb dX4_ifBuilt_98 rfl (lv_at hl 1 rfl) ?_
      refine rk_get (ci := 4) (C := RX4) (T := TX4) (N := 6) hx hb hts iw_X4_ifBuilt_4 hown hK hP 0 rfl rfl 1 (by decide) fl_X4_ifBuilt_21 rfl (v := .ref s0) rfl dX4_ifBuilt_99 ?_
      refine rk_get (ci := 2) (C := RX2) (T := TX2) (N := 9) hx hb hts iw_X4_ifBuilt_2 hown hK hP 3 rfl rfl 6 (by decide) fl_X4_ifBuilt_71 rfl (v := .int (nI pc)) rfl dX4_ifBuilt_102 ?_
      refine lv_goto (tgt := 117) hx hb dX4_ifBuilt_105 (by decide) ?_
      exact ret_i hQ hx hb hr hlocks (hP.sub [0, 1, 3, 4, 2] rfl) (hD.sub [0, 1, 3, 4, 2] (by decide) rfl) hS dX4_ifBuilt_117 (by rw [swl_s (by decide), swl_s (by decide), swl_0 (by decide)]; exact (if_pos zc95).symm)
  refine lv_tableOut (tgt := 118) hx hb dX4_ifBuilt_47 (tsw_out (N := 2) (by decide) (fun j hj => by rcases (show j = 0 ∨ j = 1 ∨ j = 2 by omega) with rfl | rfl | rfl <;> assumption)) (by decide) ?_
  refine lv_bipush (v := (-2)) hx hb dX4_ifBuilt_118 (by decide) ?_
  exact ret_i hQ hx hb hr hlocks (hP.sub [0, 2, 1, 3, 4] rfl) (hD.sub [0, 2, 1, 3, 4] (by decide) rfl) hS dX4_ifBuilt_120 (by simp only [swl]; rw [if_neg w47_0, if_neg w47_1, if_neg w47_2])
set_option maxHeartbeats 400000 in
set_option maxRecDepth 100000 in
theorem c_X4_bestBuilt_val (l : Launch) (E : EE) (sz : Nat) (x0 t0 s0 p0 g0 xS xV sP sD sS sL sF q1 q2 q3 q4 : Nat) (w : Int32) (gw : w < 0 ∨ nI 2 < w) : Ci l yX4_bestBuilt wsX4_bestBuilt 0 0 E [.ref x0, .int w] [(x0, .inr (4, [.ref t0, .ref s0, .ref p0, .ref g0, .ref xS, .ref xV]))] sz (-2) [(x0, .inr (4, [.ref t0, .ref s0, .ref p0, .ref g0, .ref xS, .ref xV]))] := by
  refine C_of (QQ := QI E (-2) [(x0, .inr (4, [.ref t0, .ref s0, .ref p0, .ref g0, .ref xS, .ref xV]))]) (cc := cX4_bestBuilt) (maxL := 8) (ret := (some .int)) (by decide +kernel) rfl (Nat.le_of_ble_eq_true rfl) ?_
  intro p e s m args below meth c A R Q ls hx hb hr hts hown hml hlocks hA hK hN hP hD hS hl hR hQ
  have hown : s.vm.findClass RX4 = some m.cls := hown
  have hl : lv_has ls 8 [(0, .ref x0), (1, .int w)] := hl
  refine lv_iload_n hx hb dX4_bestBuilt_0 rfl (lv_at hl 1 rfl) ?_
  refine lv_if_lt (tgt := 9) hx hb dX4_bestBuilt_1 (by decide) (fun zc1 => ?_) (fun zc1 => ?_)
  · refine lv_bipush (v := (-2)) hx hb dX4_bestBuilt_9 (by decide) ?_
    exact ret_i hQ hx hb hr hlocks (hP.sub [0] rfl) (hD.sub [0] (by decide) rfl) hS dX4_bestBuilt_11 (rfl)
  · refine lv_iload_n hx hb dX4_bestBuilt_4 rfl (lv_at hl 1 rfl) ?_
    refine lv_iconst (v := nI 2) hx hb dX4_bestBuilt_5 (by decide) ?_
    refine lv_icmp_le (tgt := 12) hx hb dX4_bestBuilt_6 (by decide) (fun q => absurd gw (fun z => z.elim zc1 (fun y => absurd q (Int32.not_le.mpr y)))) (fun zc6 => ?_)
    refine lv_bipush (v := (-2)) hx hb dX4_bestBuilt_9 (by decide) ?_
    exact ret_i hQ hx hb hr hlocks (hP.sub [0] rfl) (hD.sub [0] (by decide) rfl) hS dX4_bestBuilt_11 (rfl)
theorem iw_X4_bestBuilt_4 : ∀ w ∈ u_ws RX4 TX4 6, w ∈ wsX4_bestBuilt := by decide +kernel
theorem fl_X4_bestBuilt_21 : Cond.fieldLink RX4 21 (TX4 1).1 (TX4 1).2.1 (TX4 1).2.2.1 ∈ wsX4_bestBuilt := by decide +kernel
theorem fl_X4_bestBuilt_10 : Cond.fieldLink RX4 10 (TX4 0).1 (TX4 0).2.1 (TX4 0).2.2.1 ∈ wsX4_bestBuilt := by decide +kernel
theorem iw_X4_bestBuilt_3 : ∀ w ∈ u_ws RX3 TX3 6, w ∈ wsX4_bestBuilt := by decide +kernel
theorem fl_X4_bestBuilt_51 : Cond.fieldLink RX4 51 (TX3 0).1 (TX3 0).2.1 (TX3 0).2.2.1 ∈ wsX4_bestBuilt := by decide +kernel
set_option maxHeartbeats 400000 in
set_option maxRecDepth 100000 in
theorem c_X4_bestBuilt_ok (l : Launch) (E : EE) (sz : Nat) (x0 t0 s0 p0 g0 xS xV sP sD sS sL sF q1 q2 q3 q4 : Nat) (n k : Nat) (pc ds pr : Int32) (w : Nat) (po lS : Nat → Int32) (gn : n ≤ 16) (gk : k ≤ 30) (gw : w ≤ 2) : Ci l yX4_bestBuilt wsX4_bestBuilt 4 91 E [.ref x0, .int (nI w)] [(x0, .inr (4, [.ref t0, .ref s0, .ref p0, .ref g0, .ref xS, .ref xV])), (t0, .inr (3, [.int (nI n), .int (nI k), .ref q1, .ref q2, .ref q3, .ref q4])), (s0, .inr (2, [.ref t0, .ref sP, .ref sD, .ref sS, .ref sL, .ref sF, .int pc, .int ds, .int pr])), (sP, aI E 16 po), (sL, aI E 30 lS)] sz (if w = 2 then (bbO (pfA pr po lS k) n (pfA pr po lS k 0 1, 0, 1) n).1 else if w = 0 then nI (bbO (pfA pr po lS k) n (pfA pr po lS k 0 1, 0, 1) n).2.1 else nI (bbO (pfA pr po lS k) n (pfA pr po lS k 0 1, 0, 1) n).2.2) [(x0, .inr (4, [.ref t0, .ref s0, .ref p0, .ref g0, .ref xS, .ref xV])), (t0, .inr (3, [.int (nI n), .int (nI k), .ref q1, .ref q2, .ref q3, .ref q4])), (s0, .inr (2, [.ref t0, .ref sP, .ref sD, .ref sS, .ref sL, .ref sF, .int pc, .int ds, .int pr])), (sP, aI E 16 po), (sL, aI E 30 lS)] := by
  refine C_of (QQ := QI E (if w = 2 then (bbO (pfA pr po lS k) n (pfA pr po lS k 0 1, 0, 1) n).1 else if w = 0 then nI (bbO (pfA pr po lS k) n (pfA pr po lS k 0 1, 0, 1) n).2.1 else nI (bbO (pfA pr po lS k) n (pfA pr po lS k 0 1, 0, 1) n).2.2) [(x0, .inr (4, [.ref t0, .ref s0, .ref p0, .ref g0, .ref xS, .ref xV])), (t0, .inr (3, [.int (nI n), .int (nI k), .ref q1, .ref q2, .ref q3, .ref q4])), (s0, .inr (2, [.ref t0, .ref sP, .ref sD, .ref sS, .ref sL, .ref sF, .int pc, .int ds, .int pr])), (sP, aI E 16 po), (sL, aI E 30 lS)]) (cc := cX4_bestBuilt) (maxL := 8) (ret := (some .int)) (by decide +kernel) rfl (Nat.le_of_ble_eq_true rfl) ?_
  intro p e s m args below meth c A R Q ls hx hb hr hts hown hml hlocks hA hK hN hP hD hS hl hR hQ
  have hown : s.vm.findClass RX4 = some m.cls := hown
  have hl : lv_has ls 8 [(0, .ref x0), (1, .int (nI w))] := hl
  refine lv_iload_n hx hb dX4_bestBuilt_0 rfl (lv_at hl 1 rfl) ?_
  refine rk_if_ltN (tgt := 9) hx hb (by omega) dX4_bestBuilt_1 (by decide) ?_
  refine lv_iload_n hx hb dX4_bestBuilt_4 rfl (lv_at hl 1 rfl) ?_
  refine lv_iconst (v := nI 2) hx hb dX4_bestBuilt_5 (by decide) ?_
  refine rk_leN (tgt := 12) hx hb (by omega) (by omega) dX4_bestBuilt_6 (by decide) (fun zc6 => ?_) (fun q => absurd q (by omega))
  refine lv_iconst (v := nI 0) hx hb dX4_bestBuilt_12 (by decide) ?_
  refine lv_istore_n (lv' := [(2, .int (nI 0)), (0, .ref x0), (1, .int (nI w))]) hx hb dX4_bestBuilt_13 rfl hl (by decide) rfl (fun ls hl => ?_)
  refine lv_iconst (v := nI 1) hx hb dX4_bestBuilt_14 (by decide) ?_
  refine lv_istore_n (lv' := [(3, .int (nI 1)), (2, .int (nI 0)), (0, .ref x0), (1, .int (nI w))]) hx hb dX4_bestBuilt_15 rfl hl (by decide) rfl (fun ls hl => ?_)
  refine lv_aload_n hx hb dX4_bestBuilt_16 rfl (lv_at hl 2 rfl) ?_
  refine rk_get (ci := 4) (C := RX4) (T := TX4) (N := 6) hx hb hts iw_X4_bestBuilt_4 hown hK hP 0 rfl rfl 1 (by decide) fl_X4_bestBuilt_21 rfl (v := .ref s0) rfl dX4_bestBuilt_17 ?_
  refine lv_iload_n hx hb dX4_bestBuilt_20 rfl (lv_at hl 1 rfl) ?_
  refine lv_iload_n hx hb dX4_bestBuilt_21 rfl (lv_at hl 0 rfl) ?_
  refine kV_i (E := E) (As := [.int (nI 0), .int (nI 1)]) (rest := []) (wr := [(x0, .inr (4, [.ref t0, .ref s0, .ref p0, .ref g0, .ref xS, .ref xV]))]) ⟨hx, hb, hml, hown, hts⟩ (c_X2_partingRoadsAfter (l := l) (E := E) (sz := _) (s0 := s0) (t0 := t0) (sP := sP) (sD := sD) (sS := sS) (sL := sL) (sF := sF) (q1 := q1) (q2 := q2) (q3 := q3) (q4 := q4) (sc := nI n) (k := k) (pc := pc) (ds := ds) (pr := pr) (x := 0) (y := nI 1) (po := po) (lS := lS) (g1 := by first | assumption | omega) (gk := by first | assumption | omega)) (cwV 2 hts gX4_bestBuilt_X2_partingRoadsAfter rfl rfl rfl (by decide +kernel) ⟨by rw [hR]; decide, by rw [hR]; decide⟩) hK hN hP hD hS hA [2, 1, 3, 4] [0] rfl (by decide) rfl (by decide) (by decide) 2 2 rfl rfl rfl hl.1 rfl (Nat.le_of_ble_eq_true rfl) dX4_bestBuilt_22 ⟨Nat.zero_le _, Nat.zero_le _⟩ (fun H locs hP hD hS => ?_)
  have hP : va_P E.1 vwCl [(x0, .inr (4, [.ref t0, .ref s0, .ref p0, .ref g0, .ref xS, .ref xV])), (s0, .inr (2, [.ref t0, .ref sP, .ref sD, .ref sS, .ref sL, .ref sF, .int pc, .int ds, .int pr])), (t0, .inr (3, [.int (nI n), .int (nI k), .ref q1, .ref q2, .ref q3, .ref q4])), (sP, aI E 16 po), (sL, aI E 30 lS)] H := hP
  have hD : va_D A [(x0, .inr (4, [.ref t0, .ref s0, .ref p0, .ref g0, .ref xS, .ref xV])), (s0, .inr (2, [.ref t0, .ref sP, .ref sD, .ref sS, .ref sL, .ref sF, .int pc, .int ds, .int pr])), (t0, .inr (3, [.int (nI n), .int (nI k), .ref q1, .ref q2, .ref q3, .ref q4])), (sP, aI E 16 po), (sL, aI E 30 lS)] := hD
  refine lv_istore (lv' := [(4, .int (pAf pr po lS 0 (nI 1) k)), (3, .int (nI 1)), (2, .int (nI 0)), (0, .ref x0), (1, .int (nI w))]) hx hb dX4_bestBuilt_25 hl (by decide) rfl (fun ls hl => ?_)
  refine lv_iconst (v := nI 0) hx hb dX4_bestBuilt_27 (by decide) ?_
  refine lv_istore (lv' := [(5, .int (nI 0)), (4, .int (pAf pr po lS 0 (nI 1) k)), (3, .int (nI 1)), (2, .int (nI 0)), (0, .ref x0), (1, .int (nI w))]) hx hb dX4_bestBuilt_28 hl (by decide) rfl (fun ls hl => ?_)
  have L30 : ∀ (fu : Nat) (bl bh i : Nat) (bf : Int32), (eb : (bf, bl, bh) = bbO (pfA pr po lS k) n (pfA pr po lS k 0 1, 0, 1) i) → (gi : i ≤ n) → n - i < fu → ∀ (H : Heap) (locs : List Loc), va_P E.1 vwCl [(x0, .inr (4, [.ref t0, .ref s0, .ref p0, .ref g0, .ref xS, .ref xV])), (s0, .inr (2, [.ref t0, .ref sP, .ref sD, .ref sS, .ref sL, .ref sF, .int pc, .int ds, .int pr])), (t0, .inr (3, [.int (nI n), .int (nI k), .ref q1, .ref q2, .ref q3, .ref q4])), (sP, aI E 16 po), (sL, aI E 30 lS)] H → va_D A [(x0, .inr (4, [.ref t0, .ref s0, .ref p0, .ref g0, .ref xS, .ref xV])), (s0, .inr (2, [.ref t0, .ref sP, .ref sD, .ref sS, .ref sL, .ref sF, .int pc, .int ds, .int pr])), (t0, .inr (3, [.int (nI n), .int (nI k), .ref q1, .ref q2, .ref q3, .ref q4])), (sP, aI E 16 po), (sL, aI E 30 lS)] → va_S A s.heap H locs → ∀ (ls : Array Slot), lv_has ls 8 [(5, .int (nI i)), (4, .int bf), (3, .int (nI bh)), (2, .int (nI bl)), (0, .ref x0), (1, .int (nI w))] → W p l e R s m args below meth c H locs 0 0 Q (F0 m 30 ls []) := by
    intro fu
    induction fu with
    | zero => intro bl bh i bf eb gi hfu; exact absurd hfu (Nat.not_lt_zero _)
    | succ fu ih30 =>
      intro bl bh i bf eb gi hfu H locs hP hD hS ls hl
      refine lv_iload hx hb dX4_bestBuilt_30 (lv_at hl 0 rfl) ?_
      refine lv_aload_n hx hb dX4_bestBuilt_32 rfl (lv_at hl 4 rfl) ?_
      refine rk_get (ci := 4) (C := RX4) (T := TX4) (N := 6) hx hb hts iw_X4_bestBuilt_4 hown hK hP 0 rfl rfl 0 (by decide) fl_X4_bestBuilt_10 rfl (v := .ref t0) rfl dX4_bestBuilt_33 ?_
      refine rk_get (ci := 3) (C := RX3) (T := TX3) (N := 6) hx hb hts iw_X4_bestBuilt_3 hown hK hP 2 rfl rfl 0 (by decide) fl_X4_bestBuilt_51 rfl (v := .int (nI n)) rfl dX4_bestBuilt_36 ?_
      refine rk_geN (tgt := 102) hx hb (by omega) (by omega) dX4_bestBuilt_39 (by decide) (fun zc39 => ?_) (fun zc39 => ?_)
      · refine lv_iload_n hx hb dX4_bestBuilt_102 rfl (lv_at hl 5 rfl) ?_
        refine lv_iconst (v := nI 2) hx hb dX4_bestBuilt_103 (by decide) ?_
        refine rk_neN (tgt := 110) hx hb (by omega) (by omega) dX4_bestBuilt_104 (by decide) (fun zc104 => ?_) (fun zc104 => ?_)
        · refine lv_iload_n hx hb dX4_bestBuilt_110 rfl (lv_at hl 5 rfl) ?_
          refine rk_if_neN (tgt := 118) hx hb (by omega) dX4_bestBuilt_111 (by decide) (fun zc111 => ?_) (fun zc111 => ?_)
          · refine lv_iload_n hx hb dX4_bestBuilt_118 rfl (lv_at hl 2 rfl) ?_
            exact ret_i hQ hx hb hr hlocks (hP.sub [0, 2, 1, 3, 4] rfl) (hD.sub [0, 2, 1, 3, 4] (by decide) rfl) hS dX4_bestBuilt_119 (by obtain rfl : n = i := (by omega); rw [← eb]; first | exact (if_pos zc104).symm | (rw [if_neg zc104]; first | exact (if_pos zc111).symm | exact (if_neg zc111).symm))
          · refine lv_iload_n hx hb dX4_bestBuilt_114 rfl (lv_at hl 3 rfl) ?_
            refine lv_goto (tgt := 119) hx hb dX4_bestBuilt_115 (by decide) ?_
            exact ret_i hQ hx hb hr hlocks (hP.sub [0, 2, 1, 3, 4] rfl) (hD.sub [0, 2, 1, 3, 4] (by decide) rfl) hS dX4_bestBuilt_119 (by obtain rfl : n = i := (by omega); rw [← eb]; first | exact (if_pos zc104).symm | (rw [if_neg zc104]; first | exact (if_pos zc111).symm | exact (if_neg zc111).symm))
        · refine lv_iload hx hb dX4_bestBuilt_107 (lv_at hl 1 rfl) ?_
          exact ret_i hQ hx hb hr hlocks (hP.sub [0, 2, 1, 3, 4] rfl) (hD.sub [0, 2, 1, 3, 4] (by decide) rfl) hS dX4_bestBuilt_109 (by obtain rfl : n = i := (by omega); rw [← eb]; first | exact (if_pos zc104).symm | (rw [if_neg zc104]; first | exact (if_pos zc111).symm | exact (if_neg zc111).symm))
      · refine lv_iload hx hb dX4_bestBuilt_42 (lv_at hl 0 rfl) ?_
        refine lv_iconst (v := nI 1) hx hb dX4_bestBuilt_44 (by decide) ?_
        refine rk_iaddN hx hb dX4_bestBuilt_45 ?_
        refine lv_istore (lv' := [(6, .int (nI (i + 1))), (5, .int (nI i)), (4, .int bf), (3, .int (nI bh)), (2, .int (nI bl)), (0, .ref x0), (1, .int (nI w))]) hx hb dX4_bestBuilt_46 hl (by decide) rfl (fun ls hl => ?_)
        have L48 : ∀ (fu : Nat) (bl2 bh2 j : Nat) (bf2 : Int32), (eb2 : (bf2, bl2, bh2) = bbI (pfA pr po lS k) i (bf, bl, bh) j) → (gj : j ≤ n - (i + 1)) → n - (i + 1 + j) < fu → ∀ (H : Heap) (locs : List Loc), va_P E.1 vwCl [(x0, .inr (4, [.ref t0, .ref s0, .ref p0, .ref g0, .ref xS, .ref xV])), (s0, .inr (2, [.ref t0, .ref sP, .ref sD, .ref sS, .ref sL, .ref sF, .int pc, .int ds, .int pr])), (t0, .inr (3, [.int (nI n), .int (nI k), .ref q1, .ref q2, .ref q3, .ref q4])), (sP, aI E 16 po), (sL, aI E 30 lS)] H → va_D A [(x0, .inr (4, [.ref t0, .ref s0, .ref p0, .ref g0, .ref xS, .ref xV])), (s0, .inr (2, [.ref t0, .ref sP, .ref sD, .ref sS, .ref sL, .ref sF, .int pc, .int ds, .int pr])), (t0, .inr (3, [.int (nI n), .int (nI k), .ref q1, .ref q2, .ref q3, .ref q4])), (sP, aI E 16 po), (sL, aI E 30 lS)] → va_S A s.heap H locs → ∀ (ls : Array Slot), lv_has ls 8 [(6, .int (nI (i + 1 + j))), (5, .int (nI i)), (4, .int bf2), (3, .int (nI bh2)), (2, .int (nI bl2)), (0, .ref x0), (1, .int (nI w))] → W p l e R s m args below meth c H locs 0 0 Q (F0 m 48 ls []) := by
          intro fu
          induction fu with
          | zero => intro bl2 bh2 j bf2 eb2 gj hfu; exact absurd hfu (Nat.not_lt_zero _)
          | succ fu ih48 =>
            intro bl2 bh2 j bf2 eb2 gj hfu H locs hP hD hS ls hl
            refine lv_iload hx hb dX4_bestBuilt_48 (lv_at hl 0 rfl) ?_
            refine lv_aload_n hx hb dX4_bestBuilt_50 rfl (lv_at hl 5 rfl) ?_
            refine rk_get (ci := 4) (C := RX4) (T := TX4) (N := 6) hx hb hts iw_X4_bestBuilt_4 hown hK hP 0 rfl rfl 0 (by decide) fl_X4_bestBuilt_10 rfl (v := .ref t0) rfl dX4_bestBuilt_51 ?_
            refine rk_get (ci := 3) (C := RX3) (T := TX3) (N := 6) hx hb hts iw_X4_bestBuilt_3 hown hK hP 2 rfl rfl 0 (by decide) fl_X4_bestBuilt_51 rfl (v := .int (nI n)) rfl dX4_bestBuilt_54 ?_
            refine rk_geN (tgt := 96) hx hb (by omega) (by omega) dX4_bestBuilt_57 (by decide) (fun zc57 => ?_) (fun zc57 => ?_)
            · refine lv_iinc (v := nI (i + 1)) (lv' := [(5, .int (nI (i + 1))), (6, .int (nI (i + 1 + j))), (4, .int bf2), (3, .int (nI bh2)), (2, .int (nI bl2)), (0, .ref x0), (1, .int (nI w))]) hx hb dX4_bestBuilt_96 hl (k := 1) rfl (by rw [show Int32.ofInt 1 = nI 1 by decide]; exact nI_add _ _) (by decide) rfl (fun ls hl => ?_)
              refine lv_goto (tgt := 30) hx hb dX4_bestBuilt_99 (by decide) ?_
              exact ih30 bl2 bh2 (i + 1) bf2 (by rw [eb2, show j = n - (i + 1) by omega, eb]; rfl) (by first | assumption | omega | rfl) (by omega) _ _ (hP.sub [0, 1, 2, 3, 4] rfl) (hD.sub [0, 1, 2, 3, 4] (by decide) rfl) hS ls (lv_sub hl [0, 2, 3, 4, 5, 6] rfl)
            · refine lv_aload_n hx hb dX4_bestBuilt_60 rfl (lv_at hl 5 rfl) ?_
              refine rk_get (ci := 4) (C := RX4) (T := TX4) (N := 6) hx hb hts iw_X4_bestBuilt_4 hown hK hP 0 rfl rfl 1 (by decide) fl_X4_bestBuilt_21 rfl (v := .ref s0) rfl dX4_bestBuilt_61 ?_
              refine lv_iload hx hb dX4_bestBuilt_64 (lv_at hl 1 rfl) ?_
              refine lv_iload hx hb dX4_bestBuilt_66 (lv_at hl 0 rfl) ?_
              refine kV_i (E := E) (As := [.int (nI i), .int (nI (i + 1 + j))]) (rest := []) (wr := [(x0, .inr (4, [.ref t0, .ref s0, .ref p0, .ref g0, .ref xS, .ref xV]))]) ⟨hx, hb, hml, hown, hts⟩ (c_X2_partingRoadsAfter (l := l) (E := E) (sz := _) (s0 := s0) (t0 := t0) (sP := sP) (sD := sD) (sS := sS) (sL := sL) (sF := sF) (q1 := q1) (q2 := q2) (q3 := q3) (q4 := q4) (sc := nI n) (k := k) (pc := pc) (ds := ds) (pr := pr) (x := i) (y := nI (i + 1 + j)) (po := po) (lS := lS) (g1 := by first | assumption | omega) (gk := by first | assumption | omega)) (cwV 2 hts gX4_bestBuilt_X2_partingRoadsAfter rfl rfl rfl (by decide +kernel) ⟨by rw [hR]; decide, by rw [hR]; decide⟩) hK hN hP hD hS hA [1, 2, 3, 4] [0] rfl (by decide) rfl (by decide) (by decide) 1 2 rfl rfl rfl hl.1 rfl (Nat.le_of_ble_eq_true rfl) dX4_bestBuilt_68 ⟨Nat.zero_le _, Nat.zero_le _⟩ (fun H locs hP hD hS => ?_)
              have hP : va_P E.1 vwCl [(x0, .inr (4, [.ref t0, .ref s0, .ref p0, .ref g0, .ref xS, .ref xV])), (s0, .inr (2, [.ref t0, .ref sP, .ref sD, .ref sS, .ref sL, .ref sF, .int pc, .int ds, .int pr])), (t0, .inr (3, [.int (nI n), .int (nI k), .ref q1, .ref q2, .ref q3, .ref q4])), (sP, aI E 16 po), (sL, aI E 30 lS)] H := hP
              have hD : va_D A [(x0, .inr (4, [.ref t0, .ref s0, .ref p0, .ref g0, .ref xS, .ref xV])), (s0, .inr (2, [.ref t0, .ref sP, .ref sD, .ref sS, .ref sL, .ref sF, .int pc, .int ds, .int pr])), (t0, .inr (3, [.int (nI n), .int (nI k), .ref q1, .ref q2, .ref q3, .ref q4])), (sP, aI E 16 po), (sL, aI E 30 lS)] := hD
              refine lv_istore (lv' := [(7, .int (pAf pr po lS i (nI (i + 1 + j)) k)), (6, .int (nI (i + 1 + j))), (5, .int (nI i)), (4, .int bf2), (3, .int (nI bh2)), (2, .int (nI bl2)), (0, .ref x0), (1, .int (nI w))]) hx hb dX4_bestBuilt_71 hl (by decide) rfl (fun ls hl => ?_)
              refine lv_iload hx hb dX4_bestBuilt_73 (lv_at hl 0 rfl) ?_
              refine lv_iload hx hb dX4_bestBuilt_75 (lv_at hl 3 rfl) ?_
              refine lv_icmp_ge (tgt := 90) hx hb dX4_bestBuilt_77 (by decide) (fun zc77 => ?_) (fun zc77 => ?_)
              · refine lv_iinc (v := nI ((i + 1 + j) + 1)) (lv' := [(6, .int (nI ((i + 1 + j) + 1))), (7, .int (pAf pr po lS i (nI (i + 1 + j)) k)), (5, .int (nI i)), (4, .int bf2), (3, .int (nI bh2)), (2, .int (nI bl2)), (0, .ref x0), (1, .int (nI w))]) hx hb dX4_bestBuilt_90 hl (k := 1) rfl (by rw [show Int32.ofInt 1 = nI 1 by decide]; exact nI_add _ _) (by decide) rfl (fun ls hl => ?_)
                refine lv_goto (tgt := 48) hx hb dX4_bestBuilt_93 (by decide) ?_
                exact ih48 bl2 bh2 (j + 1) bf2 (by rw [bbI_f (by rw [← eb2]; exact zc77)]; exact eb2) (by first | assumption | omega | rfl) (by omega) _ _ (hP.sub [0, 1, 2, 3, 4] rfl) (hD.sub [0, 1, 2, 3, 4] (by decide) rfl) hS ls (lv_sub hl [0, 2, 3, 4, 5, 6, 7] rfl)
              · refine lv_iload hx hb dX4_bestBuilt_80 (lv_at hl 0 rfl) ?_
                refine lv_istore (lv' := [(4, .int (pAf pr po lS i (nI (i + 1 + j)) k)), (7, .int (pAf pr po lS i (nI (i + 1 + j)) k)), (6, .int (nI (i + 1 + j))), (5, .int (nI i)), (3, .int (nI bh2)), (2, .int (nI bl2)), (0, .ref x0), (1, .int (nI w))]) hx hb dX4_bestBuilt_82 hl (by decide) rfl (fun ls hl => ?_)
                refine lv_iload hx hb dX4_bestBuilt_84 (lv_at hl 3 rfl) ?_
                refine lv_istore_n (lv' := [(2, .int (nI i)), (4, .int (pAf pr po lS i (nI (i + 1 + j)) k)), (7, .int (pAf pr po lS i (nI (i + 1 + j)) k)), (6, .int (nI (i + 1 + j))), (5, .int (nI i)), (3, .int (nI bh2)), (0, .ref x0), (1, .int (nI w))]) hx hb dX4_bestBuilt_86 rfl hl (by decide) rfl (fun ls hl => ?_)
                refine lv_iload hx hb dX4_bestBuilt_87 (lv_at hl 3 rfl) ?_
                refine lv_istore_n (lv' := [(3, .int (nI (i + 1 + j))), (2, .int (nI i)), (4, .int (pAf pr po lS i (nI (i + 1 + j)) k)), (7, .int (pAf pr po lS i (nI (i + 1 + j)) k)), (6, .int (nI (i + 1 + j))), (5, .int (nI i)), (0, .ref x0), (1, .int (nI w))]) hx hb dX4_bestBuilt_89 rfl hl (by decide) rfl (fun ls hl => ?_)
                refine lv_iinc (v := nI ((i + 1 + j) + 1)) (lv' := [(6, .int (nI ((i + 1 + j) + 1))), (3, .int (nI (i + 1 + j))), (2, .int (nI i)), (4, .int (pAf pr po lS i (nI (i + 1 + j)) k)), (7, .int (pAf pr po lS i (nI (i + 1 + j)) k)), (5, .int (nI i)), (0, .ref x0), (1, .int (nI w))]) hx hb dX4_bestBuilt_90 hl (k := 4) rfl (by rw [show Int32.ofInt 1 = nI 1 by decide]; exact nI_add _ _) (by decide) rfl (fun ls hl => ?_)
                refine lv_goto (tgt := 48) hx hb dX4_bestBuilt_93 (by decide) ?_
                exact ih48 i (i + 1 + j) (j + 1) (pAf pr po lS i (nI (i + 1 + j)) k) (by rw [bbI_t (by rw [← eb2]; exact zc77)]; rfl) (by first | assumption | omega | rfl) (by omega) _ _ (hP.sub [0, 1, 2, 3, 4] rfl) (hD.sub [0, 1, 2, 3, 4] (by decide) rfl) hS ls (lv_sub hl [0, 5, 3, 1, 2, 6, 7] rfl)
        exact L48 ((n - (i + 1 + 0)) + 1) bl bh 0 bf (rfl) (by first | assumption | omega | rfl) (Nat.lt_succ_self _) _ _ (hP.sub [0, 1, 2, 3, 4] rfl) (hD.sub [0, 1, 2, 3, 4] (by decide) rfl) hS ls (lv_sub hl [0, 1, 2, 3, 4, 5, 6] rfl)
  exact L30 ((n - 0) + 1) 0 1 0 (pAf pr po lS 0 (nI 1) k) (rfl) (by first | assumption | omega | rfl) (Nat.lt_succ_self _) _ _ (hP.sub [0, 1, 2, 3, 4] rfl) (hD.sub [0, 1, 2, 3, 4] (by decide) rfl) hS ls (lv_sub hl [0, 1, 2, 3, 4, 5] rfl)
set_option maxHeartbeats 400000 in
set_option maxRecDepth 100000 in
theorem c_X4_worstLoss_val (l : Launch) (E : EE) (sz : Nat) (x0 t0 s0 p0 g0 xS xV sP sD sS sL sF q1 q2 q3 q4 : Nat) (w : Int32) (gw1 : ¬ w = 0) (gw2 : ¬ w = nI 1) : Ci l yX4_worstLoss wsX4_worstLoss 0 0 E [.ref x0, .int w] [(x0, .inr (4, [.ref t0, .ref s0, .ref p0, .ref g0, .ref xS, .ref xV]))] sz (-2) [(x0, .inr (4, [.ref t0, .ref s0, .ref p0, .ref g0, .ref xS, .ref xV]))] := by
  refine C_of (QQ := QI E (-2) [(x0, .inr (4, [.ref t0, .ref s0, .ref p0, .ref g0, .ref xS, .ref xV]))]) (cc := cX4_worstLoss) (maxL := 6) (ret := (some .int)) (by decide +kernel) rfl (Nat.le_of_ble_eq_true rfl) ?_
  intro p e s m args below meth c A R Q ls hx hb hr hts hown hml hlocks hA hK hN hP hD hS hl hR hQ
  have hown : s.vm.findClass RX4 = some m.cls := hown
  have hl : lv_has ls 6 [(0, .ref x0), (1, .int w)] := hl
  refine lv_iload_n hx hb dX4_worstLoss_0 rfl (lv_at hl 1 rfl) ?_
  refine lv_if_eq (tgt := 12) hx hb dX4_worstLoss_1 (by decide) (fun q => absurd q gw1) (fun zc1 => ?_)
  refine lv_iload_n hx hb dX4_worstLoss_4 rfl (lv_at hl 1 rfl) ?_
  refine lv_iconst (v := nI 1) hx hb dX4_worstLoss_5 (by decide) ?_
  refine lv_icmp_eq (tgt := 12) hx hb dX4_worstLoss_6 (by decide) (fun q => absurd q gw2) (fun zc6 => ?_)
  refine lv_bipush (v := (-2)) hx hb dX4_worstLoss_9 (by decide) ?_
  exact ret_i hQ hx hb hr hlocks (hP.sub [0] rfl) (hD.sub [0] (by decide) rfl) hS dX4_worstLoss_11 (rfl)
theorem iw_X4_worstLoss_4 : ∀ w ∈ u_ws RX4 TX4 6, w ∈ wsX4_worstLoss := by decide +kernel
theorem fl_X4_worstLoss_10 : Cond.fieldLink RX4 10 (TX4 0).1 (TX4 0).2.1 (TX4 0).2.2.1 ∈ wsX4_worstLoss := by decide +kernel
theorem iw_X4_worstLoss_3 : ∀ w ∈ u_ws RX3 TX3 6, w ∈ wsX4_worstLoss := by decide +kernel
theorem fl_X4_worstLoss_64 : Cond.fieldLink RX4 64 (TX3 1).1 (TX3 1).2.1 (TX3 1).2.2.1 ∈ wsX4_worstLoss := by decide +kernel
set_option maxHeartbeats 400000 in
set_option maxRecDepth 100000 in
theorem c_X4_worstLoss_none (l : Launch) (E : EE) (sz : Nat) (x0 t0 s0 p0 g0 xS xV sP sD sS sL sF q1 q2 q3 q4 : Nat) (n w : Nat) (gw : w ≤ 1) : Ci l yX4_worstLoss wsX4_worstLoss 0 0 E [.ref x0, .int (nI w)] [(x0, .inr (4, [.ref t0, .ref s0, .ref p0, .ref g0, .ref xS, .ref xV])), (t0, .inr (3, [.int (nI n), .int (nI 0), .ref q1, .ref q2, .ref q3, .ref q4]))] sz (-6) [(x0, .inr (4, [.ref t0, .ref s0, .ref p0, .ref g0, .ref xS, .ref xV])), (t0, .inr (3, [.int (nI n), .int (nI 0), .ref q1, .ref q2, .ref q3, .ref q4]))] := by
  refine C_of (QQ := QI E (-6) [(x0, .inr (4, [.ref t0, .ref s0, .ref p0, .ref g0, .ref xS, .ref xV])), (t0, .inr (3, [.int (nI n), .int (nI 0), .ref q1, .ref q2, .ref q3, .ref q4]))]) (cc := cX4_worstLoss) (maxL := 6) (ret := (some .int)) (by decide +kernel) rfl (Nat.le_of_ble_eq_true rfl) ?_
  intro p e s m args below meth c A R Q ls hx hb hr hts hown hml hlocks hA hK hN hP hD hS hl hR hQ
  have hown : s.vm.findClass RX4 = some m.cls := hown
  have hl : lv_has ls 6 [(0, .ref x0), (1, .int (nI w))] := hl
  refine lv_iload_n hx hb dX4_worstLoss_0 rfl (lv_at hl 1 rfl) ?_
  refine rk_if_eqN (tgt := 12) hx hb (by omega) dX4_worstLoss_1 (by decide) (fun zc1 => ?_) (fun zc1 => ?_)
  · refine lv_aload_n hx hb dX4_worstLoss_12 rfl (lv_at hl 0 rfl) ?_
    refine rk_get (ci := 4) (C := RX4) (T := TX4) (N := 6) hx hb hts iw_X4_worstLoss_4 hown hK hP 0 rfl rfl 0 (by decide) fl_X4_worstLoss_10 rfl (v := .ref t0) rfl dX4_worstLoss_13 ?_
    refine rk_get (ci := 3) (C := RX3) (T := TX3) (N := 6) hx hb hts iw_X4_worstLoss_3 hown hK hP 1 rfl rfl 1 (by decide) fl_X4_worstLoss_64 rfl (v := .int (nI 0)) rfl dX4_worstLoss_16 ?_
    refine lv_if_ne (tgt := 25) hx hb dX4_worstLoss_19 (by decide) (fun q => absurd q (by decide)) (fun _ => ?_)
    refine lv_bipush (v := (-6)) hx hb dX4_worstLoss_22 (by decide) ?_
    exact ret_i hQ hx hb hr hlocks (hP.sub [0, 1] rfl) (hD.sub [0, 1] (by decide) rfl) hS dX4_worstLoss_24 (rfl)
  · refine lv_iload_n hx hb dX4_worstLoss_4 rfl (lv_at hl 1 rfl) ?_
    refine lv_iconst (v := nI 1) hx hb dX4_worstLoss_5 (by decide) ?_
    refine rk_eqN (tgt := 12) hx hb (by omega) (by omega) dX4_worstLoss_6 (by decide) (fun zc6 => ?_) (fun q => absurd (by omega) q)
    refine lv_aload_n hx hb dX4_worstLoss_12 rfl (lv_at hl 0 rfl) ?_
    refine rk_get (ci := 4) (C := RX4) (T := TX4) (N := 6) hx hb hts iw_X4_worstLoss_4 hown hK hP 0 rfl rfl 0 (by decide) fl_X4_worstLoss_10 rfl (v := .ref t0) rfl dX4_worstLoss_13 ?_
    refine rk_get (ci := 3) (C := RX3) (T := TX3) (N := 6) hx hb hts iw_X4_worstLoss_3 hown hK hP 1 rfl rfl 1 (by decide) fl_X4_worstLoss_64 rfl (v := .int (nI 0)) rfl dX4_worstLoss_16 ?_
    refine lv_if_ne (tgt := 25) hx hb dX4_worstLoss_19 (by decide) (fun q => absurd q (by decide)) (fun _ => ?_)
    refine lv_bipush (v := (-6)) hx hb dX4_worstLoss_22 (by decide) ?_
    exact ret_i hQ hx hb hr hlocks (hP.sub [0, 1] rfl) (hD.sub [0, 1] (by decide) rfl) hS dX4_worstLoss_24 (rfl)
theorem fl_X4_worstLoss_21 : Cond.fieldLink RX4 21 (TX4 1).1 (TX4 1).2.1 (TX4 1).2.2.1 ∈ wsX4_worstLoss := by decide +kernel
set_option maxHeartbeats 400000 in
set_option maxRecDepth 100000 in
theorem c_X4_worstLoss_ok (l : Launch) (E : EE) (sz : Nat) (x0 t0 s0 p0 g0 xS xV sP sD sS sL sF q1 q2 q3 q4 : Nat) (n k : Nat) (pc ds pr : Int32) (w : Nat) (po lS lo : Nat → Int32) (gn : n ≤ 16) (gk : k ≤ 30) (gw : w ≤ 1) (gk1 : 1 ≤ k) (gl : okL lo k) : Ci l yX4_worstLoss wsX4_worstLoss 3 67 E [.ref x0, .int (nI w)] [(x0, .inr (4, [.ref t0, .ref s0, .ref p0, .ref g0, .ref xS, .ref xV])), (t0, .inr (3, [.int (nI n), .int (nI k), .ref q1, .ref q2, .ref q3, .ref q4])), (s0, .inr (2, [.ref t0, .ref sP, .ref sD, .ref sS, .ref sL, .ref sF, .int pc, .int ds, .int pr])), (sP, aI E 16 po), (sL, aI E 30 lS), (q1, aI E 30 lo)] sz (if w = 0 then nI (wlR (ppR po lS (clp lo)) k).1 else (wlR (ppR po lS (clp lo)) k).2) [(x0, .inr (4, [.ref t0, .ref s0, .ref p0, .ref g0, .ref xS, .ref xV])), (t0, .inr (3, [.int (nI n), .int (nI k), .ref q1, .ref q2, .ref q3, .ref q4])), (s0, .inr (2, [.ref t0, .ref sP, .ref sD, .ref sS, .ref sL, .ref sF, .int pc, .int ds, .int pr])), (sP, aI E 16 po), (sL, aI E 30 lS), (q1, aI E 30 lo)] := by
  refine C_of (QQ := QI E (if w = 0 then nI (wlR (ppR po lS (clp lo)) k).1 else (wlR (ppR po lS (clp lo)) k).2) [(x0, .inr (4, [.ref t0, .ref s0, .ref p0, .ref g0, .ref xS, .ref xV])), (t0, .inr (3, [.int (nI n), .int (nI k), .ref q1, .ref q2, .ref q3, .ref q4])), (s0, .inr (2, [.ref t0, .ref sP, .ref sD, .ref sS, .ref sL, .ref sF, .int pc, .int ds, .int pr])), (sP, aI E 16 po), (sL, aI E 30 lS), (q1, aI E 30 lo)]) (cc := cX4_worstLoss) (maxL := 6) (ret := (some .int)) (by decide +kernel) rfl (Nat.le_of_ble_eq_true rfl) ?_
  intro p e s m args below meth c A R Q ls hx hb hr hts hown hml hlocks hA hK hN hP hD hS hl hR hQ
  have hown : s.vm.findClass RX4 = some m.cls := hown
  have hl : lv_has ls 6 [(0, .ref x0), (1, .int (nI w))] := hl
  refine lv_iload_n hx hb dX4_worstLoss_0 rfl (lv_at hl 1 rfl) ?_
  refine rk_if_eqN (tgt := 12) hx hb (by omega) dX4_worstLoss_1 (by decide) (fun zc1 => ?_) (fun zc1 => ?_)
  · refine lv_aload_n hx hb dX4_worstLoss_12 rfl (lv_at hl 0 rfl) ?_
    refine rk_get (ci := 4) (C := RX4) (T := TX4) (N := 6) hx hb hts iw_X4_worstLoss_4 hown hK hP 0 rfl rfl 0 (by decide) fl_X4_worstLoss_10 rfl (v := .ref t0) rfl dX4_worstLoss_13 ?_
    refine rk_get (ci := 3) (C := RX3) (T := TX3) (N := 6) hx hb hts iw_X4_worstLoss_3 hown hK hP 1 rfl rfl 1 (by decide) fl_X4_worstLoss_64 rfl (v := .int (nI k)) rfl dX4_worstLoss_16 ?_
    refine rk_if_neN (tgt := 25) hx hb (by omega) dX4_worstLoss_19 (by decide) (fun zc19 => ?_) (fun q => absurd q (by omega))
    refine lv_iconst (v := nI 0) hx hb dX4_worstLoss_25 (by decide) ?_
    refine lv_istore_n (lv' := [(2, .int (nI 0)), (0, .ref x0), (1, .int (nI w))]) hx hb dX4_worstLoss_26 rfl hl (by decide) rfl (fun ls hl => ?_)
    refine lv_aload_n hx hb dX4_worstLoss_27 rfl (lv_at hl 1 rfl) ?_
    refine rk_get (ci := 4) (C := RX4) (T := TX4) (N := 6) hx hb hts iw_X4_worstLoss_4 hown hK hP 0 rfl rfl 1 (by decide) fl_X4_worstLoss_21 rfl (v := .ref s0) rfl dX4_worstLoss_28 ?_
    refine lv_iload_n hx hb dX4_worstLoss_31 rfl (lv_at hl 0 rfl) ?_
    refine kV_i (E := E) (As := [.int (nI 0)]) (rest := []) (wr := [(x0, .inr (4, [.ref t0, .ref s0, .ref p0, .ref g0, .ref xS, .ref xV]))]) ⟨hx, hb, hml, hown, hts⟩ (c_X2_pairsParted (l := l) (E := E) (sz := _) (s0 := s0) (t0 := t0) (sP := sP) (sD := sD) (sS := sS) (sL := sL) (sF := sF) (q1 := q1) (q2 := q2) (q3 := q3) (q4 := q4) (sc := nI n) (k := k) (pc := pc) (ds := ds) (pr := pr) (r := 0) (po := po) (lS := lS) (lo := lo) (a := clp lo) (gr := by first | assumption | omega) (gk := by first | assumption | omega) (glo := fun r h => (gl r h).1) (ga := fun r h => (gl r h).2)) (cwV 1 hts gX4_worstLoss_X2_pairsParted rfl rfl rfl (by decide +kernel) ⟨by rw [hR]; decide, by rw [hR]; decide⟩) hK hN hP hD hS hA [2, 1, 3, 4, 5] [0] rfl (by decide) rfl (by decide) (by decide) 2 2 rfl rfl rfl hl.1 rfl (Nat.le_of_ble_eq_true rfl) dX4_worstLoss_32 ⟨Nat.zero_le _, Nat.zero_le _⟩ (fun H locs hP hD hS => ?_)
    have hP : va_P E.1 vwCl [(x0, .inr (4, [.ref t0, .ref s0, .ref p0, .ref g0, .ref xS, .ref xV])), (s0, .inr (2, [.ref t0, .ref sP, .ref sD, .ref sS, .ref sL, .ref sF, .int pc, .int ds, .int pr])), (t0, .inr (3, [.int (nI n), .int (nI k), .ref q1, .ref q2, .ref q3, .ref q4])), (sP, aI E 16 po), (sL, aI E 30 lS), (q1, aI E 30 lo)] H := hP
    have hD : va_D A [(x0, .inr (4, [.ref t0, .ref s0, .ref p0, .ref g0, .ref xS, .ref xV])), (s0, .inr (2, [.ref t0, .ref sP, .ref sD, .ref sS, .ref sL, .ref sF, .int pc, .int ds, .int pr])), (t0, .inr (3, [.int (nI n), .int (nI k), .ref q1, .ref q2, .ref q3, .ref q4])), (sP, aI E 16 po), (sL, aI E 30 lS), (q1, aI E 30 lo)] := hD
    refine lv_istore_n (lv' := [(3, .int (nI (popc (sqB po lS ((clp lo) 0) 0)) * (nI (popc (po ((clp lo) 0))) - nI (popc (sqB po lS ((clp lo) 0) 0))))), (2, .int (nI 0)), (0, .ref x0), (1, .int (nI w))]) hx hb dX4_worstLoss_35 rfl hl (by decide) rfl (fun ls hl => ?_)
    refine lv_iconst (v := nI 1) hx hb dX4_worstLoss_36 (by decide) ?_
    refine lv_istore (lv' := [(4, .int (nI 1)), (3, .int (nI (popc (sqB po lS ((clp lo) 0) 0)) * (nI (popc (po ((clp lo) 0))) - nI (popc (sqB po lS ((clp lo) 0) 0))))), (2, .int (nI 0)), (0, .ref x0), (1, .int (nI w))]) hx hb dX4_worstLoss_37 hl (by decide) rfl (fun ls hl => ?_)
    have L39 : ∀ (fu : Nat) (wr i : Nat) (mt : Int32), (ew : wr = (wlR (ppR po lS (clp lo)) i).1) → (em : mt = (wlR (ppR po lS (clp lo)) i).2) → (h1 : 1 ≤ i) → (h2 : i ≤ k) → k - i < fu → ∀ (H : Heap) (locs : List Loc), va_P E.1 vwCl [(x0, .inr (4, [.ref t0, .ref s0, .ref p0, .ref g0, .ref xS, .ref xV])), (s0, .inr (2, [.ref t0, .ref sP, .ref sD, .ref sS, .ref sL, .ref sF, .int pc, .int ds, .int pr])), (t0, .inr (3, [.int (nI n), .int (nI k), .ref q1, .ref q2, .ref q3, .ref q4])), (sP, aI E 16 po), (sL, aI E 30 lS), (q1, aI E 30 lo)] H → va_D A [(x0, .inr (4, [.ref t0, .ref s0, .ref p0, .ref g0, .ref xS, .ref xV])), (s0, .inr (2, [.ref t0, .ref sP, .ref sD, .ref sS, .ref sL, .ref sF, .int pc, .int ds, .int pr])), (t0, .inr (3, [.int (nI n), .int (nI k), .ref q1, .ref q2, .ref q3, .ref q4])), (sP, aI E 16 po), (sL, aI E 30 lS), (q1, aI E 30 lo)] → va_S A s.heap H locs → ∀ (ls : Array Slot), lv_has ls 6 [(4, .int (nI i)), (3, .int mt), (2, .int (nI wr)), (0, .ref x0), (1, .int (nI w))] → W p l e R s m args below meth c H locs 0 0 Q (F0 m 39 ls []) := by
      intro fu
      induction fu with
      | zero => intro wr i mt ew em h1 h2 hfu; exact absurd hfu (Nat.not_lt_zero _)
      | succ fu ih39 =>
        intro wr i mt ew em h1 h2 hfu H locs hP hD hS ls hl
        refine lv_iload hx hb dX4_worstLoss_39 (lv_at hl 0 rfl) ?_
        refine lv_aload_n hx hb dX4_worstLoss_41 rfl (lv_at hl 3 rfl) ?_
        refine rk_get (ci := 4) (C := RX4) (T := TX4) (N := 6) hx hb hts iw_X4_worstLoss_4 hown hK hP 0 rfl rfl 0 (by decide) fl_X4_worstLoss_10 rfl (v := .ref t0) rfl dX4_worstLoss_42 ?_
        refine rk_get (ci := 3) (C := RX3) (T := TX3) (N := 6) hx hb hts iw_X4_worstLoss_3 hown hK hP 2 rfl rfl 1 (by decide) fl_X4_worstLoss_64 rfl (v := .int (nI k)) rfl dX4_worstLoss_45 ?_
        refine rk_geN (tgt := 80) hx hb (by omega) (by omega) dX4_worstLoss_48 (by decide) (fun zc48 => ?_) (fun zc48 => ?_)
        · refine lv_iload_n hx hb dX4_worstLoss_80 rfl (lv_at hl 4 rfl) ?_
          refine rk_if_neN (tgt := 88) hx hb (by omega) dX4_worstLoss_81 (by decide) (fun zc81 => ?_) (fun zc81 => ?_)
          · refine lv_iload_n hx hb dX4_worstLoss_88 rfl (lv_at hl 1 rfl) ?_
            exact ret_i hQ hx hb hr hlocks (hP.sub [0, 2, 1, 3, 4, 5] rfl) (hD.sub [0, 2, 1, 3, 4, 5] (by decide) rfl) hS dX4_worstLoss_89 (by obtain rfl : k = i := (by omega); rw [← ew, ← em]; first | exact (if_pos zc81).symm | exact (if_neg zc81).symm)
          · refine lv_iload_n hx hb dX4_worstLoss_84 rfl (lv_at hl 2 rfl) ?_
            refine lv_goto (tgt := 89) hx hb dX4_worstLoss_85 (by decide) ?_
            exact ret_i hQ hx hb hr hlocks (hP.sub [0, 2, 1, 3, 4, 5] rfl) (hD.sub [0, 2, 1, 3, 4, 5] (by decide) rfl) hS dX4_worstLoss_89 (by obtain rfl : k = i := (by omega); rw [← ew, ← em]; first | exact (if_pos zc81).symm | exact (if_neg zc81).symm)
        · refine lv_aload_n hx hb dX4_worstLoss_51 rfl (lv_at hl 3 rfl) ?_
          refine rk_get (ci := 4) (C := RX4) (T := TX4) (N := 6) hx hb hts iw_X4_worstLoss_4 hown hK hP 0 rfl rfl 1 (by decide) fl_X4_worstLoss_21 rfl (v := .ref s0) rfl dX4_worstLoss_52 ?_
          refine lv_iload hx hb dX4_worstLoss_55 (lv_at hl 0 rfl) ?_
          refine kV_i (E := E) (As := [.int (nI i)]) (rest := []) (wr := [(x0, .inr (4, [.ref t0, .ref s0, .ref p0, .ref g0, .ref xS, .ref xV]))]) ⟨hx, hb, hml, hown, hts⟩ (c_X2_pairsParted (l := l) (E := E) (sz := _) (s0 := s0) (t0 := t0) (sP := sP) (sD := sD) (sS := sS) (sL := sL) (sF := sF) (q1 := q1) (q2 := q2) (q3 := q3) (q4 := q4) (sc := nI n) (k := k) (pc := pc) (ds := ds) (pr := pr) (r := i) (po := po) (lS := lS) (lo := lo) (a := clp lo) (gr := by first | assumption | omega) (gk := by first | assumption | omega) (glo := fun r h => (gl r h).1) (ga := fun r h => (gl r h).2)) (cwV 1 hts gX4_worstLoss_X2_pairsParted rfl rfl rfl (by decide +kernel) ⟨by rw [hR]; decide, by rw [hR]; decide⟩) hK hN hP hD hS hA [1, 2, 3, 4, 5] [0] rfl (by decide) rfl (by decide) (by decide) 1 2 rfl rfl rfl hl.1 rfl (Nat.le_of_ble_eq_true rfl) dX4_worstLoss_57 ⟨Nat.zero_le _, Nat.zero_le _⟩ (fun H locs hP hD hS => ?_)
          have hP : va_P E.1 vwCl [(x0, .inr (4, [.ref t0, .ref s0, .ref p0, .ref g0, .ref xS, .ref xV])), (s0, .inr (2, [.ref t0, .ref sP, .ref sD, .ref sS, .ref sL, .ref sF, .int pc, .int ds, .int pr])), (t0, .inr (3, [.int (nI n), .int (nI k), .ref q1, .ref q2, .ref q3, .ref q4])), (sP, aI E 16 po), (sL, aI E 30 lS), (q1, aI E 30 lo)] H := hP
          have hD : va_D A [(x0, .inr (4, [.ref t0, .ref s0, .ref p0, .ref g0, .ref xS, .ref xV])), (s0, .inr (2, [.ref t0, .ref sP, .ref sD, .ref sS, .ref sL, .ref sF, .int pc, .int ds, .int pr])), (t0, .inr (3, [.int (nI n), .int (nI k), .ref q1, .ref q2, .ref q3, .ref q4])), (sP, aI E 16 po), (sL, aI E 30 lS), (q1, aI E 30 lo)] := hD
          refine lv_istore (lv' := [(5, .int (nI (popc (sqB po lS ((clp lo) i) i)) * (nI (popc (po ((clp lo) i))) - nI (popc (sqB po lS ((clp lo) i) i))))), (4, .int (nI i)), (3, .int mt), (2, .int (nI wr)), (0, .ref x0), (1, .int (nI w))]) hx hb dX4_worstLoss_60 hl (by decide) rfl (fun ls hl => ?_)
          refine lv_iload hx hb dX4_worstLoss_62 (lv_at hl 0 rfl) ?_
          refine lv_iload_n hx hb dX4_worstLoss_64 rfl (lv_at hl 2 rfl) ?_
          refine lv_icmp_le (tgt := 74) hx hb dX4_worstLoss_65 (by decide) (fun zc65 => ?_) (fun zc65 => ?_)
          · refine lv_iinc (v := nI (i + 1)) (lv' := [(4, .int (nI (i + 1))), (5, .int (nI (popc (sqB po lS ((clp lo) i) i)) * (nI (popc (po ((clp lo) i))) - nI (popc (sqB po lS ((clp lo) i) i))))), (3, .int mt), (2, .int (nI wr)), (0, .ref x0), (1, .int (nI w))]) hx hb dX4_worstLoss_74 hl (k := 1) rfl (by rw [show Int32.ofInt 1 = nI 1 by decide]; exact nI_add _ _) (by decide) rfl (fun ls hl => ?_)
            refine lv_goto (tgt := 39) hx hb dX4_worstLoss_77 (by decide) ?_
            exact ih39 wr (i + 1) mt (by subst ew; subst em; first | rw [wlR_t zc65] | rw [wlR_f zc65]) (by subst ew; subst em; first | (rw [wlR_t zc65]; rfl) | rw [wlR_f zc65]) (by first | assumption | omega | rfl) (by first | assumption | omega | rfl) (by omega) _ _ (hP.sub [0, 1, 2, 3, 4, 5] rfl) (hD.sub [0, 1, 2, 3, 4, 5] (by decide) rfl) hS ls (lv_sub hl [0, 2, 3, 4, 5] rfl)
          · refine lv_iload hx hb dX4_worstLoss_68 (lv_at hl 0 rfl) ?_
            refine lv_istore_n (lv' := [(3, .int (nI (popc (sqB po lS ((clp lo) i) i)) * (nI (popc (po ((clp lo) i))) - nI (popc (sqB po lS ((clp lo) i) i))))), (5, .int (nI (popc (sqB po lS ((clp lo) i) i)) * (nI (popc (po ((clp lo) i))) - nI (popc (sqB po lS ((clp lo) i) i))))), (4, .int (nI i)), (2, .int (nI wr)), (0, .ref x0), (1, .int (nI w))]) hx hb dX4_worstLoss_70 rfl hl (by decide) rfl (fun ls hl => ?_)
            refine lv_iload hx hb dX4_worstLoss_71 (lv_at hl 2 rfl) ?_
            refine lv_istore_n (lv' := [(2, .int (nI i)), (3, .int (nI (popc (sqB po lS ((clp lo) i) i)) * (nI (popc (po ((clp lo) i))) - nI (popc (sqB po lS ((clp lo) i) i))))), (5, .int (nI (popc (sqB po lS ((clp lo) i) i)) * (nI (popc (po ((clp lo) i))) - nI (popc (sqB po lS ((clp lo) i) i))))), (4, .int (nI i)), (0, .ref x0), (1, .int (nI w))]) hx hb dX4_worstLoss_73 rfl hl (by decide) rfl (fun ls hl => ?_)
            refine lv_iinc (v := nI (i + 1)) (lv' := [(4, .int (nI (i + 1))), (2, .int (nI i)), (3, .int (nI (popc (sqB po lS ((clp lo) i) i)) * (nI (popc (po ((clp lo) i))) - nI (popc (sqB po lS ((clp lo) i) i))))), (5, .int (nI (popc (sqB po lS ((clp lo) i) i)) * (nI (popc (po ((clp lo) i))) - nI (popc (sqB po lS ((clp lo) i) i))))), (0, .ref x0), (1, .int (nI w))]) hx hb dX4_worstLoss_74 hl (k := 3) rfl (by rw [show Int32.ofInt 1 = nI 1 by decide]; exact nI_add _ _) (by decide) rfl (fun ls hl => ?_)
            refine lv_goto (tgt := 39) hx hb dX4_worstLoss_77 (by decide) ?_
            exact ih39 i (i + 1) (nI (popc (sqB po lS ((clp lo) i) i)) * (nI (popc (po ((clp lo) i))) - nI (popc (sqB po lS ((clp lo) i) i)))) (by subst ew; subst em; first | rw [wlR_t zc65] | rw [wlR_f zc65]) (by subst ew; subst em; first | (rw [wlR_t zc65]; rfl) | rw [wlR_f zc65]) (by first | assumption | omega | rfl) (by first | assumption | omega | rfl) (by omega) _ _ (hP.sub [0, 1, 2, 3, 4, 5] rfl) (hD.sub [0, 1, 2, 3, 4, 5] (by decide) rfl) hS ls (lv_sub hl [0, 2, 1, 4, 5] rfl)
    exact L39 ((k - 1) + 1) 0 1 (nI (popc (sqB po lS ((clp lo) 0) 0)) * (nI (popc (po ((clp lo) 0))) - nI (popc (sqB po lS ((clp lo) 0) 0)))) (by rw [wlR_1]) (by rw [wlR_1]; rfl) (by first | assumption | omega | rfl) (by first | assumption | omega | rfl) (Nat.lt_succ_self _) _ _ (hP.sub [0, 1, 2, 3, 4, 5] rfl) (hD.sub [0, 1, 2, 3, 4, 5] (by decide) rfl) hS ls (lv_sub hl [0, 1, 2, 3, 4] rfl)
  · refine lv_iload_n hx hb dX4_worstLoss_4 rfl (lv_at hl 1 rfl) ?_
    refine lv_iconst (v := nI 1) hx hb dX4_worstLoss_5 (by decide) ?_
    refine rk_eqN (tgt := 12) hx hb (by omega) (by omega) dX4_worstLoss_6 (by decide) (fun zc6 => ?_) (fun q => absurd (by omega) q)
    refine lv_aload_n hx hb dX4_worstLoss_12 rfl (lv_at hl 0 rfl) ?_
    refine rk_get (ci := 4) (C := RX4) (T := TX4) (N := 6) hx hb hts iw_X4_worstLoss_4 hown hK hP 0 rfl rfl 0 (by decide) fl_X4_worstLoss_10 rfl (v := .ref t0) rfl dX4_worstLoss_13 ?_
    refine rk_get (ci := 3) (C := RX3) (T := TX3) (N := 6) hx hb hts iw_X4_worstLoss_3 hown hK hP 1 rfl rfl 1 (by decide) fl_X4_worstLoss_64 rfl (v := .int (nI k)) rfl dX4_worstLoss_16 ?_
    refine rk_if_neN (tgt := 25) hx hb (by omega) dX4_worstLoss_19 (by decide) (fun zc19 => ?_) (fun q => absurd q (by omega))
    refine lv_iconst (v := nI 0) hx hb dX4_worstLoss_25 (by decide) ?_
    refine lv_istore_n (lv' := [(2, .int (nI 0)), (0, .ref x0), (1, .int (nI w))]) hx hb dX4_worstLoss_26 rfl hl (by decide) rfl (fun ls hl => ?_)
    refine lv_aload_n hx hb dX4_worstLoss_27 rfl (lv_at hl 1 rfl) ?_
    refine rk_get (ci := 4) (C := RX4) (T := TX4) (N := 6) hx hb hts iw_X4_worstLoss_4 hown hK hP 0 rfl rfl 1 (by decide) fl_X4_worstLoss_21 rfl (v := .ref s0) rfl dX4_worstLoss_28 ?_
    refine lv_iload_n hx hb dX4_worstLoss_31 rfl (lv_at hl 0 rfl) ?_
    refine kV_i (E := E) (As := [.int (nI 0)]) (rest := []) (wr := [(x0, .inr (4, [.ref t0, .ref s0, .ref p0, .ref g0, .ref xS, .ref xV]))]) ⟨hx, hb, hml, hown, hts⟩ (c_X2_pairsParted (l := l) (E := E) (sz := _) (s0 := s0) (t0 := t0) (sP := sP) (sD := sD) (sS := sS) (sL := sL) (sF := sF) (q1 := q1) (q2 := q2) (q3 := q3) (q4 := q4) (sc := nI n) (k := k) (pc := pc) (ds := ds) (pr := pr) (r := 0) (po := po) (lS := lS) (lo := lo) (a := clp lo) (gr := by first | assumption | omega) (gk := by first | assumption | omega) (glo := fun r h => (gl r h).1) (ga := fun r h => (gl r h).2)) (cwV 1 hts gX4_worstLoss_X2_pairsParted rfl rfl rfl (by decide +kernel) ⟨by rw [hR]; decide, by rw [hR]; decide⟩) hK hN hP hD hS hA [2, 1, 3, 4, 5] [0] rfl (by decide) rfl (by decide) (by decide) 2 2 rfl rfl rfl hl.1 rfl (Nat.le_of_ble_eq_true rfl) dX4_worstLoss_32 ⟨Nat.zero_le _, Nat.zero_le _⟩ (fun H locs hP hD hS => ?_)
    have hP : va_P E.1 vwCl [(x0, .inr (4, [.ref t0, .ref s0, .ref p0, .ref g0, .ref xS, .ref xV])), (s0, .inr (2, [.ref t0, .ref sP, .ref sD, .ref sS, .ref sL, .ref sF, .int pc, .int ds, .int pr])), (t0, .inr (3, [.int (nI n), .int (nI k), .ref q1, .ref q2, .ref q3, .ref q4])), (sP, aI E 16 po), (sL, aI E 30 lS), (q1, aI E 30 lo)] H := hP
    have hD : va_D A [(x0, .inr (4, [.ref t0, .ref s0, .ref p0, .ref g0, .ref xS, .ref xV])), (s0, .inr (2, [.ref t0, .ref sP, .ref sD, .ref sS, .ref sL, .ref sF, .int pc, .int ds, .int pr])), (t0, .inr (3, [.int (nI n), .int (nI k), .ref q1, .ref q2, .ref q3, .ref q4])), (sP, aI E 16 po), (sL, aI E 30 lS), (q1, aI E 30 lo)] := hD
    refine lv_istore_n (lv' := [(3, .int (nI (popc (sqB po lS ((clp lo) 0) 0)) * (nI (popc (po ((clp lo) 0))) - nI (popc (sqB po lS ((clp lo) 0) 0))))), (2, .int (nI 0)), (0, .ref x0), (1, .int (nI w))]) hx hb dX4_worstLoss_35 rfl hl (by decide) rfl (fun ls hl => ?_)
    refine lv_iconst (v := nI 1) hx hb dX4_worstLoss_36 (by decide) ?_
    refine lv_istore (lv' := [(4, .int (nI 1)), (3, .int (nI (popc (sqB po lS ((clp lo) 0) 0)) * (nI (popc (po ((clp lo) 0))) - nI (popc (sqB po lS ((clp lo) 0) 0))))), (2, .int (nI 0)), (0, .ref x0), (1, .int (nI w))]) hx hb dX4_worstLoss_37 hl (by decide) rfl (fun ls hl => ?_)
    have L39 : ∀ (fu : Nat) (wr i : Nat) (mt : Int32), (ew : wr = (wlR (ppR po lS (clp lo)) i).1) → (em : mt = (wlR (ppR po lS (clp lo)) i).2) → (h1 : 1 ≤ i) → (h2 : i ≤ k) → k - i < fu → ∀ (H : Heap) (locs : List Loc), va_P E.1 vwCl [(x0, .inr (4, [.ref t0, .ref s0, .ref p0, .ref g0, .ref xS, .ref xV])), (s0, .inr (2, [.ref t0, .ref sP, .ref sD, .ref sS, .ref sL, .ref sF, .int pc, .int ds, .int pr])), (t0, .inr (3, [.int (nI n), .int (nI k), .ref q1, .ref q2, .ref q3, .ref q4])), (sP, aI E 16 po), (sL, aI E 30 lS), (q1, aI E 30 lo)] H → va_D A [(x0, .inr (4, [.ref t0, .ref s0, .ref p0, .ref g0, .ref xS, .ref xV])), (s0, .inr (2, [.ref t0, .ref sP, .ref sD, .ref sS, .ref sL, .ref sF, .int pc, .int ds, .int pr])), (t0, .inr (3, [.int (nI n), .int (nI k), .ref q1, .ref q2, .ref q3, .ref q4])), (sP, aI E 16 po), (sL, aI E 30 lS), (q1, aI E 30 lo)] → va_S A s.heap H locs → ∀ (ls : Array Slot), lv_has ls 6 [(4, .int (nI i)), (3, .int mt), (2, .int (nI wr)), (0, .ref x0), (1, .int (nI w))] → W p l e R s m args below meth c H locs 0 0 Q (F0 m 39 ls []) := by
      intro fu
      induction fu with
      | zero => intro wr i mt ew em h1 h2 hfu; exact absurd hfu (Nat.not_lt_zero _)
      | succ fu ih39 =>
        intro wr i mt ew em h1 h2 hfu H locs hP hD hS ls hl
        refine lv_iload hx hb dX4_worstLoss_39 (lv_at hl 0 rfl) ?_
        refine lv_aload_n hx hb dX4_worstLoss_41 rfl (lv_at hl 3 rfl) ?_
        refine rk_get (ci := 4) (C := RX4) (T := TX4) (N := 6) hx hb hts iw_X4_worstLoss_4 hown hK hP 0 rfl rfl 0 (by decide) fl_X4_worstLoss_10 rfl (v := .ref t0) rfl dX4_worstLoss_42 ?_
        refine rk_get (ci := 3) (C := RX3) (T := TX3) (N := 6) hx hb hts iw_X4_worstLoss_3 hown hK hP 2 rfl rfl 1 (by decide) fl_X4_worstLoss_64 rfl (v := .int (nI k)) rfl dX4_worstLoss_45 ?_
        refine rk_geN (tgt := 80) hx hb (by omega) (by omega) dX4_worstLoss_48 (by decide) (fun zc48 => ?_) (fun zc48 => ?_)
        · refine lv_iload_n hx hb dX4_worstLoss_80 rfl (lv_at hl 4 rfl) ?_
          refine rk_if_neN (tgt := 88) hx hb (by omega) dX4_worstLoss_81 (by decide) (fun zc81 => ?_) (fun zc81 => ?_)
          · refine lv_iload_n hx hb dX4_worstLoss_88 rfl (lv_at hl 1 rfl) ?_
            exact ret_i hQ hx hb hr hlocks (hP.sub [0, 2, 1, 3, 4, 5] rfl) (hD.sub [0, 2, 1, 3, 4, 5] (by decide) rfl) hS dX4_worstLoss_89 (by obtain rfl : k = i := (by omega); rw [← ew, ← em]; first | exact (if_pos zc81).symm | exact (if_neg zc81).symm)
          · refine lv_iload_n hx hb dX4_worstLoss_84 rfl (lv_at hl 2 rfl) ?_
            refine lv_goto (tgt := 89) hx hb dX4_worstLoss_85 (by decide) ?_
            exact ret_i hQ hx hb hr hlocks (hP.sub [0, 2, 1, 3, 4, 5] rfl) (hD.sub [0, 2, 1, 3, 4, 5] (by decide) rfl) hS dX4_worstLoss_89 (by obtain rfl : k = i := (by omega); rw [← ew, ← em]; first | exact (if_pos zc81).symm | exact (if_neg zc81).symm)
        · refine lv_aload_n hx hb dX4_worstLoss_51 rfl (lv_at hl 3 rfl) ?_
          refine rk_get (ci := 4) (C := RX4) (T := TX4) (N := 6) hx hb hts iw_X4_worstLoss_4 hown hK hP 0 rfl rfl 1 (by decide) fl_X4_worstLoss_21 rfl (v := .ref s0) rfl dX4_worstLoss_52 ?_
          refine lv_iload hx hb dX4_worstLoss_55 (lv_at hl 0 rfl) ?_
          refine kV_i (E := E) (As := [.int (nI i)]) (rest := []) (wr := [(x0, .inr (4, [.ref t0, .ref s0, .ref p0, .ref g0, .ref xS, .ref xV]))]) ⟨hx, hb, hml, hown, hts⟩ (c_X2_pairsParted (l := l) (E := E) (sz := _) (s0 := s0) (t0 := t0) (sP := sP) (sD := sD) (sS := sS) (sL := sL) (sF := sF) (q1 := q1) (q2 := q2) (q3 := q3) (q4 := q4) (sc := nI n) (k := k) (pc := pc) (ds := ds) (pr := pr) (r := i) (po := po) (lS := lS) (lo := lo) (a := clp lo) (gr := by first | assumption | omega) (gk := by first | assumption | omega) (glo := fun r h => (gl r h).1) (ga := fun r h => (gl r h).2)) (cwV 1 hts gX4_worstLoss_X2_pairsParted rfl rfl rfl (by decide +kernel) ⟨by rw [hR]; decide, by rw [hR]; decide⟩) hK hN hP hD hS hA [1, 2, 3, 4, 5] [0] rfl (by decide) rfl (by decide) (by decide) 1 2 rfl rfl rfl hl.1 rfl (Nat.le_of_ble_eq_true rfl) dX4_worstLoss_57 ⟨Nat.zero_le _, Nat.zero_le _⟩ (fun H locs hP hD hS => ?_)
          have hP : va_P E.1 vwCl [(x0, .inr (4, [.ref t0, .ref s0, .ref p0, .ref g0, .ref xS, .ref xV])), (s0, .inr (2, [.ref t0, .ref sP, .ref sD, .ref sS, .ref sL, .ref sF, .int pc, .int ds, .int pr])), (t0, .inr (3, [.int (nI n), .int (nI k), .ref q1, .ref q2, .ref q3, .ref q4])), (sP, aI E 16 po), (sL, aI E 30 lS), (q1, aI E 30 lo)] H := hP
          have hD : va_D A [(x0, .inr (4, [.ref t0, .ref s0, .ref p0, .ref g0, .ref xS, .ref xV])), (s0, .inr (2, [.ref t0, .ref sP, .ref sD, .ref sS, .ref sL, .ref sF, .int pc, .int ds, .int pr])), (t0, .inr (3, [.int (nI n), .int (nI k), .ref q1, .ref q2, .ref q3, .ref q4])), (sP, aI E 16 po), (sL, aI E 30 lS), (q1, aI E 30 lo)] := hD
          refine lv_istore (lv' := [(5, .int (nI (popc (sqB po lS ((clp lo) i) i)) * (nI (popc (po ((clp lo) i))) - nI (popc (sqB po lS ((clp lo) i) i))))), (4, .int (nI i)), (3, .int mt), (2, .int (nI wr)), (0, .ref x0), (1, .int (nI w))]) hx hb dX4_worstLoss_60 hl (by decide) rfl (fun ls hl => ?_)
          refine lv_iload hx hb dX4_worstLoss_62 (lv_at hl 0 rfl) ?_
          refine lv_iload_n hx hb dX4_worstLoss_64 rfl (lv_at hl 2 rfl) ?_
          refine lv_icmp_le (tgt := 74) hx hb dX4_worstLoss_65 (by decide) (fun zc65 => ?_) (fun zc65 => ?_)
          · refine lv_iinc (v := nI (i + 1)) (lv' := [(4, .int (nI (i + 1))), (5, .int (nI (popc (sqB po lS ((clp lo) i) i)) * (nI (popc (po ((clp lo) i))) - nI (popc (sqB po lS ((clp lo) i) i))))), (3, .int mt), (2, .int (nI wr)), (0, .ref x0), (1, .int (nI w))]) hx hb dX4_worstLoss_74 hl (k := 1) rfl (by rw [show Int32.ofInt 1 = nI 1 by decide]; exact nI_add _ _) (by decide) rfl (fun ls hl => ?_)
            refine lv_goto (tgt := 39) hx hb dX4_worstLoss_77 (by decide) ?_
            exact ih39 wr (i + 1) mt (by subst ew; subst em; first | rw [wlR_t zc65] | rw [wlR_f zc65]) (by subst ew; subst em; first | (rw [wlR_t zc65]; rfl) | rw [wlR_f zc65]) (by first | assumption | omega | rfl) (by first | assumption | omega | rfl) (by omega) _ _ (hP.sub [0, 1, 2, 3, 4, 5] rfl) (hD.sub [0, 1, 2, 3, 4, 5] (by decide) rfl) hS ls (lv_sub hl [0, 2, 3, 4, 5] rfl)
          · refine lv_iload hx hb dX4_worstLoss_68 (lv_at hl 0 rfl) ?_
            refine lv_istore_n (lv' := [(3, .int (nI (popc (sqB po lS ((clp lo) i) i)) * (nI (popc (po ((clp lo) i))) - nI (popc (sqB po lS ((clp lo) i) i))))), (5, .int (nI (popc (sqB po lS ((clp lo) i) i)) * (nI (popc (po ((clp lo) i))) - nI (popc (sqB po lS ((clp lo) i) i))))), (4, .int (nI i)), (2, .int (nI wr)), (0, .ref x0), (1, .int (nI w))]) hx hb dX4_worstLoss_70 rfl hl (by decide) rfl (fun ls hl => ?_)
            refine lv_iload hx hb dX4_worstLoss_71 (lv_at hl 2 rfl) ?_
            refine lv_istore_n (lv' := [(2, .int (nI i)), (3, .int (nI (popc (sqB po lS ((clp lo) i) i)) * (nI (popc (po ((clp lo) i))) - nI (popc (sqB po lS ((clp lo) i) i))))), (5, .int (nI (popc (sqB po lS ((clp lo) i) i)) * (nI (popc (po ((clp lo) i))) - nI (popc (sqB po lS ((clp lo) i) i))))), (4, .int (nI i)), (0, .ref x0), (1, .int (nI w))]) hx hb dX4_worstLoss_73 rfl hl (by decide) rfl (fun ls hl => ?_)
            refine lv_iinc (v := nI (i + 1)) (lv' := [(4, .int (nI (i + 1))), (2, .int (nI i)), (3, .int (nI (popc (sqB po lS ((clp lo) i) i)) * (nI (popc (po ((clp lo) i))) - nI (popc (sqB po lS ((clp lo) i) i))))), (5, .int (nI (popc (sqB po lS ((clp lo) i) i)) * (nI (popc (po ((clp lo) i))) - nI (popc (sqB po lS ((clp lo) i) i))))), (0, .ref x0), (1, .int (nI w))]) hx hb dX4_worstLoss_74 hl (k := 3) rfl (by rw [show Int32.ofInt 1 = nI 1 by decide]; exact nI_add _ _) (by decide) rfl (fun ls hl => ?_)
            refine lv_goto (tgt := 39) hx hb dX4_worstLoss_77 (by decide) ?_
            exact ih39 i (i + 1) (nI (popc (sqB po lS ((clp lo) i) i)) * (nI (popc (po ((clp lo) i))) - nI (popc (sqB po lS ((clp lo) i) i)))) (by subst ew; subst em; first | rw [wlR_t zc65] | rw [wlR_f zc65]) (by subst ew; subst em; first | (rw [wlR_t zc65]; rfl) | rw [wlR_f zc65]) (by first | assumption | omega | rfl) (by first | assumption | omega | rfl) (by omega) _ _ (hP.sub [0, 1, 2, 3, 4, 5] rfl) (hD.sub [0, 1, 2, 3, 4, 5] (by decide) rfl) hS ls (lv_sub hl [0, 2, 1, 4, 5] rfl)
    exact L39 ((k - 1) + 1) 0 1 (nI (popc (sqB po lS ((clp lo) 0) 0)) * (nI (popc (po ((clp lo) 0))) - nI (popc (sqB po lS ((clp lo) 0) 0)))) (by rw [wlR_1]) (by rw [wlR_1]; rfl) (by first | assumption | omega | rfl) (by first | assumption | omega | rfl) (Nat.lt_succ_self _) _ _ (hP.sub [0, 1, 2, 3, 4, 5] rfl) (hD.sub [0, 1, 2, 3, 4, 5] (by decide) rfl) hS ls (lv_sub hl [0, 1, 2, 3, 4] rfl)
theorem iw_X4_needed_4 : ∀ w ∈ u_ws RX4 TX4 6, w ∈ wsX4_needed := by decide +kernel
theorem fl_X4_needed_10 : Cond.fieldLink RX4 10 (TX4 0).1 (TX4 0).2.1 (TX4 0).2.2.1 ∈ wsX4_needed := by decide +kernel
set_option maxHeartbeats 400000 in
set_option maxRecDepth 100000 in
theorem c_X4_needed_bad (l : Launch) (E : EE) (sz : Nat) (x0 t0 s0 p0 g0 xS xV sP sD sS sL sF q1 q2 q3 q4 : Nat) (n k : Nat) (r : Int32) (gb : inR r (nI n) = false) : Ci l yX4_needed wsX4_needed 1 21 E [.ref x0, .int r] [(x0, .inr (4, [.ref t0, .ref s0, .ref p0, .ref g0, .ref xS, .ref xV])), (t0, .inr (3, [.int (nI n), .int (nI k), .ref q1, .ref q2, .ref q3, .ref q4]))] sz (-1) [(x0, .inr (4, [.ref t0, .ref s0, .ref p0, .ref g0, .ref xS, .ref xV])), (t0, .inr (3, [.int (nI n), .int (nI k), .ref q1, .ref q2, .ref q3, .ref q4]))] := by
  refine C_of (QQ := QI E (-1) [(x0, .inr (4, [.ref t0, .ref s0, .ref p0, .ref g0, .ref xS, .ref xV])), (t0, .inr (3, [.int (nI n), .int (nI k), .ref q1, .ref q2, .ref q3, .ref q4]))]) (cc := cX4_needed) (maxL := 3) (ret := (some .int)) (by decide +kernel) rfl (Nat.le_of_ble_eq_true rfl) ?_
  intro p e s m args below meth c A R Q ls hx hb hr hts hown hml hlocks hA hK hN hP hD hS hl hR hQ
  have hown : s.vm.findClass RX4 = some m.cls := hown
  have hl : lv_has ls 3 [(0, .ref x0), (1, .int r)] := hl
  refine lv_aload_n hx hb dX4_needed_0 rfl (lv_at hl 0 rfl) ?_
  refine rk_get (ci := 4) (C := RX4) (T := TX4) (N := 6) hx hb hts iw_X4_needed_4 hown hK hP 0 rfl rfl 0 (by decide) fl_X4_needed_10 rfl (v := .ref t0) rfl dX4_needed_1 ?_
  refine lv_iload_n hx hb dX4_needed_4 rfl (lv_at hl 1 rfl) ?_
  refine kV_i (E := E) (As := [.int r]) (rest := []) (wr := [(x0, .inr (4, [.ref t0, .ref s0, .ref p0, .ref g0, .ref xS, .ref xV]))]) ⟨hx, hb, hml, hown, hts⟩ (c_X3_hasSquare (l := l) (E := E) (sz := _) (h0 := t0) (sc := nI n) (f1 := nI k) (q1 := q1) (q2 := q2) (q3 := q3) (q4 := q4) (x := r) ) (cwV 1 hts gX4_needed_X3_hasSquare rfl rfl rfl (by decide +kernel) ⟨by rw [hR]; decide, by rw [hR]; decide⟩) hK hN hP hD hS hA [1] [0] rfl (by decide) rfl (by decide) (by decide) 1 3 rfl rfl rfl hl.1 rfl (Nat.le_of_ble_eq_true rfl) dX4_needed_5 ⟨Nat.zero_le _, Nat.zero_le _⟩ (fun H locs hP hD hS => ?_)
  have hP : va_P E.1 vwCl [(x0, .inr (4, [.ref t0, .ref s0, .ref p0, .ref g0, .ref xS, .ref xV])), (t0, .inr (3, [.int (nI n), .int (nI k), .ref q1, .ref q2, .ref q3, .ref q4]))] H := hP
  have hD : va_D A [(x0, .inr (4, [.ref t0, .ref s0, .ref p0, .ref g0, .ref xS, .ref xV])), (t0, .inr (3, [.int (nI n), .int (nI k), .ref q1, .ref q2, .ref q3, .ref q4]))] := hD
  refine rk_if_neB (tgt := 13) hx hb dX4_needed_8 (by decide) (fun q => absurd q (by rw [gb]; decide)) (fun zc8 => ?_)
  refine lv_iconst (v := (-1)) hx hb dX4_needed_11 (by decide) ?_
  exact ret_i hQ hx hb hr hlocks (hP.sub [0, 1] rfl) (hD.sub [0, 1] (by decide) rfl) hS dX4_needed_12 (rfl)
theorem fl_X4_needed_21 : Cond.fieldLink RX4 21 (TX4 1).1 (TX4 1).2.1 (TX4 1).2.2.1 ∈ wsX4_needed := by decide +kernel
theorem iw_X4_needed_2 : ∀ w ∈ u_ws RX2 TX2 9, w ∈ wsX4_needed := by decide +kernel
theorem fl_X4_needed_141 : Cond.fieldLink RX4 141 (TX2 1).1 (TX2 1).2.1 (TX2 1).2.2.1 ∈ wsX4_needed := by decide +kernel
set_option maxHeartbeats 400000 in
set_option maxRecDepth 100000 in
theorem c_X4_needed_ok (l : Launch) (E : EE) (sz : Nat) (x0 t0 s0 p0 g0 xS xV sP sD sS sL sF q1 q2 q3 q4 : Nat) (n k : Nat) (pc pr : Int32) (ds x : Nat) (en po dS : Nat → Int32) (gn : n ≤ 16) (gk : k ≤ 30) (gx : x < n) (gds : ds ≤ 16) : Ci l yX4_needed wsX4_needed 3 68 E [.ref x0, .int (nI x)] [(x0, .inr (4, [.ref t0, .ref s0, .ref p0, .ref g0, .ref xS, .ref xV])), (t0, .inr (3, [.int (nI n), .int (nI k), .ref q1, .ref q2, .ref q3, .ref q4])), (s0, .inr (2, [.ref t0, .ref sP, .ref sD, .ref sS, .ref sL, .ref sF, .int pc, .int (nI ds), .int pr])), (q4, aI E 30 en), (sP, aI E 16 po), (sS, aI E 16 dS)] sz (nI ((lfD en dS pr (po x) k ds + 1) / 2)) [(x0, .inr (4, [.ref t0, .ref s0, .ref p0, .ref g0, .ref xS, .ref xV])), (t0, .inr (3, [.int (nI n), .int (nI k), .ref q1, .ref q2, .ref q3, .ref q4])), (s0, .inr (2, [.ref t0, .ref sP, .ref sD, .ref sS, .ref sL, .ref sF, .int pc, .int (nI ds), .int pr])), (q4, aI E 30 en), (sP, aI E 16 po), (sS, aI E 16 dS)] := by
  refine C_of (QQ := QI E (nI ((lfD en dS pr (po x) k ds + 1) / 2)) [(x0, .inr (4, [.ref t0, .ref s0, .ref p0, .ref g0, .ref xS, .ref xV])), (t0, .inr (3, [.int (nI n), .int (nI k), .ref q1, .ref q2, .ref q3, .ref q4])), (s0, .inr (2, [.ref t0, .ref sP, .ref sD, .ref sS, .ref sL, .ref sF, .int pc, .int (nI ds), .int pr])), (q4, aI E 30 en), (sP, aI E 16 po), (sS, aI E 16 dS)]) (cc := cX4_needed) (maxL := 3) (ret := (some .int)) (by decide +kernel) rfl (Nat.le_of_ble_eq_true rfl) ?_
  intro p e s m args below meth c A R Q ls hx hb hr hts hown hml hlocks hA hK hN hP hD hS hl hR hQ
  have hown : s.vm.findClass RX4 = some m.cls := hown
  have hl : lv_has ls 3 [(0, .ref x0), (1, .int (nI x))] := hl
  refine lv_aload_n hx hb dX4_needed_0 rfl (lv_at hl 0 rfl) ?_
  refine rk_get (ci := 4) (C := RX4) (T := TX4) (N := 6) hx hb hts iw_X4_needed_4 hown hK hP 0 rfl rfl 0 (by decide) fl_X4_needed_10 rfl (v := .ref t0) rfl dX4_needed_1 ?_
  refine lv_iload_n hx hb dX4_needed_4 rfl (lv_at hl 1 rfl) ?_
  refine kV_i (E := E) (As := [.int (nI x)]) (rest := []) (wr := [(x0, .inr (4, [.ref t0, .ref s0, .ref p0, .ref g0, .ref xS, .ref xV])), (s0, .inr (2, [.ref t0, .ref sP, .ref sD, .ref sS, .ref sL, .ref sF, .int pc, .int (nI ds), .int pr])), (q4, aI E 30 en), (sP, aI E 16 po), (sS, aI E 16 dS)]) ⟨hx, hb, hml, hown, hts⟩ (c_X3_hasSquare (l := l) (E := E) (sz := _) (h0 := t0) (sc := nI n) (f1 := nI k) (q1 := q1) (q2 := q2) (q3 := q3) (q4 := q4) (x := nI x) ) (cwV 1 hts gX4_needed_X3_hasSquare rfl rfl rfl (by decide +kernel) ⟨by rw [hR]; decide, by rw [hR]; decide⟩) hK hN hP hD hS hA [1] [0, 2, 3, 4, 5] rfl (by decide) rfl (by decide) (by decide) 1 3 rfl rfl rfl hl.1 rfl (Nat.le_of_ble_eq_true rfl) dX4_needed_5 ⟨Nat.zero_le _, Nat.zero_le _⟩ (fun H locs hP hD hS => ?_)
  have hP : va_P E.1 vwCl [(x0, .inr (4, [.ref t0, .ref s0, .ref p0, .ref g0, .ref xS, .ref xV])), (s0, .inr (2, [.ref t0, .ref sP, .ref sD, .ref sS, .ref sL, .ref sF, .int pc, .int (nI ds), .int pr])), (q4, aI E 30 en), (sP, aI E 16 po), (sS, aI E 16 dS), (t0, .inr (3, [.int (nI n), .int (nI k), .ref q1, .ref q2, .ref q3, .ref q4]))] H := hP
  have hD : va_D A [(x0, .inr (4, [.ref t0, .ref s0, .ref p0, .ref g0, .ref xS, .ref xV])), (s0, .inr (2, [.ref t0, .ref sP, .ref sD, .ref sS, .ref sL, .ref sF, .int pc, .int (nI ds), .int pr])), (q4, aI E 30 en), (sP, aI E 16 po), (sS, aI E 16 dS), (t0, .inr (3, [.int (nI n), .int (nI k), .ref q1, .ref q2, .ref q3, .ref q4]))] := hD
  refine rk_if_neB (tgt := 13) hx hb dX4_needed_8 (by decide) (fun zc8 => ?_) (fun q => absurd q (by rw [inR_ok gx (by omega)]; decide))
  refine lv_aload_n hx hb dX4_needed_13 rfl (lv_at hl 0 rfl) ?_
  refine rk_get (ci := 4) (C := RX4) (T := TX4) (N := 6) hx hb hts iw_X4_needed_4 hown hK hP 0 rfl rfl 1 (by decide) fl_X4_needed_21 rfl (v := .ref s0) rfl dX4_needed_14 ?_
  refine lv_aload_n hx hb dX4_needed_17 rfl (lv_at hl 0 rfl) ?_
  refine rk_get (ci := 4) (C := RX4) (T := TX4) (N := 6) hx hb hts iw_X4_needed_4 hown hK hP 0 rfl rfl 1 (by decide) fl_X4_needed_21 rfl (v := .ref s0) rfl dX4_needed_18 ?_
  refine rk_get (ci := 2) (C := RX2) (T := TX2) (N := 9) hx hb hts iw_X4_needed_2 hown hK hP 1 rfl rfl 1 (by decide) fl_X4_needed_141 rfl (v := .ref sP) rfl dX4_needed_21 ?_
  refine lv_iload_n hx hb dX4_needed_24 rfl (lv_at hl 1 rfl) ?_
  refine rk_iald hx hb hK hP 3 rfl (by omega) (by omega) (v := po x) (rfl) dX4_needed_25 ?_
  refine kV_i (E := E) (As := [.int (po x)]) (rest := []) (wr := [(x0, .inr (4, [.ref t0, .ref s0, .ref p0, .ref g0, .ref xS, .ref xV])), (sP, aI E 16 po)]) ⟨hx, hb, hml, hown, hts⟩ (c_X2_leafDistricts (l := l) (E := E) (sz := _) (s0 := s0) (t0 := t0) (sP := sP) (sD := sD) (sS := sS) (sL := sL) (sF := sF) (q1 := q1) (q2 := q2) (q3 := q3) (q4 := q4) (sc := nI n) (k := k) (ds := ds) (pc := pc) (pr := pr) (pz := po x) (dS := dS) (en := en) (gk := by first | assumption | omega) (gd := by first | assumption | omega)) (cwV 1 hts gX4_needed_X2_leafDistricts rfl rfl rfl (by decide +kernel) ⟨by rw [hR]; decide, by rw [hR]; decide⟩) hK hN hP hD hS hA [1, 5, 4, 2] [0, 3] rfl (by decide) rfl (by decide) (by decide) 1 2 rfl rfl rfl hl.1 rfl (Nat.le_of_ble_eq_true rfl) dX4_needed_26 ⟨Nat.zero_le _, Nat.zero_le _⟩ (fun H locs hP hD hS => ?_)
  have hP : va_P E.1 vwCl [(x0, .inr (4, [.ref t0, .ref s0, .ref p0, .ref g0, .ref xS, .ref xV])), (sP, aI E 16 po), (s0, .inr (2, [.ref t0, .ref sP, .ref sD, .ref sS, .ref sL, .ref sF, .int pc, .int (nI ds), .int pr])), (t0, .inr (3, [.int (nI n), .int (nI k), .ref q1, .ref q2, .ref q3, .ref q4])), (sS, aI E 16 dS), (q4, aI E 30 en)] H := hP
  have hD : va_D A [(x0, .inr (4, [.ref t0, .ref s0, .ref p0, .ref g0, .ref xS, .ref xV])), (sP, aI E 16 po), (s0, .inr (2, [.ref t0, .ref sP, .ref sD, .ref sS, .ref sL, .ref sF, .int pc, .int (nI ds), .int pr])), (t0, .inr (3, [.int (nI n), .int (nI k), .ref q1, .ref q2, .ref q3, .ref q4])), (sS, aI E 16 dS), (q4, aI E 30 en)] := hD
  refine lv_istore_n (lv' := [(2, .int (nI (lfD en dS pr (po x) k ds))), (0, .ref x0), (1, .int (nI x))]) hx hb dX4_needed_29 rfl hl (by decide) rfl (fun ls hl => ?_)
  have gll := lfD_le en dS pr (po x) k ds
  refine lv_iload_n hx hb dX4_needed_30 rfl (lv_at hl 0 rfl) ?_
  refine lv_iconst (v := nI 1) hx hb dX4_needed_31 (by decide) ?_
  refine rk_iaddN hx hb dX4_needed_32 ?_
  refine lv_iconst (v := nI 2) hx hb dX4_needed_33 (by decide) ?_
  refine rk_idivN hx hb (by omega) (by omega) (by omega) dX4_needed_34 ?_
  exact ret_i hQ hx hb hr hlocks (hP.sub [0, 3, 2, 5, 1, 4] rfl) (hD.sub [0, 3, 2, 5, 1, 4] (by decide) rfl) hS dX4_needed_35 (rfl)
