theorem iw_X1_parsedRoads_1 : ∀ w ∈ u_ws RX1 TX1 5, w ∈ wsX1_parsedRoads := by decide +kernel
theorem fl_X1_parsedRoads_23 : Cond.fieldLink RX1 23 (TX1 3).1 (TX1 3).2.1 (TX1 3).2.2.1 ∈ wsX1_parsedRoads := by decide +kernel
set_option maxHeartbeats 400000 in
set_option maxRecDepth 100000 in
theorem c_X1_parsedRoads (l : Launch) (E : EE) (sz : Nat) (p0 pC pN : Nat) (L nm : Int32) (nc : Nat) (gc : nc ≤ 80) : Ci l yX1_parsedRoads wsX1_parsedRoads 0 0 E [.ref p0] [(p0, .inr (1, [.ref pC, .int L, .ref pN, .int (nI nc), .int nm]))] sz (nI (nc / 3)) [(p0, .inr (1, [.ref pC, .int L, .ref pN, .int (nI nc), .int nm]))] := by
  refine C_of (QQ := QI E (nI (nc / 3)) [(p0, .inr (1, [.ref pC, .int L, .ref pN, .int (nI nc), .int nm]))]) (cc := cX1_parsedRoads) (maxL := 1) (ret := (some .int)) (by decide +kernel) rfl (Nat.le_of_ble_eq_true rfl) ?_
  intro p e s m args below meth c A R Q ls hx hb hr hts hown hml hlocks hA hK hN hP hD hS hl hR hQ
  have hown : s.vm.findClass RX1 = some m.cls := hown
  have hl : lv_has ls 1 [(0, .ref p0)] := hl
  refine lv_aload_n hx hb dX1_parsedRoads_0 rfl (lv_at hl 0 rfl) ?_
  refine rk_get (ci := 1) (C := RX1) (T := TX1) (N := 5) hx hb hts iw_X1_parsedRoads_1 hown hK hP 0 rfl rfl 3 (by decide) fl_X1_parsedRoads_23 rfl (v := .int (nI nc)) rfl dX1_parsedRoads_1 ?_
  refine lv_iconst (v := nI 3) hx hb dX1_parsedRoads_4 (by decide) ?_
  refine rk_idivN hx hb (by omega) (by omega) (by omega) dX1_parsedRoads_5 ?_
  exact ret_i hQ hx hb hr hlocks (hP.sub [0] rfl) (hD.sub [0] (by decide) rfl) hS dX1_parsedRoads_6 (rfl)
theorem iw_X1_parsedOne_1 : ∀ w ∈ u_ws RX1 TX1 5, w ∈ wsX1_parsedOne := by decide +kernel
theorem fl_X1_parsedOne_19 : Cond.fieldLink RX1 19 (TX1 2).1 (TX1 2).2.1 (TX1 2).2.2.1 ∈ wsX1_parsedOne := by decide +kernel
set_option maxHeartbeats 400000 in
set_option maxRecDepth 100000 in
theorem c_X1_parsedOne (l : Launch) (E : EE) (sz : Nat) (p0 pC pN : Nat) (L nc nm : Int32) (i : Nat) (f : Nat → Int32) (gi : 3 * i + 2 < 80) : Ci l yX1_parsedOne wsX1_parsedOne 0 0 E [.ref p0, .int (nI i)] [(p0, .inr (1, [.ref pC, .int L, .ref pN, .int nc, .int nm])), (pN, aI E 80 f)] sz (f (3 * i)) [(p0, .inr (1, [.ref pC, .int L, .ref pN, .int nc, .int nm])), (pN, aI E 80 f)] := by
  refine C_of (QQ := QI E (f (3 * i)) [(p0, .inr (1, [.ref pC, .int L, .ref pN, .int nc, .int nm])), (pN, aI E 80 f)]) (cc := cX1_parsedOne) (maxL := 2) (ret := (some .int)) (by decide +kernel) rfl (Nat.le_of_ble_eq_true rfl) ?_
  intro p e s m args below meth c A R Q ls hx hb hr hts hown hml hlocks hA hK hN hP hD hS hl hR hQ
  have hown : s.vm.findClass RX1 = some m.cls := hown
  have hl : lv_has ls 2 [(0, .ref p0), (1, .int (nI i))] := hl
  refine lv_aload_n hx hb dX1_parsedOne_0 rfl (lv_at hl 0 rfl) ?_
  refine rk_get (ci := 1) (C := RX1) (T := TX1) (N := 5) hx hb hts iw_X1_parsedOne_1 hown hK hP 0 rfl rfl 2 (by decide) fl_X1_parsedOne_19 rfl (v := .ref pN) rfl dX1_parsedOne_1 ?_
  refine lv_iconst (v := nI 3) hx hb dX1_parsedOne_4 (by decide) ?_
  refine lv_iload_n hx hb dX1_parsedOne_5 rfl (lv_at hl 1 rfl) ?_
  refine rk_imulN hx hb dX1_parsedOne_6 ?_
  refine rk_iald hx hb hK hP 1 rfl (by omega) (by omega) (v := f (3 * i)) (rfl) dX1_parsedOne_7 ?_
  exact ret_i hQ hx hb hr hlocks (hP.sub [0, 1] rfl) (hD.sub [0, 1] (by decide) rfl) hS dX1_parsedOne_8 (rfl)
theorem iw_X1_parsedOther_1 : ∀ w ∈ u_ws RX1 TX1 5, w ∈ wsX1_parsedOther := by decide +kernel
theorem fl_X1_parsedOther_19 : Cond.fieldLink RX1 19 (TX1 2).1 (TX1 2).2.1 (TX1 2).2.2.1 ∈ wsX1_parsedOther := by decide +kernel
set_option maxHeartbeats 400000 in
set_option maxRecDepth 100000 in
theorem c_X1_parsedOther (l : Launch) (E : EE) (sz : Nat) (p0 pC pN : Nat) (L nc nm : Int32) (i : Nat) (f : Nat → Int32) (gi : 3 * i + 2 < 80) : Ci l yX1_parsedOther wsX1_parsedOther 0 0 E [.ref p0, .int (nI i)] [(p0, .inr (1, [.ref pC, .int L, .ref pN, .int nc, .int nm])), (pN, aI E 80 f)] sz (f (3 * i + 1)) [(p0, .inr (1, [.ref pC, .int L, .ref pN, .int nc, .int nm])), (pN, aI E 80 f)] := by
  refine C_of (QQ := QI E (f (3 * i + 1)) [(p0, .inr (1, [.ref pC, .int L, .ref pN, .int nc, .int nm])), (pN, aI E 80 f)]) (cc := cX1_parsedOther) (maxL := 2) (ret := (some .int)) (by decide +kernel) rfl (Nat.le_of_ble_eq_true rfl) ?_
  intro p e s m args below meth c A R Q ls hx hb hr hts hown hml hlocks hA hK hN hP hD hS hl hR hQ
  have hown : s.vm.findClass RX1 = some m.cls := hown
  have hl : lv_has ls 2 [(0, .ref p0), (1, .int (nI i))] := hl
  refine lv_aload_n hx hb dX1_parsedOther_0 rfl (lv_at hl 0 rfl) ?_
  refine rk_get (ci := 1) (C := RX1) (T := TX1) (N := 5) hx hb hts iw_X1_parsedOther_1 hown hK hP 0 rfl rfl 2 (by decide) fl_X1_parsedOther_19 rfl (v := .ref pN) rfl dX1_parsedOther_1 ?_
  refine lv_iconst (v := nI 3) hx hb dX1_parsedOther_4 (by decide) ?_
  refine lv_iload_n hx hb dX1_parsedOther_5 rfl (lv_at hl 1 rfl) ?_
  refine rk_imulN hx hb dX1_parsedOther_6 ?_
  refine lv_iconst (v := nI 1) hx hb dX1_parsedOther_7 (by decide) ?_
  refine rk_iaddN hx hb dX1_parsedOther_8 ?_
  refine rk_iald hx hb hK hP 1 rfl (by omega) (by omega) (v := f ((3 * i) + 1)) (rfl) dX1_parsedOther_9 ?_
  exact ret_i hQ hx hb hr hlocks (hP.sub [0, 1] rfl) (hD.sub [0, 1] (by decide) rfl) hS dX1_parsedOther_10 (rfl)
theorem iw_X1_parsedLength_1 : ∀ w ∈ u_ws RX1 TX1 5, w ∈ wsX1_parsedLength := by decide +kernel
theorem fl_X1_parsedLength_19 : Cond.fieldLink RX1 19 (TX1 2).1 (TX1 2).2.1 (TX1 2).2.2.1 ∈ wsX1_parsedLength := by decide +kernel
set_option maxHeartbeats 400000 in
set_option maxRecDepth 100000 in
theorem c_X1_parsedLength (l : Launch) (E : EE) (sz : Nat) (p0 pC pN : Nat) (L nc nm : Int32) (i : Nat) (f : Nat → Int32) (gi : 3 * i + 2 < 80) : Ci l yX1_parsedLength wsX1_parsedLength 0 0 E [.ref p0, .int (nI i)] [(p0, .inr (1, [.ref pC, .int L, .ref pN, .int nc, .int nm])), (pN, aI E 80 f)] sz (f (3 * i + 2)) [(p0, .inr (1, [.ref pC, .int L, .ref pN, .int nc, .int nm])), (pN, aI E 80 f)] := by
  refine C_of (QQ := QI E (f (3 * i + 2)) [(p0, .inr (1, [.ref pC, .int L, .ref pN, .int nc, .int nm])), (pN, aI E 80 f)]) (cc := cX1_parsedLength) (maxL := 2) (ret := (some .int)) (by decide +kernel) rfl (Nat.le_of_ble_eq_true rfl) ?_
  intro p e s m args below meth c A R Q ls hx hb hr hts hown hml hlocks hA hK hN hP hD hS hl hR hQ
  have hown : s.vm.findClass RX1 = some m.cls := hown
  have hl : lv_has ls 2 [(0, .ref p0), (1, .int (nI i))] := hl
  refine lv_aload_n hx hb dX1_parsedLength_0 rfl (lv_at hl 0 rfl) ?_
  refine rk_get (ci := 1) (C := RX1) (T := TX1) (N := 5) hx hb hts iw_X1_parsedLength_1 hown hK hP 0 rfl rfl 2 (by decide) fl_X1_parsedLength_19 rfl (v := .ref pN) rfl dX1_parsedLength_1 ?_
  refine lv_iconst (v := nI 3) hx hb dX1_parsedLength_4 (by decide) ?_
  refine lv_iload_n hx hb dX1_parsedLength_5 rfl (lv_at hl 1 rfl) ?_
  refine rk_imulN hx hb dX1_parsedLength_6 ?_
  refine lv_iconst (v := nI 2) hx hb dX1_parsedLength_7 (by decide) ?_
  refine rk_iaddN hx hb dX1_parsedLength_8 ?_
  refine rk_iald hx hb hK hP 1 rfl (by omega) (by omega) (v := f ((3 * i) + 2)) (rfl) dX1_parsedLength_9 ?_
  exact ret_i hQ hx hb hr hlocks (hP.sub [0, 1] rfl) (hD.sub [0, 1] (by decide) rfl) hS dX1_parsedLength_10 (rfl)
theorem iw_X1_atLength_1 : ∀ w ∈ u_ws RX1 TX1 5, w ∈ wsX1_atLength := by decide +kernel
theorem fl_X1_atLength_23 : Cond.fieldLink RX1 23 (TX1 3).1 (TX1 3).2.1 (TX1 3).2.2.1 ∈ wsX1_atLength := by decide +kernel
set_option maxHeartbeats 400000 in
set_option maxRecDepth 100000 in
theorem c_X1_atLength (l : Launch) (E : EE) (sz : Nat) (p0 pC pN : Nat) (L nm : Int32) (nc : Nat) (gc : nc ≤ 80) : Ci l yX1_atLength wsX1_atLength 0 0 E [.ref p0] [(p0, .inr (1, [.ref pC, .int L, .ref pN, .int (nI nc), .int nm]))] sz (b2i (atL nc)) [(p0, .inr (1, [.ref pC, .int L, .ref pN, .int (nI nc), .int nm]))] := by
  refine C_of (QQ := QI E (b2i (atL nc)) [(p0, .inr (1, [.ref pC, .int L, .ref pN, .int (nI nc), .int nm]))]) (cc := cX1_atLength) (maxL := 1) (ret := (some .boolean)) (by decide +kernel) rfl (Nat.le_of_ble_eq_true rfl) ?_
  intro p e s m args below meth c A R Q ls hx hb hr hts hown hml hlocks hA hK hN hP hD hS hl hR hQ
  have hown : s.vm.findClass RX1 = some m.cls := hown
  have hl : lv_has ls 1 [(0, .ref p0)] := hl
  refine lv_aload_n hx hb dX1_atLength_0 rfl (lv_at hl 0 rfl) ?_
  refine rk_get (ci := 1) (C := RX1) (T := TX1) (N := 5) hx hb hts iw_X1_atLength_1 hown hK hP 0 rfl rfl 3 (by decide) fl_X1_atLength_23 rfl (v := .int (nI nc)) rfl dX1_atLength_1 ?_
  refine lv_iconst (v := nI 3) hx hb dX1_atLength_4 (by decide) ?_
  refine rk_iremN hx hb (by omega) (by omega) (by omega) dX1_atLength_5 ?_
  refine lv_iconst (v := nI 2) hx hb dX1_atLength_6 (by decide) ?_
  refine rk_neN (tgt := 14) hx hb (by omega) (by omega) dX1_atLength_7 (by decide) (fun zc7 => ?_) (fun zc7 => ?_)
  · refine lv_iconst (v := nI 0) hx hb dX1_atLength_14 (by decide) ?_
    exact ret_z hQ hx hb hr hlocks (hP.sub [0] rfl) (hD.sub [0] (by decide) rfl) hS dX1_atLength_15 (nz_0) (by first | exact b2i_t (decide_eq_true zc7) | exact b2i_f (decide_eq_false zc7))
  · refine lv_iconst (v := nI 1) hx hb dX1_atLength_10 (by decide) ?_
    refine lv_goto (tgt := 15) hx hb dX1_atLength_11 (by decide) ?_
    exact ret_z hQ hx hb hr hlocks (hP.sub [0] rfl) (hD.sub [0] (by decide) rfl) hS dX1_atLength_15 (nz_1) (by first | exact b2i_t (decide_eq_true zc7) | exact b2i_f (decide_eq_false zc7))
theorem iw_X1_characterBehind_1 : ∀ w ∈ u_ws RX1 TX1 5, w ∈ wsX1_characterBehind := by decide +kernel
theorem fl_X1_characterBehind_23 : Cond.fieldLink RX1 23 (TX1 3).1 (TX1 3).2.1 (TX1 3).2.2.1 ∈ wsX1_characterBehind := by decide +kernel
set_option maxHeartbeats 400000 in
set_option maxRecDepth 100000 in
theorem c_X1_characterBehind (l : Launch) (E : EE) (sz : Nat) (p0 pC pN : Nat) (L nm : Int32) (nc : Nat) (gc : nc ≤ 80) : Ci l yX1_characterBehind wsX1_characterBehind 0 0 E [.ref p0] [(p0, .inr (1, [.ref pC, .int L, .ref pN, .int (nI nc), .int nm]))] sz (chB nc) [(p0, .inr (1, [.ref pC, .int L, .ref pN, .int (nI nc), .int nm]))] := by
  refine C_of (QQ := QI E (chB nc) [(p0, .inr (1, [.ref pC, .int L, .ref pN, .int (nI nc), .int nm]))]) (cc := cX1_characterBehind) (maxL := 1) (ret := (some .char)) (by decide +kernel) rfl (Nat.le_of_ble_eq_true rfl) ?_
  intro p e s m args below meth c A R Q ls hx hb hr hts hown hml hlocks hA hK hN hP hD hS hl hR hQ
  have hown : s.vm.findClass RX1 = some m.cls := hown
  have hl : lv_has ls 1 [(0, .ref p0)] := hl
  refine lv_aload_n hx hb dX1_characterBehind_0 rfl (lv_at hl 0 rfl) ?_
  refine rk_get (ci := 1) (C := RX1) (T := TX1) (N := 5) hx hb hts iw_X1_characterBehind_1 hown hK hP 0 rfl rfl 3 (by decide) fl_X1_characterBehind_23 rfl (v := .int (nI nc)) rfl dX1_characterBehind_1 ?_
  refine lv_iconst (v := nI 3) hx hb dX1_characterBehind_4 (by decide) ?_
  refine rk_iremN hx hb (by omega) (by omega) (by omega) dX1_characterBehind_5 ?_
  by_cases w6_0 : nc % 3 = 0
  · refine rk_ev (show nI (nc % 3) = nI 0 by rw [w6_0]) ?_
    refine lv_lookup (tgt := 32) hx hb dX1_characterBehind_6 (by decide) rfl (by decide) ?_
    refine lv_bipush (v := nI 45) hx hb dX1_characterBehind_32 (by decide) ?_
    exact ret_z hQ hx hb hr hlocks (hP.sub [0] rfl) (hD.sub [0] (by decide) rfl) hS dX1_characterBehind_34 (rfl) (by simp only [chB]; first | rw [if_pos w6_0] | rw [if_neg w6_0, if_pos w6_1] | rw [if_neg w6_0, if_neg w6_1])
  by_cases w6_1 : nc % 3 = 1
  · refine rk_ev (show nI (nc % 3) = nI 1 by rw [w6_1]) ?_
    refine lv_lookup (tgt := 35) hx hb dX1_characterBehind_6 (by decide) rfl (by decide) ?_
    refine lv_bipush (v := nI 58) hx hb dX1_characterBehind_35 (by decide) ?_
    exact ret_z hQ hx hb hr hlocks (hP.sub [0] rfl) (hD.sub [0] (by decide) rfl) hS dX1_characterBehind_37 (rfl) (by simp only [chB]; first | rw [if_pos w6_0] | rw [if_neg w6_0, if_pos w6_1] | rw [if_neg w6_0, if_neg w6_1])
  have w6_d : nc % 3 = 2 := by omega
  refine rk_ev (show nI (nc % 3) = nI 2 by rw [w6_d]) ?_
  refine lv_lookup (tgt := 38) hx hb dX1_characterBehind_6 (by decide) rfl (by decide) ?_
  refine lv_bipush (v := nI 59) hx hb dX1_characterBehind_38 (by decide) ?_
  exact ret_z hQ hx hb hr hlocks (hP.sub [0] rfl) (hD.sub [0] (by decide) rfl) hS dX1_characterBehind_40 (rfl) (by simp only [chB]; first | rw [if_pos w6_0] | rw [if_neg w6_0, if_pos w6_1] | rw [if_neg w6_0, if_neg w6_1])
theorem iw_X1_keepNumber_1 : ∀ w ∈ u_ws RX1 TX1 5, w ∈ wsX1_keepNumber := by decide +kernel
theorem fl_X1_keepNumber_23 : Cond.fieldLink RX1 23 (TX1 3).1 (TX1 3).2.1 (TX1 3).2.2.1 ∈ wsX1_keepNumber := by decide +kernel
theorem fl_X1_keepNumber_26 : Cond.fieldLink RX1 26 (TX1 4).1 (TX1 4).2.1 (TX1 4).2.2.1 ∈ wsX1_keepNumber := by decide +kernel
theorem fl_X1_keepNumber_19 : Cond.fieldLink RX1 19 (TX1 2).1 (TX1 2).2.1 (TX1 2).2.2.1 ∈ wsX1_keepNumber := by decide +kernel
set_option maxHeartbeats 400000 in
set_option maxRecDepth 100000 in
theorem c_X1_keepNumber (l : Launch) (E : EE) (sz : Nat) (p0 pC pN : Nat) (L nm : Int32) (nc : Nat) (f : Nat → Int32) (gc : nc ≤ 80) : Cv l yX1_keepNumber wsX1_keepNumber 0 0 E [.ref p0] [(p0, .inr (1, [.ref pC, .int L, .ref pN, .int (nI nc), .int nm])), (pN, aI E 80 f)] sz [(p0, .inr (1, [.ref pC, .int L, .ref pN, .int (nI (kpC nc)), .int (-1)])), (pN, aI E 80 (kpF nc nm f))] := by
  refine C_of (QQ := QV E [(p0, .inr (1, [.ref pC, .int L, .ref pN, .int (nI (kpC nc)), .int (-1)])), (pN, aI E 80 (kpF nc nm f))]) (cc := cX1_keepNumber) (maxL := 1) (ret := none) (by decide +kernel) rfl (Nat.le_of_ble_eq_true rfl) ?_
  intro p e s m args below meth c A R Q ls hx hb hr hts hown hml hlocks hA hK hN hP hD hS hl hR hQ
  have hown : s.vm.findClass RX1 = some m.cls := hown
  have hl : lv_has ls 1 [(0, .ref p0)] := hl
  refine lv_aload_n hx hb dX1_keepNumber_0 rfl (lv_at hl 0 rfl) ?_
  refine rk_get (ci := 1) (C := RX1) (T := TX1) (N := 5) hx hb hts iw_X1_keepNumber_1 hown hK hP 0 rfl rfl 3 (by decide) fl_X1_keepNumber_23 rfl (v := .int (nI nc)) rfl dX1_keepNumber_1 ?_
  refine lv_bipush (v := nI 80) hx hb dX1_keepNumber_4 (by decide) ?_
  refine rk_geN (tgt := 32) hx hb (by omega) (by omega) dX1_keepNumber_6 (by decide) (fun zc6 => ?_) (fun zc6 => ?_)
  · refine lv_aload_n hx hb dX1_keepNumber_32 rfl (lv_at hl 0 rfl) ?_
    refine lv_iconst (v := (-1)) hx hb dX1_keepNumber_33 (by decide) ?_
    refine rk_put (ci := 1) (C := RX1) (T := TX1) (N := 5) hx hb hts iw_X1_keepNumber_1 tyX1 tyX1_ok nmX1 hown hK hP hD hS 0 rfl rfl 4 (by decide) fl_X1_keepNumber_26 rfl rfl (tyX1_ok 4 (by decide)) rfl rfl (Nat.le_of_ble_eq_true rfl) (ws' := [(p0, .inr (1, [.ref pC, .int L, .ref pN, .int (nI nc), .int ((-1))])), (pN, aI E 80 f)]) rfl dX1_keepNumber_34 (fun H locs hP hD hS => ?_)
    have hP9 : va_P E.1 vwCl [(p0, .inr (1, [.ref pC, .int L, .ref pN, .int (nI nc), .int ((-1))])), (pN, aI E 80 f)] _ := hP.sub [0, 1] rfl
    have hD9 : va_D A [(p0, .inr (1, [.ref pC, .int L, .ref pN, .int (nI nc), .int ((-1))])), (pN, aI E 80 f)] := hD.sub [0, 1] (by decide) rfl
    have hW9 : ([(p0, .inr (1, [.ref pC, .int L, .ref pN, .int (nI nc), .int ((-1))])), (pN, aI E 80 f)] : va_W) = [(p0, .inr (1, [.ref pC, .int L, .ref pN, .int (nI (kpC nc)), .int (-1)])), (pN, aI E 80 (kpF nc nm f))] := by simp only [kpC, kpF]; first | rw [if_pos (Nat.lt_of_not_le (Nat.not_le.mpr zc6)), if_pos (Nat.lt_of_not_le (Nat.not_le.mpr zc6))] | rw [if_neg (Nat.not_lt.mpr zc6), if_neg (Nat.not_lt.mpr zc6)]
    rw [hW9] at hP9 hD9
    exact ret_v hQ hx hb hr hlocks hP9 hD9 hS dX1_keepNumber_37
  · refine lv_aload_n hx hb dX1_keepNumber_9 rfl (lv_at hl 0 rfl) ?_
    refine rk_get (ci := 1) (C := RX1) (T := TX1) (N := 5) hx hb hts iw_X1_keepNumber_1 hown hK hP 0 rfl rfl 2 (by decide) fl_X1_keepNumber_19 rfl (v := .ref pN) rfl dX1_keepNumber_10 ?_
    refine lv_aload_n hx hb dX1_keepNumber_13 rfl (lv_at hl 0 rfl) ?_
    refine rk_get (ci := 1) (C := RX1) (T := TX1) (N := 5) hx hb hts iw_X1_keepNumber_1 hown hK hP 0 rfl rfl 3 (by decide) fl_X1_keepNumber_23 rfl (v := .int (nI nc)) rfl dX1_keepNumber_14 ?_
    refine lv_aload_n hx hb dX1_keepNumber_17 rfl (lv_at hl 0 rfl) ?_
    refine rk_get (ci := 1) (C := RX1) (T := TX1) (N := 5) hx hb hts iw_X1_keepNumber_1 hown hK hP 0 rfl rfl 4 (by decide) fl_X1_keepNumber_26 rfl (v := .int nm) rfl dX1_keepNumber_18 ?_
    refine rk_iast hx hb hK hP hD hS 1 rfl (by omega) (by omega) (ws' := [(p0, .inr (1, [.ref pC, .int L, .ref pN, .int (nI nc), .int nm])), (pN, aI E 80 (upd f nc nm))]) rfl dX1_keepNumber_21 (fun H locs hP hD hS => ?_)
    refine lv_aload_n hx hb dX1_keepNumber_22 rfl (lv_at hl 0 rfl) ?_
    refine lv_dup hx hb dX1_keepNumber_23 rfl ?_
    refine rk_get (ci := 1) (C := RX1) (T := TX1) (N := 5) hx hb hts iw_X1_keepNumber_1 hown hK hP 0 rfl rfl 3 (by decide) fl_X1_keepNumber_23 rfl (v := .int (nI nc)) rfl dX1_keepNumber_24 ?_
    refine lv_iconst (v := nI 1) hx hb dX1_keepNumber_27 (by decide) ?_
    refine rk_iaddN hx hb dX1_keepNumber_28 ?_
    refine rk_put (ci := 1) (C := RX1) (T := TX1) (N := 5) hx hb hts iw_X1_keepNumber_1 tyX1 tyX1_ok nmX1 hown hK hP hD hS 0 rfl rfl 3 (by decide) fl_X1_keepNumber_23 rfl rfl (tyX1_ok 3 (by decide)) rfl rfl (Nat.le_of_ble_eq_true rfl) (ws' := [(p0, .inr (1, [.ref pC, .int L, .ref pN, .int (nI (nc + 1)), .int nm])), (pN, aI E 80 (upd f nc nm))]) rfl dX1_keepNumber_29 (fun H locs hP hD hS => ?_)
    refine lv_aload_n hx hb dX1_keepNumber_32 rfl (lv_at hl 0 rfl) ?_
    refine lv_iconst (v := (-1)) hx hb dX1_keepNumber_33 (by decide) ?_
    refine rk_put (ci := 1) (C := RX1) (T := TX1) (N := 5) hx hb hts iw_X1_keepNumber_1 tyX1 tyX1_ok nmX1 hown hK hP hD hS 0 rfl rfl 4 (by decide) fl_X1_keepNumber_26 rfl rfl (tyX1_ok 4 (by decide)) rfl rfl (Nat.le_of_ble_eq_true rfl) (ws' := [(p0, .inr (1, [.ref pC, .int L, .ref pN, .int (nI (nc + 1)), .int ((-1))])), (pN, aI E 80 (upd f nc nm))]) rfl dX1_keepNumber_34 (fun H locs hP hD hS => ?_)
    have hP9 : va_P E.1 vwCl [(p0, .inr (1, [.ref pC, .int L, .ref pN, .int (nI (nc + 1)), .int ((-1))])), (pN, aI E 80 (upd f nc nm))] _ := hP.sub [0, 1] rfl
    have hD9 : va_D A [(p0, .inr (1, [.ref pC, .int L, .ref pN, .int (nI (nc + 1)), .int ((-1))])), (pN, aI E 80 (upd f nc nm))] := hD.sub [0, 1] (by decide) rfl
    have hW9 : ([(p0, .inr (1, [.ref pC, .int L, .ref pN, .int (nI (nc + 1)), .int ((-1))])), (pN, aI E 80 (upd f nc nm))] : va_W) = [(p0, .inr (1, [.ref pC, .int L, .ref pN, .int (nI (kpC nc)), .int (-1)])), (pN, aI E 80 (kpF nc nm f))] := by simp only [kpC, kpF]; first | rw [if_pos (Nat.lt_of_not_le (Nat.not_le.mpr zc6)), if_pos (Nat.lt_of_not_le (Nat.not_le.mpr zc6))] | rw [if_neg (Nat.not_lt.mpr zc6), if_neg (Nat.not_lt.mpr zc6)]
    rw [hW9] at hP9 hD9
    exact ret_v hQ hx hb hr hlocks hP9 hD9 hS dX1_keepNumber_37
theorem iw_X1_takesDigit_1 : ∀ w ∈ u_ws RX1 TX1 5, w ∈ wsX1_takesDigit := by decide +kernel
theorem fl_X1_takesDigit_26 : Cond.fieldLink RX1 26 (TX1 4).1 (TX1 4).2.1 (TX1 4).2.2.1 ∈ wsX1_takesDigit := by decide +kernel
set_option maxHeartbeats 400000 in
set_option maxRecDepth 100000 in
theorem c_X1_takesDigit (l : Launch) (E : EE) (sz : Nat) (p0 pC pN : Nat) (L nm : Int32) (nc : Nat) (d : Int32) (gc : nc ≤ 80) : Ci l yX1_takesDigit wsX1_takesDigit 1 20 E [.ref p0, .int d] [(p0, .inr (1, [.ref pC, .int L, .ref pN, .int (nI nc), .int nm]))] sz (b2i (tdB nm nc d)) [(p0, .inr (1, [.ref pC, .int L, .ref pN, .int (nI nc), .int (tdM nm nc d)]))] := by
  refine C_of (QQ := QI E (b2i (tdB nm nc d)) [(p0, .inr (1, [.ref pC, .int L, .ref pN, .int (nI nc), .int (tdM nm nc d)]))]) (cc := cX1_takesDigit) (maxL := 3) (ret := (some .boolean)) (by decide +kernel) rfl (Nat.le_of_ble_eq_true rfl) ?_
  intro p e s m args below meth c A R Q ls hx hb hr hts hown hml hlocks hA hK hN hP hD hS hl hR hQ
  have hown : s.vm.findClass RX1 = some m.cls := hown
  have hl : lv_has ls 3 [(0, .ref p0), (1, .int d)] := hl
  refine lv_aload_n hx hb dX1_takesDigit_0 rfl (lv_at hl 0 rfl) ?_
  refine rk_get (ci := 1) (C := RX1) (T := TX1) (N := 5) hx hb hts iw_X1_takesDigit_1 hown hK hP 0 rfl rfl 4 (by decide) fl_X1_takesDigit_26 rfl (v := .int nm) rfl dX1_takesDigit_1 ?_
  refine lv_iconst (v := (-1)) hx hb dX1_takesDigit_4 (by decide) ?_
  refine lv_icmp_ne (tgt := 30) hx hb dX1_takesDigit_5 (by decide) (fun zc5 => ?_) (fun zc5 => ?_)
  · refine lv_aload_n hx hb dX1_takesDigit_30 rfl (lv_at hl 0 rfl) ?_
    refine rk_get (ci := 1) (C := RX1) (T := TX1) (N := 5) hx hb hts iw_X1_takesDigit_1 hown hK hP 0 rfl rfl 4 (by decide) fl_X1_takesDigit_26 rfl (v := .int nm) rfl dX1_takesDigit_31 ?_
    refine lv_bipush (v := nI 10) hx hb dX1_takesDigit_34 (by decide) ?_
    refine lv_imul hx hb dX1_takesDigit_36 ?_
    refine lv_iload_n hx hb dX1_takesDigit_37 rfl (lv_at hl 1 rfl) ?_
    refine lv_iadd hx hb dX1_takesDigit_38 ?_
    refine lv_istore_n (lv' := [(2, .int ((nm * (nI 10)) + d)), (0, .ref p0), (1, .int d)]) hx hb dX1_takesDigit_39 rfl hl (by decide) rfl (fun ls hl => ?_)
    refine lv_aload_n hx hb dX1_takesDigit_40 rfl (lv_at hl 1 rfl) ?_
    refine rk_get (ci := 1) (C := RX1) (T := TX1) (N := 5) hx hb hts iw_X1_takesDigit_1 hown hK hP 0 rfl rfl 4 (by decide) fl_X1_takesDigit_26 rfl (v := .int nm) rfl dX1_takesDigit_41 ?_
    refine lv_if_eq (tgt := 65) hx hb dX1_takesDigit_44 (by decide) (fun zc44 => ?_) (fun zc44 => ?_)
    · refine lv_iconst (v := nI 0) hx hb dX1_takesDigit_65 (by decide) ?_
      have hP9 : va_P E.1 vwCl [(p0, .inr (1, [.ref pC, .int L, .ref pN, .int (nI nc), .int nm]))] _ := hP.sub [0] rfl
      have hD9 : va_D A [(p0, .inr (1, [.ref pC, .int L, .ref pN, .int (nI nc), .int nm]))] := hD.sub [0] (by decide) rfl
      have hW9 : ([(p0, .inr (1, [.ref pC, .int L, .ref pN, .int (nI nc), .int nm]))] : va_W) = [(p0, .inr (1, [.ref pC, .int L, .ref pN, .int (nI nc), .int (tdM nm nc d)]))] := by first | rw [tdM_a zc5] | rw [tdM_b zc5 zc44] | rw [tdM_c zc5 zc52 zc62] | rw [tdM_d zc5 zc52 zc62] | rw [tdM_e zc5 zc44 zc52 zc62] | rw [tdM_f zc5 zc44 zc52 zc62]
      rw [hW9] at hP9 hD9
      exact ret_z hQ hx hb hr hlocks hP9 hD9 hS dX1_takesDigit_66 (nz_0) (by first | exact b2i_t (tdB_1 zc5 zc14) | exact b2i_t (tdB_2 zc5 zc21) | exact b2i_f (tdB_3 zc5 zc14 zc21) | exact b2i_f (tdB_4 zc5 zc44) | exact b2i_f (tdB_5 zc5 zc52 zc62) | exact b2i_f (tdB_6 zc5 zc52 zc62) | exact b2i_t (tdB_7 zc5 zc44 zc52 zc62) | exact b2i_t (tdB_8 zc5 zc44 zc52 zc62))
    · refine lv_iload_n hx hb dX1_takesDigit_47 rfl (lv_at hl 0 rfl) ?_
      refine lv_aload_n hx hb dX1_takesDigit_48 rfl (lv_at hl 1 rfl) ?_
      refine kV_i (E := E) (As := []) (rest := [.int ((nm * (nI 10)) + d)]) (wr := []) ⟨hx, hb, hml, hown, hts⟩ (c_X1_atLength (l := l) (E := E) (sz := _) (p0 := p0) (pC := pC) (pN := pN) (L := L) (nm := nm) (nc := nc) (gc := by first | assumption | omega)) (cwV 0 hts gX1_takesDigit_X1_atLength rfl rfl rfl (by decide +kernel) ⟨by rw [hR]; decide, by rw [hR]; decide⟩) hK hN hP hD hS hA [0] [] rfl (by decide) rfl (by decide) (by decide) 0 1 rfl rfl rfl hl.1 rfl (Nat.le_of_ble_eq_true rfl) dX1_takesDigit_49 ⟨Nat.zero_le _, Nat.zero_le _⟩ (fun H locs hP hD hS => ?_)
      have hP : va_P E.1 vwCl [(p0, .inr (1, [.ref pC, .int L, .ref pN, .int (nI nc), .int nm]))] H := hP
      have hD : va_D A [(p0, .inr (1, [.ref pC, .int L, .ref pN, .int (nI nc), .int nm]))] := hD
      refine rk_if_eqB (tgt := 60) hx hb dX1_takesDigit_52 (by decide) (fun zc52 => ?_) (fun zc52 => ?_)
      · refine lv_bipush (v := nI 15) hx hb dX1_takesDigit_60 (by decide) ?_
        refine lv_icmp_le (tgt := 67) hx hb dX1_takesDigit_62 (by decide) (fun zc62 => ?_) (fun zc62 => ?_)
        · refine lv_aload_n hx hb dX1_takesDigit_67 rfl (lv_at hl 1 rfl) ?_
          refine lv_iload_n hx hb dX1_takesDigit_68 rfl (lv_at hl 0 rfl) ?_
          refine rk_put (ci := 1) (C := RX1) (T := TX1) (N := 5) hx hb hts iw_X1_takesDigit_1 tyX1 tyX1_ok nmX1 hown hK hP hD hS 0 rfl rfl 4 (by decide) fl_X1_takesDigit_26 rfl rfl (tyX1_ok 4 (by decide)) rfl rfl (Nat.le_of_ble_eq_true rfl) (ws' := [(p0, .inr (1, [.ref pC, .int L, .ref pN, .int (nI nc), .int ((nm * (nI 10)) + d)]))]) rfl dX1_takesDigit_69 (fun H locs hP hD hS => ?_)
          refine lv_iconst (v := nI 1) hx hb dX1_takesDigit_72 (by decide) ?_
          have hP9 : va_P E.1 vwCl [(p0, .inr (1, [.ref pC, .int L, .ref pN, .int (nI nc), .int ((nm * (nI 10)) + d)]))] _ := hP.sub [0] rfl
          have hD9 : va_D A [(p0, .inr (1, [.ref pC, .int L, .ref pN, .int (nI nc), .int ((nm * (nI 10)) + d)]))] := hD.sub [0] (by decide) rfl
          have hW9 : ([(p0, .inr (1, [.ref pC, .int L, .ref pN, .int (nI nc), .int ((nm * (nI 10)) + d)]))] : va_W) = [(p0, .inr (1, [.ref pC, .int L, .ref pN, .int (nI nc), .int (tdM nm nc d)]))] := by first | rw [tdM_a zc5] | rw [tdM_b zc5 zc44] | rw [tdM_c zc5 zc52 zc62] | rw [tdM_d zc5 zc52 zc62] | rw [tdM_e zc5 zc44 zc52 zc62] | rw [tdM_f zc5 zc44 zc52 zc62]
          rw [hW9] at hP9 hD9
          exact ret_z hQ hx hb hr hlocks hP9 hD9 hS dX1_takesDigit_73 (nz_1) (by first | exact b2i_t (tdB_1 zc5 zc14) | exact b2i_t (tdB_2 zc5 zc21) | exact b2i_f (tdB_3 zc5 zc14 zc21) | exact b2i_f (tdB_4 zc5 zc44) | exact b2i_f (tdB_5 zc5 zc52 zc62) | exact b2i_f (tdB_6 zc5 zc52 zc62) | exact b2i_t (tdB_7 zc5 zc44 zc52 zc62) | exact b2i_t (tdB_8 zc5 zc44 zc52 zc62))
        · refine lv_iconst (v := nI 0) hx hb dX1_takesDigit_65 (by decide) ?_
          have hP9 : va_P E.1 vwCl [(p0, .inr (1, [.ref pC, .int L, .ref pN, .int (nI nc), .int nm]))] _ := hP.sub [0] rfl
          have hD9 : va_D A [(p0, .inr (1, [.ref pC, .int L, .ref pN, .int (nI nc), .int nm]))] := hD.sub [0] (by decide) rfl
          have hW9 : ([(p0, .inr (1, [.ref pC, .int L, .ref pN, .int (nI nc), .int nm]))] : va_W) = [(p0, .inr (1, [.ref pC, .int L, .ref pN, .int (nI nc), .int (tdM nm nc d)]))] := by first | rw [tdM_a zc5] | rw [tdM_b zc5 zc44] | rw [tdM_c zc5 zc52 zc62] | rw [tdM_d zc5 zc52 zc62] | rw [tdM_e zc5 zc44 zc52 zc62] | rw [tdM_f zc5 zc44 zc52 zc62]
          rw [hW9] at hP9 hD9
          exact ret_z hQ hx hb hr hlocks hP9 hD9 hS dX1_takesDigit_66 (nz_0) (by first | exact b2i_t (tdB_1 zc5 zc14) | exact b2i_t (tdB_2 zc5 zc21) | exact b2i_f (tdB_3 zc5 zc14 zc21) | exact b2i_f (tdB_4 zc5 zc44) | exact b2i_f (tdB_5 zc5 zc52 zc62) | exact b2i_f (tdB_6 zc5 zc52 zc62) | exact b2i_t (tdB_7 zc5 zc44 zc52 zc62) | exact b2i_t (tdB_8 zc5 zc44 zc52 zc62))
      · refine lv_bipush (v := nI 99) hx hb dX1_takesDigit_55 (by decide) ?_
        refine lv_goto (tgt := 62) hx hb dX1_takesDigit_57 (by decide) ?_
        refine lv_icmp_le (tgt := 67) hx hb dX1_takesDigit_62 (by decide) (fun zc62 => ?_) (fun zc62 => ?_)
        · refine lv_aload_n hx hb dX1_takesDigit_67 rfl (lv_at hl 1 rfl) ?_
          refine lv_iload_n hx hb dX1_takesDigit_68 rfl (lv_at hl 0 rfl) ?_
          refine rk_put (ci := 1) (C := RX1) (T := TX1) (N := 5) hx hb hts iw_X1_takesDigit_1 tyX1 tyX1_ok nmX1 hown hK hP hD hS 0 rfl rfl 4 (by decide) fl_X1_takesDigit_26 rfl rfl (tyX1_ok 4 (by decide)) rfl rfl (Nat.le_of_ble_eq_true rfl) (ws' := [(p0, .inr (1, [.ref pC, .int L, .ref pN, .int (nI nc), .int ((nm * (nI 10)) + d)]))]) rfl dX1_takesDigit_69 (fun H locs hP hD hS => ?_)
          refine lv_iconst (v := nI 1) hx hb dX1_takesDigit_72 (by decide) ?_
          have hP9 : va_P E.1 vwCl [(p0, .inr (1, [.ref pC, .int L, .ref pN, .int (nI nc), .int ((nm * (nI 10)) + d)]))] _ := hP.sub [0] rfl
          have hD9 : va_D A [(p0, .inr (1, [.ref pC, .int L, .ref pN, .int (nI nc), .int ((nm * (nI 10)) + d)]))] := hD.sub [0] (by decide) rfl
          have hW9 : ([(p0, .inr (1, [.ref pC, .int L, .ref pN, .int (nI nc), .int ((nm * (nI 10)) + d)]))] : va_W) = [(p0, .inr (1, [.ref pC, .int L, .ref pN, .int (nI nc), .int (tdM nm nc d)]))] := by first | rw [tdM_a zc5] | rw [tdM_b zc5 zc44] | rw [tdM_c zc5 zc52 zc62] | rw [tdM_d zc5 zc52 zc62] | rw [tdM_e zc5 zc44 zc52 zc62] | rw [tdM_f zc5 zc44 zc52 zc62]
          rw [hW9] at hP9 hD9
          exact ret_z hQ hx hb hr hlocks hP9 hD9 hS dX1_takesDigit_73 (nz_1) (by first | exact b2i_t (tdB_1 zc5 zc14) | exact b2i_t (tdB_2 zc5 zc21) | exact b2i_f (tdB_3 zc5 zc14 zc21) | exact b2i_f (tdB_4 zc5 zc44) | exact b2i_f (tdB_5 zc5 zc52 zc62) | exact b2i_f (tdB_6 zc5 zc52 zc62) | exact b2i_t (tdB_7 zc5 zc44 zc52 zc62) | exact b2i_t (tdB_8 zc5 zc44 zc52 zc62))
        · refine lv_iconst (v := nI 0) hx hb dX1_takesDigit_65 (by decide) ?_
          have hP9 : va_P E.1 vwCl [(p0, .inr (1, [.ref pC, .int L, .ref pN, .int (nI nc), .int nm]))] _ := hP.sub [0] rfl
          have hD9 : va_D A [(p0, .inr (1, [.ref pC, .int L, .ref pN, .int (nI nc), .int nm]))] := hD.sub [0] (by decide) rfl
          have hW9 : ([(p0, .inr (1, [.ref pC, .int L, .ref pN, .int (nI nc), .int nm]))] : va_W) = [(p0, .inr (1, [.ref pC, .int L, .ref pN, .int (nI nc), .int (tdM nm nc d)]))] := by first | rw [tdM_a zc5] | rw [tdM_b zc5 zc44] | rw [tdM_c zc5 zc52 zc62] | rw [tdM_d zc5 zc52 zc62] | rw [tdM_e zc5 zc44 zc52 zc62] | rw [tdM_f zc5 zc44 zc52 zc62]
          rw [hW9] at hP9 hD9
          exact ret_z hQ hx hb hr hlocks hP9 hD9 hS dX1_takesDigit_66 (nz_0) (by first | exact b2i_t (tdB_1 zc5 zc14) | exact b2i_t (tdB_2 zc5 zc21) | exact b2i_f (tdB_3 zc5 zc14 zc21) | exact b2i_f (tdB_4 zc5 zc44) | exact b2i_f (tdB_5 zc5 zc52 zc62) | exact b2i_f (tdB_6 zc5 zc52 zc62) | exact b2i_t (tdB_7 zc5 zc44 zc52 zc62) | exact b2i_t (tdB_8 zc5 zc44 zc52 zc62))
  · refine lv_aload_n hx hb dX1_takesDigit_8 rfl (lv_at hl 0 rfl) ?_
    refine lv_iload_n hx hb dX1_takesDigit_9 rfl (lv_at hl 1 rfl) ?_
    refine rk_put (ci := 1) (C := RX1) (T := TX1) (N := 5) hx hb hts iw_X1_takesDigit_1 tyX1 tyX1_ok nmX1 hown hK hP hD hS 0 rfl rfl 4 (by decide) fl_X1_takesDigit_26 rfl rfl (tyX1_ok 4 (by decide)) rfl rfl (Nat.le_of_ble_eq_true rfl) (ws' := [(p0, .inr (1, [.ref pC, .int L, .ref pN, .int (nI nc), .int d]))]) rfl dX1_takesDigit_10 (fun H locs hP hD hS => ?_)
    refine lv_iload_n hx hb dX1_takesDigit_13 rfl (lv_at hl 1 rfl) ?_
    refine lv_if_gt (tgt := 24) hx hb dX1_takesDigit_14 (by decide) (fun zc14 => ?_) (fun zc14 => ?_)
    · refine lv_iconst (v := nI 1) hx hb dX1_takesDigit_24 (by decide) ?_
      refine lv_goto (tgt := 29) hx hb dX1_takesDigit_25 (by decide) ?_
      have hP9 : va_P E.1 vwCl [(p0, .inr (1, [.ref pC, .int L, .ref pN, .int (nI nc), .int d]))] _ := hP.sub [0] rfl
      have hD9 : va_D A [(p0, .inr (1, [.ref pC, .int L, .ref pN, .int (nI nc), .int d]))] := hD.sub [0] (by decide) rfl
      have hW9 : ([(p0, .inr (1, [.ref pC, .int L, .ref pN, .int (nI nc), .int d]))] : va_W) = [(p0, .inr (1, [.ref pC, .int L, .ref pN, .int (nI nc), .int (tdM nm nc d)]))] := by first | rw [tdM_a zc5] | rw [tdM_b zc5 zc44] | rw [tdM_c zc5 zc52 zc62] | rw [tdM_d zc5 zc52 zc62] | rw [tdM_e zc5 zc44 zc52 zc62] | rw [tdM_f zc5 zc44 zc52 zc62]
      rw [hW9] at hP9 hD9
      exact ret_z hQ hx hb hr hlocks hP9 hD9 hS dX1_takesDigit_29 (nz_1) (by first | exact b2i_t (tdB_1 zc5 zc14) | exact b2i_t (tdB_2 zc5 zc21) | exact b2i_f (tdB_3 zc5 zc14 zc21) | exact b2i_f (tdB_4 zc5 zc44) | exact b2i_f (tdB_5 zc5 zc52 zc62) | exact b2i_f (tdB_6 zc5 zc52 zc62) | exact b2i_t (tdB_7 zc5 zc44 zc52 zc62) | exact b2i_t (tdB_8 zc5 zc44 zc52 zc62))
    · refine lv_aload_n hx hb dX1_takesDigit_17 rfl (lv_at hl 0 rfl) ?_
      refine kV_i (E := E) (As := []) (rest := []) (wr := []) ⟨hx, hb, hml, hown, hts⟩ (c_X1_atLength (l := l) (E := E) (sz := _) (p0 := p0) (pC := pC) (pN := pN) (L := L) (nm := d) (nc := nc) (gc := by first | assumption | omega)) (cwV 0 hts gX1_takesDigit_X1_atLength rfl rfl rfl (by decide +kernel) ⟨by rw [hR]; decide, by rw [hR]; decide⟩) hK hN hP hD hS hA [0] [] rfl (by decide) rfl (by decide) (by decide) 0 1 rfl rfl rfl hl.1 rfl (Nat.le_of_ble_eq_true rfl) dX1_takesDigit_18 ⟨Nat.zero_le _, Nat.zero_le _⟩ (fun H locs hP hD hS => ?_)
      have hP : va_P E.1 vwCl [(p0, .inr (1, [.ref pC, .int L, .ref pN, .int (nI nc), .int d]))] H := hP
      have hD : va_D A [(p0, .inr (1, [.ref pC, .int L, .ref pN, .int (nI nc), .int d]))] := hD
      refine rk_if_neB (tgt := 28) hx hb dX1_takesDigit_21 (by decide) (fun zc21 => ?_) (fun zc21 => ?_)
      · refine lv_iconst (v := nI 0) hx hb dX1_takesDigit_28 (by decide) ?_
        have hP9 : va_P E.1 vwCl [(p0, .inr (1, [.ref pC, .int L, .ref pN, .int (nI nc), .int d]))] _ := hP.sub [0] rfl
        have hD9 : va_D A [(p0, .inr (1, [.ref pC, .int L, .ref pN, .int (nI nc), .int d]))] := hD.sub [0] (by decide) rfl
        have hW9 : ([(p0, .inr (1, [.ref pC, .int L, .ref pN, .int (nI nc), .int d]))] : va_W) = [(p0, .inr (1, [.ref pC, .int L, .ref pN, .int (nI nc), .int (tdM nm nc d)]))] := by first | rw [tdM_a zc5] | rw [tdM_b zc5 zc44] | rw [tdM_c zc5 zc52 zc62] | rw [tdM_d zc5 zc52 zc62] | rw [tdM_e zc5 zc44 zc52 zc62] | rw [tdM_f zc5 zc44 zc52 zc62]
        rw [hW9] at hP9 hD9
        exact ret_z hQ hx hb hr hlocks hP9 hD9 hS dX1_takesDigit_29 (nz_0) (by first | exact b2i_t (tdB_1 zc5 zc14) | exact b2i_t (tdB_2 zc5 zc21) | exact b2i_f (tdB_3 zc5 zc14 zc21) | exact b2i_f (tdB_4 zc5 zc44) | exact b2i_f (tdB_5 zc5 zc52 zc62) | exact b2i_f (tdB_6 zc5 zc52 zc62) | exact b2i_t (tdB_7 zc5 zc44 zc52 zc62) | exact b2i_t (tdB_8 zc5 zc44 zc52 zc62))
      · refine lv_iconst (v := nI 1) hx hb dX1_takesDigit_24 (by decide) ?_
        refine lv_goto (tgt := 29) hx hb dX1_takesDigit_25 (by decide) ?_
        have hP9 : va_P E.1 vwCl [(p0, .inr (1, [.ref pC, .int L, .ref pN, .int (nI nc), .int d]))] _ := hP.sub [0] rfl
        have hD9 : va_D A [(p0, .inr (1, [.ref pC, .int L, .ref pN, .int (nI nc), .int d]))] := hD.sub [0] (by decide) rfl
        have hW9 : ([(p0, .inr (1, [.ref pC, .int L, .ref pN, .int (nI nc), .int d]))] : va_W) = [(p0, .inr (1, [.ref pC, .int L, .ref pN, .int (nI nc), .int (tdM nm nc d)]))] := by first | rw [tdM_a zc5] | rw [tdM_b zc5 zc44] | rw [tdM_c zc5 zc52 zc62] | rw [tdM_d zc5 zc52 zc62] | rw [tdM_e zc5 zc44 zc52 zc62] | rw [tdM_f zc5 zc44 zc52 zc62]
        rw [hW9] at hP9 hD9
        exact ret_z hQ hx hb hr hlocks hP9 hD9 hS dX1_takesDigit_29 (nz_1) (by first | exact b2i_t (tdB_1 zc5 zc14) | exact b2i_t (tdB_2 zc5 zc21) | exact b2i_f (tdB_3 zc5 zc14 zc21) | exact b2i_f (tdB_4 zc5 zc44) | exact b2i_f (tdB_5 zc5 zc52 zc62) | exact b2i_f (tdB_6 zc5 zc52 zc62) | exact b2i_t (tdB_7 zc5 zc44 zc52 zc62) | exact b2i_t (tdB_8 zc5 zc44 zc52 zc62))
theorem iw_X1_takes_1 : ∀ w ∈ u_ws RX1 TX1 5, w ∈ wsX1_takes := by decide +kernel
theorem fl_X1_takes_26 : Cond.fieldLink RX1 26 (TX1 4).1 (TX1 4).2.1 (TX1 4).2.2.1 ∈ wsX1_takes := by decide +kernel
set_option maxHeartbeats 400000 in
set_option maxRecDepth 100000 in
theorem c_X1_takes (l : Launch) (E : EE) (sz : Nat) (p0 pC pN : Nat) (L nm : Int32) (nc : Nat) (f : Nat → Int32) (ch : Int32) (gc : nc ≤ 80) : Ci l yX1_takes wsX1_takes 2 42 E [.ref p0, .int ch] [(p0, .inr (1, [.ref pC, .int L, .ref pN, .int (nI nc), .int nm])), (pN, aI E 80 f)] sz (b2i ((tk nm nc f ch).1)) [(p0, .inr (1, [.ref pC, .int L, .ref pN, .int (nI ((tk nm nc f ch).2.2.1)), .int ((tk nm nc f ch).2.1)])), (pN, aI E 80 ((tk nm nc f ch).2.2.2))] := by
  refine C_of (QQ := QI E (b2i ((tk nm nc f ch).1)) [(p0, .inr (1, [.ref pC, .int L, .ref pN, .int (nI ((tk nm nc f ch).2.2.1)), .int ((tk nm nc f ch).2.1)])), (pN, aI E 80 ((tk nm nc f ch).2.2.2))]) (cc := cX1_takes) (maxL := 2) (ret := (some .boolean)) (by decide +kernel) rfl (Nat.le_of_ble_eq_true rfl) ?_
  intro p e s m args below meth c A R Q ls hx hb hr hts hown hml hlocks hA hK hN hP hD hS hl hR hQ
  have hown : s.vm.findClass RX1 = some m.cls := hown
  have hl : lv_has ls 2 [(0, .ref p0), (1, .int ch)] := hl
  refine lv_iload_n hx hb dX1_takes_0 rfl (lv_at hl 1 rfl) ?_
  refine lv_bipush (v := nI 48) hx hb dX1_takes_1 (by decide) ?_
  refine lv_icmp_lt (tgt := 21) hx hb dX1_takes_3 (by decide) (fun zc3 => ?_) (fun zc3 => ?_)
  · refine lv_aload_n hx hb dX1_takes_21 rfl (lv_at hl 0 rfl) ?_
    refine rk_get (ci := 1) (C := RX1) (T := TX1) (N := 5) hx hb hts iw_X1_takes_1 hown hK hP 0 rfl rfl 4 (by decide) fl_X1_takes_26 rfl (v := .int nm) rfl dX1_takes_22 ?_
    refine lv_iconst (v := (-1)) hx hb dX1_takes_25 (by decide) ?_
    refine lv_icmp_eq (tgt := 37) hx hb dX1_takes_26 (by decide) (fun zc26 => ?_) (fun zc26 => ?_)
    · refine lv_iconst (v := nI 0) hx hb dX1_takes_37 (by decide) ?_
      have hP9 : va_P E.1 vwCl [(p0, .inr (1, [.ref pC, .int L, .ref pN, .int (nI nc), .int nm])), (pN, aI E 80 f)] _ := hP.sub [0, 1] rfl
      have hD9 : va_D A [(p0, .inr (1, [.ref pC, .int L, .ref pN, .int (nI nc), .int nm])), (pN, aI E 80 f)] := hD.sub [0, 1] (by decide) rfl
      have hW9 : ([(p0, .inr (1, [.ref pC, .int L, .ref pN, .int (nI nc), .int nm])), (pN, aI E 80 f)] : va_W) = [(p0, .inr (1, [.ref pC, .int L, .ref pN, .int (nI ((tk nm nc f ch).2.2.1)), .int ((tk nm nc f ch).2.1)])), (pN, aI E 80 ((tk nm nc f ch).2.2.2))] := by first | rw [tk_d zc3 zc9] | rw [tk_n1 zc3 zc26] | rw [tk_n2 zc9 zc26] | rw [tk_n3 zc3 zc34] | rw [tk_n4 zc9 zc34] | rw [tk_y1 zc3 zc26 zc34] | rw [tk_y2 zc9 zc26 zc34]
      rw [hW9] at hP9 hD9
      exact ret_z hQ hx hb hr hlocks hP9 hD9 hS dX1_takes_38 (nz_0) (by first | rw [tk_d zc3 zc9] | (rw [tk_n1 zc3 zc26]; rfl) | (rw [tk_n2 zc9 zc26]; rfl) | (rw [tk_n3 zc3 zc34]; rfl) | (rw [tk_n4 zc9 zc34]; rfl) | (rw [tk_y1 zc3 zc26 zc34]; rfl) | (rw [tk_y2 zc9 zc26 zc34]; rfl))
    · refine lv_iload_n hx hb dX1_takes_29 rfl (lv_at hl 1 rfl) ?_
      refine lv_aload_n hx hb dX1_takes_30 rfl (lv_at hl 0 rfl) ?_
      refine kV_i (E := E) (As := []) (rest := [.int ch]) (wr := [(pN, aI E 80 f)]) ⟨hx, hb, hml, hown, hts⟩ (c_X1_characterBehind (l := l) (E := E) (sz := _) (p0 := p0) (pC := pC) (pN := pN) (L := L) (nm := nm) (nc := nc) (gc := by first | assumption | omega)) (cwV 0 hts gX1_takes_X1_characterBehind rfl rfl rfl (by decide +kernel) ⟨by rw [hR]; decide, by rw [hR]; decide⟩) hK hN hP hD hS hA [0] [1] rfl (by decide) rfl (by decide) (by decide) 0 1 rfl rfl rfl hl.1 rfl (Nat.le_of_ble_eq_true rfl) dX1_takes_31 ⟨Nat.zero_le _, Nat.zero_le _⟩ (fun H locs hP hD hS => ?_)
      have hP : va_P E.1 vwCl [(pN, aI E 80 f), (p0, .inr (1, [.ref pC, .int L, .ref pN, .int (nI nc), .int nm]))] H := hP
      have hD : va_D A [(pN, aI E 80 f), (p0, .inr (1, [.ref pC, .int L, .ref pN, .int (nI nc), .int nm]))] := hD
      refine lv_icmp_eq (tgt := 39) hx hb dX1_takes_34 (by decide) (fun zc34 => ?_) (fun zc34 => ?_)
      · refine lv_aload_n hx hb dX1_takes_39 rfl (lv_at hl 0 rfl) ?_
        refine kV_v (E := E) (As := []) (rest := []) (wr := []) ⟨hx, hb, hml, hown, hts⟩ (c_X1_keepNumber (l := l) (E := E) (sz := _) (p0 := p0) (pC := pC) (pN := pN) (L := L) (nm := nm) (nc := nc) (f := f) (gc := by first | assumption | omega)) (cwV 0 hts gX1_takes_X1_keepNumber rfl rfl rfl (by decide +kernel) ⟨by rw [hR]; decide, by rw [hR]; decide⟩) hK hN hP hD hS hA [1, 0] [] rfl (by decide) rfl (by decide) (by decide) 1 1 rfl rfl rfl hl.1 rfl (Nat.le_of_ble_eq_true rfl) dX1_takes_40 ⟨Nat.zero_le _, Nat.zero_le _⟩ (fun H locs hP hD hS => ?_)
        have hP : va_P E.1 vwCl [(p0, .inr (1, [.ref pC, .int L, .ref pN, .int (nI (kpC nc)), .int (-1)])), (pN, aI E 80 (kpF nc nm f))] H := hP
        have hD : va_D A [(p0, .inr (1, [.ref pC, .int L, .ref pN, .int (nI (kpC nc)), .int (-1)])), (pN, aI E 80 (kpF nc nm f))] := hD
        refine lv_iconst (v := nI 1) hx hb dX1_takes_43 (by decide) ?_
        have hP9 : va_P E.1 vwCl [(p0, .inr (1, [.ref pC, .int L, .ref pN, .int (nI (kpC nc)), .int (-1)])), (pN, aI E 80 (kpF nc nm f))] _ := hP.sub [0, 1] rfl
        have hD9 : va_D A [(p0, .inr (1, [.ref pC, .int L, .ref pN, .int (nI (kpC nc)), .int (-1)])), (pN, aI E 80 (kpF nc nm f))] := hD.sub [0, 1] (by decide) rfl
        have hW9 : ([(p0, .inr (1, [.ref pC, .int L, .ref pN, .int (nI (kpC nc)), .int (-1)])), (pN, aI E 80 (kpF nc nm f))] : va_W) = [(p0, .inr (1, [.ref pC, .int L, .ref pN, .int (nI ((tk nm nc f ch).2.2.1)), .int ((tk nm nc f ch).2.1)])), (pN, aI E 80 ((tk nm nc f ch).2.2.2))] := by first | rw [tk_d zc3 zc9] | rw [tk_n1 zc3 zc26] | rw [tk_n2 zc9 zc26] | rw [tk_n3 zc3 zc34] | rw [tk_n4 zc9 zc34] | rw [tk_y1 zc3 zc26 zc34] | rw [tk_y2 zc9 zc26 zc34]
        rw [hW9] at hP9 hD9
        exact ret_z hQ hx hb hr hlocks hP9 hD9 hS dX1_takes_44 (nz_1) (by first | rw [tk_d zc3 zc9] | (rw [tk_n1 zc3 zc26]; rfl) | (rw [tk_n2 zc9 zc26]; rfl) | (rw [tk_n3 zc3 zc34]; rfl) | (rw [tk_n4 zc9 zc34]; rfl) | (rw [tk_y1 zc3 zc26 zc34]; rfl) | (rw [tk_y2 zc9 zc26 zc34]; rfl))
      · refine lv_iconst (v := nI 0) hx hb dX1_takes_37 (by decide) ?_
        have hP9 : va_P E.1 vwCl [(p0, .inr (1, [.ref pC, .int L, .ref pN, .int (nI nc), .int nm])), (pN, aI E 80 f)] _ := hP.sub [1, 0] rfl
        have hD9 : va_D A [(p0, .inr (1, [.ref pC, .int L, .ref pN, .int (nI nc), .int nm])), (pN, aI E 80 f)] := hD.sub [1, 0] (by decide) rfl
        have hW9 : ([(p0, .inr (1, [.ref pC, .int L, .ref pN, .int (nI nc), .int nm])), (pN, aI E 80 f)] : va_W) = [(p0, .inr (1, [.ref pC, .int L, .ref pN, .int (nI ((tk nm nc f ch).2.2.1)), .int ((tk nm nc f ch).2.1)])), (pN, aI E 80 ((tk nm nc f ch).2.2.2))] := by first | rw [tk_d zc3 zc9] | rw [tk_n1 zc3 zc26] | rw [tk_n2 zc9 zc26] | rw [tk_n3 zc3 zc34] | rw [tk_n4 zc9 zc34] | rw [tk_y1 zc3 zc26 zc34] | rw [tk_y2 zc9 zc26 zc34]
        rw [hW9] at hP9 hD9
        exact ret_z hQ hx hb hr hlocks hP9 hD9 hS dX1_takes_38 (nz_0) (by first | rw [tk_d zc3 zc9] | (rw [tk_n1 zc3 zc26]; rfl) | (rw [tk_n2 zc9 zc26]; rfl) | (rw [tk_n3 zc3 zc34]; rfl) | (rw [tk_n4 zc9 zc34]; rfl) | (rw [tk_y1 zc3 zc26 zc34]; rfl) | (rw [tk_y2 zc9 zc26 zc34]; rfl))
  · refine lv_iload_n hx hb dX1_takes_6 rfl (lv_at hl 1 rfl) ?_
    refine lv_bipush (v := nI 57) hx hb dX1_takes_7 (by decide) ?_
    refine lv_icmp_gt (tgt := 21) hx hb dX1_takes_9 (by decide) (fun zc9 => ?_) (fun zc9 => ?_)
    · refine lv_aload_n hx hb dX1_takes_21 rfl (lv_at hl 0 rfl) ?_
      refine rk_get (ci := 1) (C := RX1) (T := TX1) (N := 5) hx hb hts iw_X1_takes_1 hown hK hP 0 rfl rfl 4 (by decide) fl_X1_takes_26 rfl (v := .int nm) rfl dX1_takes_22 ?_
      refine lv_iconst (v := (-1)) hx hb dX1_takes_25 (by decide) ?_
      refine lv_icmp_eq (tgt := 37) hx hb dX1_takes_26 (by decide) (fun zc26 => ?_) (fun zc26 => ?_)
      · refine lv_iconst (v := nI 0) hx hb dX1_takes_37 (by decide) ?_
        have hP9 : va_P E.1 vwCl [(p0, .inr (1, [.ref pC, .int L, .ref pN, .int (nI nc), .int nm])), (pN, aI E 80 f)] _ := hP.sub [0, 1] rfl
        have hD9 : va_D A [(p0, .inr (1, [.ref pC, .int L, .ref pN, .int (nI nc), .int nm])), (pN, aI E 80 f)] := hD.sub [0, 1] (by decide) rfl
        have hW9 : ([(p0, .inr (1, [.ref pC, .int L, .ref pN, .int (nI nc), .int nm])), (pN, aI E 80 f)] : va_W) = [(p0, .inr (1, [.ref pC, .int L, .ref pN, .int (nI ((tk nm nc f ch).2.2.1)), .int ((tk nm nc f ch).2.1)])), (pN, aI E 80 ((tk nm nc f ch).2.2.2))] := by first | rw [tk_d zc3 zc9] | rw [tk_n1 zc3 zc26] | rw [tk_n2 zc9 zc26] | rw [tk_n3 zc3 zc34] | rw [tk_n4 zc9 zc34] | rw [tk_y1 zc3 zc26 zc34] | rw [tk_y2 zc9 zc26 zc34]
        rw [hW9] at hP9 hD9
        exact ret_z hQ hx hb hr hlocks hP9 hD9 hS dX1_takes_38 (nz_0) (by first | rw [tk_d zc3 zc9] | (rw [tk_n1 zc3 zc26]; rfl) | (rw [tk_n2 zc9 zc26]; rfl) | (rw [tk_n3 zc3 zc34]; rfl) | (rw [tk_n4 zc9 zc34]; rfl) | (rw [tk_y1 zc3 zc26 zc34]; rfl) | (rw [tk_y2 zc9 zc26 zc34]; rfl))
      · refine lv_iload_n hx hb dX1_takes_29 rfl (lv_at hl 1 rfl) ?_
        refine lv_aload_n hx hb dX1_takes_30 rfl (lv_at hl 0 rfl) ?_
        refine kV_i (E := E) (As := []) (rest := [.int ch]) (wr := [(pN, aI E 80 f)]) ⟨hx, hb, hml, hown, hts⟩ (c_X1_characterBehind (l := l) (E := E) (sz := _) (p0 := p0) (pC := pC) (pN := pN) (L := L) (nm := nm) (nc := nc) (gc := by first | assumption | omega)) (cwV 0 hts gX1_takes_X1_characterBehind rfl rfl rfl (by decide +kernel) ⟨by rw [hR]; decide, by rw [hR]; decide⟩) hK hN hP hD hS hA [0] [1] rfl (by decide) rfl (by decide) (by decide) 0 1 rfl rfl rfl hl.1 rfl (Nat.le_of_ble_eq_true rfl) dX1_takes_31 ⟨Nat.zero_le _, Nat.zero_le _⟩ (fun H locs hP hD hS => ?_)
        have hP : va_P E.1 vwCl [(pN, aI E 80 f), (p0, .inr (1, [.ref pC, .int L, .ref pN, .int (nI nc), .int nm]))] H := hP
        have hD : va_D A [(pN, aI E 80 f), (p0, .inr (1, [.ref pC, .int L, .ref pN, .int (nI nc), .int nm]))] := hD
        refine lv_icmp_eq (tgt := 39) hx hb dX1_takes_34 (by decide) (fun zc34 => ?_) (fun zc34 => ?_)
        · refine lv_aload_n hx hb dX1_takes_39 rfl (lv_at hl 0 rfl) ?_
          refine kV_v (E := E) (As := []) (rest := []) (wr := []) ⟨hx, hb, hml, hown, hts⟩ (c_X1_keepNumber (l := l) (E := E) (sz := _) (p0 := p0) (pC := pC) (pN := pN) (L := L) (nm := nm) (nc := nc) (f := f) (gc := by first | assumption | omega)) (cwV 0 hts gX1_takes_X1_keepNumber rfl rfl rfl (by decide +kernel) ⟨by rw [hR]; decide, by rw [hR]; decide⟩) hK hN hP hD hS hA [1, 0] [] rfl (by decide) rfl (by decide) (by decide) 1 1 rfl rfl rfl hl.1 rfl (Nat.le_of_ble_eq_true rfl) dX1_takes_40 ⟨Nat.zero_le _, Nat.zero_le _⟩ (fun H locs hP hD hS => ?_)
          have hP : va_P E.1 vwCl [(p0, .inr (1, [.ref pC, .int L, .ref pN, .int (nI (kpC nc)), .int (-1)])), (pN, aI E 80 (kpF nc nm f))] H := hP
          have hD : va_D A [(p0, .inr (1, [.ref pC, .int L, .ref pN, .int (nI (kpC nc)), .int (-1)])), (pN, aI E 80 (kpF nc nm f))] := hD
          refine lv_iconst (v := nI 1) hx hb dX1_takes_43 (by decide) ?_
          have hP9 : va_P E.1 vwCl [(p0, .inr (1, [.ref pC, .int L, .ref pN, .int (nI (kpC nc)), .int (-1)])), (pN, aI E 80 (kpF nc nm f))] _ := hP.sub [0, 1] rfl
          have hD9 : va_D A [(p0, .inr (1, [.ref pC, .int L, .ref pN, .int (nI (kpC nc)), .int (-1)])), (pN, aI E 80 (kpF nc nm f))] := hD.sub [0, 1] (by decide) rfl
          have hW9 : ([(p0, .inr (1, [.ref pC, .int L, .ref pN, .int (nI (kpC nc)), .int (-1)])), (pN, aI E 80 (kpF nc nm f))] : va_W) = [(p0, .inr (1, [.ref pC, .int L, .ref pN, .int (nI ((tk nm nc f ch).2.2.1)), .int ((tk nm nc f ch).2.1)])), (pN, aI E 80 ((tk nm nc f ch).2.2.2))] := by first | rw [tk_d zc3 zc9] | rw [tk_n1 zc3 zc26] | rw [tk_n2 zc9 zc26] | rw [tk_n3 zc3 zc34] | rw [tk_n4 zc9 zc34] | rw [tk_y1 zc3 zc26 zc34] | rw [tk_y2 zc9 zc26 zc34]
          rw [hW9] at hP9 hD9
          exact ret_z hQ hx hb hr hlocks hP9 hD9 hS dX1_takes_44 (nz_1) (by first | rw [tk_d zc3 zc9] | (rw [tk_n1 zc3 zc26]; rfl) | (rw [tk_n2 zc9 zc26]; rfl) | (rw [tk_n3 zc3 zc34]; rfl) | (rw [tk_n4 zc9 zc34]; rfl) | (rw [tk_y1 zc3 zc26 zc34]; rfl) | (rw [tk_y2 zc9 zc26 zc34]; rfl))
        · refine lv_iconst (v := nI 0) hx hb dX1_takes_37 (by decide) ?_
          have hP9 : va_P E.1 vwCl [(p0, .inr (1, [.ref pC, .int L, .ref pN, .int (nI nc), .int nm])), (pN, aI E 80 f)] _ := hP.sub [1, 0] rfl
          have hD9 : va_D A [(p0, .inr (1, [.ref pC, .int L, .ref pN, .int (nI nc), .int nm])), (pN, aI E 80 f)] := hD.sub [1, 0] (by decide) rfl
          have hW9 : ([(p0, .inr (1, [.ref pC, .int L, .ref pN, .int (nI nc), .int nm])), (pN, aI E 80 f)] : va_W) = [(p0, .inr (1, [.ref pC, .int L, .ref pN, .int (nI ((tk nm nc f ch).2.2.1)), .int ((tk nm nc f ch).2.1)])), (pN, aI E 80 ((tk nm nc f ch).2.2.2))] := by first | rw [tk_d zc3 zc9] | rw [tk_n1 zc3 zc26] | rw [tk_n2 zc9 zc26] | rw [tk_n3 zc3 zc34] | rw [tk_n4 zc9 zc34] | rw [tk_y1 zc3 zc26 zc34] | rw [tk_y2 zc9 zc26 zc34]
          rw [hW9] at hP9 hD9
          exact ret_z hQ hx hb hr hlocks hP9 hD9 hS dX1_takes_38 (nz_0) (by first | rw [tk_d zc3 zc9] | (rw [tk_n1 zc3 zc26]; rfl) | (rw [tk_n2 zc9 zc26]; rfl) | (rw [tk_n3 zc3 zc34]; rfl) | (rw [tk_n4 zc9 zc34]; rfl) | (rw [tk_y1 zc3 zc26 zc34]; rfl) | (rw [tk_y2 zc9 zc26 zc34]; rfl))
    · refine lv_aload_n hx hb dX1_takes_12 rfl (lv_at hl 0 rfl) ?_
      refine lv_iload_n hx hb dX1_takes_13 rfl (lv_at hl 1 rfl) ?_
      refine lv_bipush (v := nI 48) hx hb dX1_takes_14 (by decide) ?_
      refine lv_isub hx hb dX1_takes_16 ?_
      refine kV_i (E := E) (As := [.int (ch - (nI 48))]) (rest := []) (wr := [(pN, aI E 80 f)]) ⟨hx, hb, hml, hown, hts⟩ (c_X1_takesDigit (l := l) (E := E) (sz := _) (p0 := p0) (pC := pC) (pN := pN) (L := L) (nm := nm) (nc := nc) (d := ch - (nI 48)) (gc := by first | assumption | omega)) (cwV 1 hts gX1_takes_X1_takesDigit rfl rfl rfl (by decide +kernel) ⟨by rw [hR]; decide, by rw [hR]; decide⟩) hK hN hP hD hS hA [0] [1] rfl (by decide) rfl (by decide) (by decide) 0 1 rfl rfl rfl hl.1 rfl (Nat.le_of_ble_eq_true rfl) dX1_takes_17 ⟨Nat.zero_le _, Nat.zero_le _⟩ (fun H locs hP hD hS => ?_)
      have hP : va_P E.1 vwCl [(pN, aI E 80 f), (p0, .inr (1, [.ref pC, .int L, .ref pN, .int (nI nc), .int (tdM nm nc (ch - (nI 48)))]))] H := hP
      have hD : va_D A [(pN, aI E 80 f), (p0, .inr (1, [.ref pC, .int L, .ref pN, .int (nI nc), .int (tdM nm nc (ch - (nI 48)))]))] := hD
      have hP9 : va_P E.1 vwCl [(p0, .inr (1, [.ref pC, .int L, .ref pN, .int (nI nc), .int (tdM nm nc (ch - (nI 48)))])), (pN, aI E 80 f)] _ := hP.sub [1, 0] rfl
      have hD9 : va_D A [(p0, .inr (1, [.ref pC, .int L, .ref pN, .int (nI nc), .int (tdM nm nc (ch - (nI 48)))])), (pN, aI E 80 f)] := hD.sub [1, 0] (by decide) rfl
      have hW9 : ([(p0, .inr (1, [.ref pC, .int L, .ref pN, .int (nI nc), .int (tdM nm nc (ch - (nI 48)))])), (pN, aI E 80 f)] : va_W) = [(p0, .inr (1, [.ref pC, .int L, .ref pN, .int (nI ((tk nm nc f ch).2.2.1)), .int ((tk nm nc f ch).2.1)])), (pN, aI E 80 ((tk nm nc f ch).2.2.2))] := by first | rw [tk_d zc3 zc9] | rw [tk_n1 zc3 zc26] | rw [tk_n2 zc9 zc26] | rw [tk_n3 zc3 zc34] | rw [tk_n4 zc9 zc34] | rw [tk_y1 zc3 zc26 zc34] | rw [tk_y2 zc9 zc26 zc34]
      rw [hW9] at hP9 hD9
      exact ret_z hQ hx hb hr hlocks hP9 hD9 hS dX1_takes_20 (b2i_nz _) (by first | rw [tk_d zc3 zc9] | (rw [tk_n1 zc3 zc26]; rfl) | (rw [tk_n2 zc9 zc26]; rfl) | (rw [tk_n3 zc3 zc34]; rfl) | (rw [tk_n4 zc9 zc34]; rfl) | (rw [tk_y1 zc3 zc26 zc34]; rfl) | (rw [tk_y2 zc9 zc26 zc34]; rfl))
theorem iw_X1_parse_1 : ∀ w ∈ u_ws RX1 TX1 5, w ∈ wsX1_parse := by decide +kernel
theorem fl_X1_parse_23 : Cond.fieldLink RX1 23 (TX1 3).1 (TX1 3).2.1 (TX1 3).2.2.1 ∈ wsX1_parse := by decide +kernel
theorem fl_X1_parse_26 : Cond.fieldLink RX1 26 (TX1 4).1 (TX1 4).2.1 (TX1 4).2.2.1 ∈ wsX1_parse := by decide +kernel
theorem fl_X1_parse_15 : Cond.fieldLink RX1 15 (TX1 1).1 (TX1 1).2.1 (TX1 1).2.2.1 ∈ wsX1_parse := by decide +kernel
theorem fl_X1_parse_9 : Cond.fieldLink RX1 9 (TX1 0).1 (TX1 0).2.1 (TX1 0).2.2.1 ∈ wsX1_parse := by decide +kernel
set_option maxHeartbeats 400000 in
set_option maxRecDepth 100000 in
theorem c_X1_parse (l : Launch) (E : EE) (sz : Nat) (p0 pC pN : Nat) (L : Nat) (c0 m0 : Int32) (cf f0 : Nat → Int32) (gL : L ≤ 80) : Ci l yX1_parse wsX1_parse 3 63 E [.ref p0] [(p0, .inr (1, [.ref pC, .int (nI L), .ref pN, .int c0, .int m0])), (pC, aC E 80 cf), (pN, aI E 80 f0)] sz ((pGo cf (-1) 0 f0 0 L).1) [(p0, .inr (1, [.ref pC, .int (nI L), .ref pN, .int (nI ((pGo cf (-1) 0 f0 0 L).2.2.1)), .int ((pGo cf (-1) 0 f0 0 L).2.1)])), (pC, aC E 80 cf), (pN, aI E 80 ((pGo cf (-1) 0 f0 0 L).2.2.2))] := by
  refine C_of (QQ := QI E ((pGo cf (-1) 0 f0 0 L).1) [(p0, .inr (1, [.ref pC, .int (nI L), .ref pN, .int (nI ((pGo cf (-1) 0 f0 0 L).2.2.1)), .int ((pGo cf (-1) 0 f0 0 L).2.1)])), (pC, aC E 80 cf), (pN, aI E 80 ((pGo cf (-1) 0 f0 0 L).2.2.2))]) (cc := cX1_parse) (maxL := 2) (ret := (some .int)) (by decide +kernel) rfl (Nat.le_of_ble_eq_true rfl) ?_
  intro p e s m args below meth c A R Q ls hx hb hr hts hown hml hlocks hA hK hN hP hD hS hl hR hQ
  have hown : s.vm.findClass RX1 = some m.cls := hown
  have hl : lv_has ls 2 [(0, .ref p0)] := hl
  refine lv_aload_n hx hb dX1_parse_0 rfl (lv_at hl 0 rfl) ?_
  refine lv_iconst (v := nI 0) hx hb dX1_parse_1 (by decide) ?_
  refine rk_put (ci := 1) (C := RX1) (T := TX1) (N := 5) hx hb hts iw_X1_parse_1 tyX1 tyX1_ok nmX1 hown hK hP hD hS 0 rfl rfl 3 (by decide) fl_X1_parse_23 rfl rfl (tyX1_ok 3 (by decide)) rfl rfl (Nat.le_of_ble_eq_true rfl) (ws' := [(p0, .inr (1, [.ref pC, .int (nI L), .ref pN, .int (nI 0), .int m0])), (pC, aC E 80 cf), (pN, aI E 80 f0)]) rfl dX1_parse_2 (fun H locs hP hD hS => ?_)
  refine lv_aload_n hx hb dX1_parse_5 rfl (lv_at hl 0 rfl) ?_
  refine lv_iconst (v := (-1)) hx hb dX1_parse_6 (by decide) ?_
  refine rk_put (ci := 1) (C := RX1) (T := TX1) (N := 5) hx hb hts iw_X1_parse_1 tyX1 tyX1_ok nmX1 hown hK hP hD hS 0 rfl rfl 4 (by decide) fl_X1_parse_26 rfl rfl (tyX1_ok 4 (by decide)) rfl rfl (Nat.le_of_ble_eq_true rfl) (ws' := [(p0, .inr (1, [.ref pC, .int (nI L), .ref pN, .int (nI 0), .int ((-1))])), (pC, aC E 80 cf), (pN, aI E 80 f0)]) rfl dX1_parse_7 (fun H locs hP hD hS => ?_)
  refine lv_iconst (v := nI 0) hx hb dX1_parse_10 (by decide) ?_
  refine lv_istore_n (lv' := [(1, .int (nI 0)), (0, .ref p0)]) hx hb dX1_parse_11 rfl hl (by decide) rfl (fun ls hl => ?_)
  have L12 : ∀ (fu : Nat) (i nc : Nat) (nm : Int32) (f : Nat → Int32), (he : (pGo cf (-1) 0 f0 0 L) = pGo cf nm nc f i (L - i)) → (gi : i ≤ L) → (gc : nc ≤ 80) → L - i < fu → ∀ (H : Heap) (locs : List Loc), va_P E.1 vwCl [(p0, .inr (1, [.ref pC, .int (nI L), .ref pN, .int (nI nc), .int nm])), (pC, aC E 80 cf), (pN, aI E 80 f)] H → va_D A [(p0, .inr (1, [.ref pC, .int (nI L), .ref pN, .int (nI nc), .int nm])), (pC, aC E 80 cf), (pN, aI E 80 f)] → va_S A s.heap H locs → ∀ (ls : Array Slot), lv_has ls 2 [(1, .int (nI i)), (0, .ref p0)] → W p l e R s m args below meth c H locs 0 0 Q (F0 m 12 ls []) := by
    intro fu
    induction fu with
    | zero => intro i nc nm f he gi gc hfu; exact absurd hfu (Nat.not_lt_zero _)
    | succ fu ih12 =>
      intro i nc nm f he gi gc hfu H locs hP hD hS ls hl
      refine lv_iload_n hx hb dX1_parse_12 rfl (lv_at hl 0 rfl) ?_
      refine lv_aload_n hx hb dX1_parse_13 rfl (lv_at hl 1 rfl) ?_
      refine rk_get (ci := 1) (C := RX1) (T := TX1) (N := 5) hx hb hts iw_X1_parse_1 hown hK hP 0 rfl rfl 1 (by decide) fl_X1_parse_15 rfl (v := .int (nI L)) rfl dX1_parse_14 ?_
      refine rk_geN (tgt := 41) hx hb (by omega) (by omega) dX1_parse_17 (by decide) (fun zc17 => ?_) (fun zc17 => ?_)
      · refine lv_aload_n hx hb dX1_parse_41 rfl (lv_at hl 1 rfl) ?_
        refine kV_i (E := E) (As := []) (rest := []) (wr := [(pC, aC E 80 cf), (pN, aI E 80 f)]) ⟨hx, hb, hml, hown, hts⟩ (c_X1_atLength (l := l) (E := E) (sz := _) (p0 := p0) (pC := pC) (pN := pN) (L := nI L) (nm := nm) (nc := nc) (gc := by first | assumption | omega)) (cwV 0 hts gX1_parse_X1_atLength rfl rfl rfl (by decide +kernel) ⟨by rw [hR]; decide, by rw [hR]; decide⟩) hK hN hP hD hS hA [0] [1, 2] rfl (by decide) rfl (by decide) (by decide) 0 1 rfl rfl rfl hl.1 rfl (Nat.le_of_ble_eq_true rfl) dX1_parse_42 ⟨Nat.zero_le _, Nat.zero_le _⟩ (fun H locs hP hD hS => ?_)
        have hP : va_P E.1 vwCl [(pC, aC E 80 cf), (pN, aI E 80 f), (p0, .inr (1, [.ref pC, .int (nI L), .ref pN, .int (nI nc), .int nm]))] H := hP
        have hD : va_D A [(pC, aC E 80 cf), (pN, aI E 80 f), (p0, .inr (1, [.ref pC, .int (nI L), .ref pN, .int (nI nc), .int nm]))] := hD
        refine rk_if_eqB (tgt := 56) hx hb dX1_parse_45 (by decide) (fun zc45 => ?_) (fun zc45 => ?_)
        · refine lv_aload_n hx hb dX1_parse_56 rfl (lv_at hl 1 rfl) ?_
          refine rk_get (ci := 1) (C := RX1) (T := TX1) (N := 5) hx hb hts iw_X1_parse_1 hown hK hP 2 rfl rfl 1 (by decide) fl_X1_parse_15 rfl (v := .int (nI L)) rfl dX1_parse_57 ?_
          have hP9 : va_P E.1 vwCl [(p0, .inr (1, [.ref pC, .int (nI L), .ref pN, .int (nI nc), .int nm])), (pC, aC E 80 cf), (pN, aI E 80 f)] _ := hP.sub [2, 0, 1] rfl
          have hD9 : va_D A [(p0, .inr (1, [.ref pC, .int (nI L), .ref pN, .int (nI nc), .int nm])), (pC, aC E 80 cf), (pN, aI E 80 f)] := hD.sub [2, 0, 1] (by decide) rfl
          have hW9 : ([(p0, .inr (1, [.ref pC, .int (nI L), .ref pN, .int (nI nc), .int nm])), (pC, aC E 80 cf), (pN, aI E 80 f)] : va_W) = [(p0, .inr (1, [.ref pC, .int (nI L), .ref pN, .int (nI ((pGo cf (-1) 0 f0 0 L).2.2.1)), .int ((pGo cf (-1) 0 f0 0 L).2.1)])), (pC, aC E 80 cf), (pN, aI E 80 ((pGo cf (-1) 0 f0 0 L).2.2.2))] := by rw [he]; first | rw [pGo_end1 (by omega) (Or.inl zc45)] | rw [pGo_end1 (by omega) (Or.inr zc53)]
          rw [hW9] at hP9 hD9
          exact ret_i hQ hx hb hr hlocks hP9 hD9 hS dX1_parse_60 (by rw [he]; first | rw [pGo_end1 (by omega) (Or.inl zc45), show i = L by omega] | rw [pGo_end1 (by omega) (Or.inr zc53), show i = L by omega])
        · refine lv_aload_n hx hb dX1_parse_48 rfl (lv_at hl 1 rfl) ?_
          refine rk_get (ci := 1) (C := RX1) (T := TX1) (N := 5) hx hb hts iw_X1_parse_1 hown hK hP 2 rfl rfl 4 (by decide) fl_X1_parse_26 rfl (v := .int nm) rfl dX1_parse_49 ?_
          refine lv_iconst (v := (-1)) hx hb dX1_parse_52 (by decide) ?_
          refine lv_icmp_ne (tgt := 61) hx hb dX1_parse_53 (by decide) (fun zc53 => ?_) (fun zc53 => ?_)
          · refine lv_aload_n hx hb dX1_parse_61 rfl (lv_at hl 1 rfl) ?_
            refine kV_v (E := E) (As := []) (rest := []) (wr := [(pC, aC E 80 cf)]) ⟨hx, hb, hml, hown, hts⟩ (c_X1_keepNumber (l := l) (E := E) (sz := _) (p0 := p0) (pC := pC) (pN := pN) (L := nI L) (nm := nm) (nc := nc) (f := f) (gc := by first | assumption | omega)) (cwV 0 hts gX1_parse_X1_keepNumber rfl rfl rfl (by decide +kernel) ⟨by rw [hR]; decide, by rw [hR]; decide⟩) hK hN hP hD hS hA [2, 1] [0] rfl (by decide) rfl (by decide) (by decide) 2 1 rfl rfl rfl hl.1 rfl (Nat.le_of_ble_eq_true rfl) dX1_parse_62 ⟨Nat.zero_le _, Nat.zero_le _⟩ (fun H locs hP hD hS => ?_)
            have hP : va_P E.1 vwCl [(pC, aC E 80 cf), (p0, .inr (1, [.ref pC, .int (nI L), .ref pN, .int (nI (kpC nc)), .int (-1)])), (pN, aI E 80 (kpF nc nm f))] H := hP
            have hD : va_D A [(pC, aC E 80 cf), (p0, .inr (1, [.ref pC, .int (nI L), .ref pN, .int (nI (kpC nc)), .int (-1)])), (pN, aI E 80 (kpF nc nm f))] := hD
            refine lv_bipush (v := (-6)) hx hb dX1_parse_65 (by decide) ?_
            have hP9 : va_P E.1 vwCl [(p0, .inr (1, [.ref pC, .int (nI L), .ref pN, .int (nI (kpC nc)), .int (-1)])), (pC, aC E 80 cf), (pN, aI E 80 (kpF nc nm f))] _ := hP.sub [1, 0, 2] rfl
            have hD9 : va_D A [(p0, .inr (1, [.ref pC, .int (nI L), .ref pN, .int (nI (kpC nc)), .int (-1)])), (pC, aC E 80 cf), (pN, aI E 80 (kpF nc nm f))] := hD.sub [1, 0, 2] (by decide) rfl
            have hW9 : ([(p0, .inr (1, [.ref pC, .int (nI L), .ref pN, .int (nI (kpC nc)), .int (-1)])), (pC, aC E 80 cf), (pN, aI E 80 (kpF nc nm f))] : va_W) = [(p0, .inr (1, [.ref pC, .int (nI L), .ref pN, .int (nI ((pGo cf (-1) 0 f0 0 L).2.2.1)), .int ((pGo cf (-1) 0 f0 0 L).2.1)])), (pC, aC E 80 cf), (pN, aI E 80 ((pGo cf (-1) 0 f0 0 L).2.2.2))] := by rw [he, pGo_end2 (by omega) zc45 zc53]
            rw [hW9] at hP9 hD9
            exact ret_i hQ hx hb hr hlocks hP9 hD9 hS dX1_parse_67 (by rw [he, pGo_end2 (by omega) zc45 zc53])
          · refine lv_aload_n hx hb dX1_parse_56 rfl (lv_at hl 1 rfl) ?_
            refine rk_get (ci := 1) (C := RX1) (T := TX1) (N := 5) hx hb hts iw_X1_parse_1 hown hK hP 2 rfl rfl 1 (by decide) fl_X1_parse_15 rfl (v := .int (nI L)) rfl dX1_parse_57 ?_
            have hP9 : va_P E.1 vwCl [(p0, .inr (1, [.ref pC, .int (nI L), .ref pN, .int (nI nc), .int nm])), (pC, aC E 80 cf), (pN, aI E 80 f)] _ := hP.sub [2, 0, 1] rfl
            have hD9 : va_D A [(p0, .inr (1, [.ref pC, .int (nI L), .ref pN, .int (nI nc), .int nm])), (pC, aC E 80 cf), (pN, aI E 80 f)] := hD.sub [2, 0, 1] (by decide) rfl
            have hW9 : ([(p0, .inr (1, [.ref pC, .int (nI L), .ref pN, .int (nI nc), .int nm])), (pC, aC E 80 cf), (pN, aI E 80 f)] : va_W) = [(p0, .inr (1, [.ref pC, .int (nI L), .ref pN, .int (nI ((pGo cf (-1) 0 f0 0 L).2.2.1)), .int ((pGo cf (-1) 0 f0 0 L).2.1)])), (pC, aC E 80 cf), (pN, aI E 80 ((pGo cf (-1) 0 f0 0 L).2.2.2))] := by rw [he]; first | rw [pGo_end1 (by omega) (Or.inl zc45)] | rw [pGo_end1 (by omega) (Or.inr zc53)]
            rw [hW9] at hP9 hD9
            exact ret_i hQ hx hb hr hlocks hP9 hD9 hS dX1_parse_60 (by rw [he]; first | rw [pGo_end1 (by omega) (Or.inl zc45), show i = L by omega] | rw [pGo_end1 (by omega) (Or.inr zc53), show i = L by omega])
      · refine lv_aload_n hx hb dX1_parse_20 rfl (lv_at hl 1 rfl) ?_
        refine lv_aload_n hx hb dX1_parse_21 rfl (lv_at hl 1 rfl) ?_
        refine rk_get (ci := 1) (C := RX1) (T := TX1) (N := 5) hx hb hts iw_X1_parse_1 hown hK hP 0 rfl rfl 0 (by decide) fl_X1_parse_9 rfl (v := .ref pC) rfl dX1_parse_22 ?_
        refine lv_iload_n hx hb dX1_parse_25 rfl (lv_at hl 0 rfl) ?_
        refine rk_cald hx hb hK hP 1 rfl (by omega) (by omega) (v := cf i) (rfl) dX1_parse_26 ?_
        refine kV_i (E := E) (As := [.int (cf i)]) (rest := []) (wr := [(pC, aC E 80 cf)]) ⟨hx, hb, hml, hown, hts⟩ (c_X1_takes (l := l) (E := E) (sz := _) (p0 := p0) (pC := pC) (pN := pN) (L := nI L) (nm := nm) (nc := nc) (f := f) (ch := cf i) (gc := by first | assumption | omega)) (cwV 1 hts gX1_parse_X1_takes rfl rfl rfl (by decide +kernel) ⟨by rw [hR]; decide, by rw [hR]; decide⟩) hK hN hP hD hS hA [0, 2] [1] rfl (by decide) rfl (by decide) (by decide) 0 1 rfl rfl rfl hl.1 rfl (Nat.le_of_ble_eq_true rfl) dX1_parse_27 ⟨Nat.zero_le _, Nat.zero_le _⟩ (fun H locs hP hD hS => ?_)
        have hP : va_P E.1 vwCl [(pC, aC E 80 cf), (p0, .inr (1, [.ref pC, .int (nI L), .ref pN, .int (nI ((tk nm nc f (cf i)).2.2.1)), .int ((tk nm nc f (cf i)).2.1)])), (pN, aI E 80 ((tk nm nc f (cf i)).2.2.2))] H := hP
        have hD : va_D A [(pC, aC E 80 cf), (p0, .inr (1, [.ref pC, .int (nI L), .ref pN, .int (nI ((tk nm nc f (cf i)).2.2.1)), .int ((tk nm nc f (cf i)).2.1)])), (pN, aI E 80 ((tk nm nc f (cf i)).2.2.2))] := hD
        refine rk_if_neB (tgt := 35) hx hb dX1_parse_30 (by decide) (fun zc30 => ?_) (fun zc30 => ?_)
        · refine lv_iinc (v := nI (i + 1)) (lv' := [(1, .int (nI (i + 1))), (0, .ref p0)]) hx hb dX1_parse_35 hl (k := 0) rfl (by rw [show Int32.ofInt 1 = nI 1 by decide]; exact nI_add _ _) (by decide) rfl (fun ls hl => ?_)
          refine lv_goto (tgt := 12) hx hb dX1_parse_38 (by decide) ?_
          exact ih12 (i + 1) ((tk nm nc f (cf i)).2.2.1) ((tk nm nc f (cf i)).2.1) ((tk nm nc f (cf i)).2.2.2) (by rw [he]; exact pGo_miss (by omega) zc30) (by first | assumption | omega | rfl) (by exact tk_le gc) (by omega) _ _ (hP.sub [1, 0, 2] rfl) (hD.sub [1, 0, 2] (by decide) rfl) hS ls (lv_sub hl [0, 1] rfl)
        · refine lv_iload_n hx hb dX1_parse_33 rfl (lv_at hl 0 rfl) ?_
          have hP9 : va_P E.1 vwCl [(p0, .inr (1, [.ref pC, .int (nI L), .ref pN, .int (nI ((tk nm nc f (cf i)).2.2.1)), .int ((tk nm nc f (cf i)).2.1)])), (pC, aC E 80 cf), (pN, aI E 80 ((tk nm nc f (cf i)).2.2.2))] _ := hP.sub [1, 0, 2] rfl
          have hD9 : va_D A [(p0, .inr (1, [.ref pC, .int (nI L), .ref pN, .int (nI ((tk nm nc f (cf i)).2.2.1)), .int ((tk nm nc f (cf i)).2.1)])), (pC, aC E 80 cf), (pN, aI E 80 ((tk nm nc f (cf i)).2.2.2))] := hD.sub [1, 0, 2] (by decide) rfl
          have hW9 : ([(p0, .inr (1, [.ref pC, .int (nI L), .ref pN, .int (nI ((tk nm nc f (cf i)).2.2.1)), .int ((tk nm nc f (cf i)).2.1)])), (pC, aC E 80 cf), (pN, aI E 80 ((tk nm nc f (cf i)).2.2.2))] : va_W) = [(p0, .inr (1, [.ref pC, .int (nI L), .ref pN, .int (nI ((pGo cf (-1) 0 f0 0 L).2.2.1)), .int ((pGo cf (-1) 0 f0 0 L).2.1)])), (pC, aC E 80 cf), (pN, aI E 80 ((pGo cf (-1) 0 f0 0 L).2.2.2))] := by rw [he, pGo_hit (by omega) zc30]
          rw [hW9] at hP9 hD9
          exact ret_i hQ hx hb hr hlocks hP9 hD9 hS dX1_parse_34 (by rw [he, pGo_hit (by omega) zc30])
  exact L12 ((L - 0) + 1) 0 0 ((-1)) f0 (rfl) (by first | assumption | omega | rfl) (by first | assumption | omega | rfl) (Nat.lt_succ_self _) _ _ (hP.sub [0, 1, 2] rfl) (hD.sub [0, 1, 2] (by decide) rfl) hS ls (lv_sub hl [0, 1] rfl)
theorem iw_X1_append_1 : ∀ w ∈ u_ws RX1 TX1 5, w ∈ wsX1_append := by decide +kernel
theorem fl_X1_append_15 : Cond.fieldLink RX1 15 (TX1 1).1 (TX1 1).2.1 (TX1 1).2.2.1 ∈ wsX1_append := by decide +kernel
theorem fl_X1_append_9 : Cond.fieldLink RX1 9 (TX1 0).1 (TX1 0).2.1 (TX1 0).2.2.1 ∈ wsX1_append := by decide +kernel
theorem cl29_X1_append : Cond.constantLong RX1 29 (255) ∈ wsX1_append := by decide +kernel
set_option maxHeartbeats 400000 in
set_option maxRecDepth 100000 in
theorem c_X1_append (l : Launch) (E : EE) (sz : Nat) (p0 pC pN : Nat) (L w : Nat) (nc nm : Int32) (x : Int64) (cf : Nat → Int32) (gw1 : 1 ≤ w) (gw : w ≤ 8) (gL : L + w ≤ 80) : Cv l yX1_append wsX1_append 0 0 E [.ref p0, .long x, .int (nI w)] [(p0, .inr (1, [.ref pC, .int (nI L), .ref pN, .int nc, .int nm])), (pC, aC E 80 cf)] sz [(p0, .inr (1, [.ref pC, .int (nI (L + w)), .ref pN, .int nc, .int nm])), (pC, aC E 80 (apF cf L x w w))] := by
  refine C_of (QQ := QV E [(p0, .inr (1, [.ref pC, .int (nI (L + w)), .ref pN, .int nc, .int nm])), (pC, aC E 80 (apF cf L x w w))]) (cc := cX1_append) (maxL := 5) (ret := none) (by decide +kernel) rfl (Nat.le_of_ble_eq_true rfl) ?_
  intro p e s m args below meth c A R Q ls hx hb hr hts hown hml hlocks hA hK hN hP hD hS hl hR hQ
  have hown : s.vm.findClass RX1 = some m.cls := hown
  have hl : lv_has ls 5 [(0, .ref p0), (1, .long x), (3, .int (nI w))] := hl
  refine lv_iload_n hx hb dX1_append_0 rfl (lv_at hl 2 rfl) ?_
  refine lv_iconst (v := nI 1) hx hb dX1_append_1 (by decide) ?_
  refine rk_isubN hx hb (by omega) dX1_append_2 ?_
  refine lv_istore (lv' := [(4, .int (nI (w - 1))), (0, .ref p0), (1, .long x), (3, .int (nI w))]) hx hb dX1_append_3 hl (by decide) rfl (fun ls hl => ?_)
  have L5 : ∀ (fu : Nat) (t L2 : Nat) (lf : Int32) (f : Nat → Int32), (el : lf = nI t - 1) → (eL : L2 = L + (w - t)) → (gt : t ≤ w) → (ef : f = apF cf L x w (w - t)) → t < fu → ∀ (H : Heap) (locs : List Loc), va_P E.1 vwCl [(p0, .inr (1, [.ref pC, .int (nI L2), .ref pN, .int nc, .int nm])), (pC, aC E 80 f)] H → va_D A [(p0, .inr (1, [.ref pC, .int (nI L2), .ref pN, .int nc, .int nm])), (pC, aC E 80 f)] → va_S A s.heap H locs → ∀ (ls : Array Slot), lv_has ls 5 [(4, .int lf), (0, .ref p0), (1, .long x), (3, .int (nI w))] → W p l e R s m args below meth c H locs 0 0 Q (F0 m 5 ls []) := by
    intro fu
    induction fu with
    | zero => intro t L2 lf f el eL gt ef hfu; exact absurd hfu (Nat.not_lt_zero _)
    | succ fu ih5 =>
      intro t L2 lf f el eL gt ef hfu H locs hP hD hS ls hl
      rcases t with _ | t
      · subst el
        rw [show nI 0 - 1 = (-1 : Int32) by decide] at hl
        refine lv_iload hx hb dX1_append_5 (lv_at hl 0 rfl) ?_
        refine lv_if_lt (tgt := 57) hx hb dX1_append_7 (by decide) (fun _ => ?_) (fun q => absurd q (by decide))
        have hP9 : va_P E.1 vwCl [(p0, .inr (1, [.ref pC, .int (nI L2), .ref pN, .int nc, .int nm])), (pC, aC E 80 f)] _ := hP.sub [0, 1] rfl
        have hD9 : va_D A [(p0, .inr (1, [.ref pC, .int (nI L2), .ref pN, .int nc, .int nm])), (pC, aC E 80 f)] := hD.sub [0, 1] (by decide) rfl
        have hW9 : ([(p0, .inr (1, [.ref pC, .int (nI L2), .ref pN, .int nc, .int nm])), (pC, aC E 80 f)] : va_W) = [(p0, .inr (1, [.ref pC, .int (nI (L + w)), .ref pN, .int nc, .int nm])), (pC, aC E 80 (apF cf L x w w))] := by subst ef; rw [eL]; rfl
        rw [hW9] at hP9 hD9
        exact ret_v hQ hx hb hr hlocks hP9 hD9 hS dX1_append_57
      · subst el
        rw [nI_pred] at hl
        refine lv_iload hx hb dX1_append_5 (lv_at hl 0 rfl) ?_
        refine rk_if_ltN (tgt := 57) hx hb (by omega) dX1_append_7 (by decide) ?_
        refine lv_aload_n hx hb dX1_append_10 rfl (lv_at hl 1 rfl) ?_
        refine rk_get (ci := 1) (C := RX1) (T := TX1) (N := 5) hx hb hts iw_X1_append_1 hown hK hP 0 rfl rfl 1 (by decide) fl_X1_append_15 rfl (v := .int (nI L2)) rfl dX1_append_11 ?_
        refine lv_bipush (v := nI 80) hx hb dX1_append_14 (by decide) ?_
        refine rk_geN (tgt := 57) hx hb (by omega) (by omega) dX1_append_16 (by decide) (fun q => absurd q (by omega)) (fun zc16 => ?_)
        refine lv_aload_n hx hb dX1_append_19 rfl (lv_at hl 1 rfl) ?_
        refine rk_get (ci := 1) (C := RX1) (T := TX1) (N := 5) hx hb hts iw_X1_append_1 hown hK hP 0 rfl rfl 0 (by decide) fl_X1_append_9 rfl (v := .ref pC) rfl dX1_append_20 ?_
        refine lv_aload_n hx hb dX1_append_23 rfl (lv_at hl 1 rfl) ?_
        refine rk_get (ci := 1) (C := RX1) (T := TX1) (N := 5) hx hb hts iw_X1_append_1 hown hK hP 0 rfl rfl 1 (by decide) fl_X1_append_15 rfl (v := .int (nI L2)) rfl dX1_append_24 ?_
        refine lv_lload_n hx hb dX1_append_27 rfl (lv_at hl 2 rfl) ?_
        refine lv_bipush (v := nI 8) hx hb dX1_append_28 (by decide) ?_
        refine lv_iload hx hb dX1_append_30 (lv_at hl 0 rfl) ?_
        refine rk_imulN hx hb dX1_append_32 ?_
        refine lv_lushr hx hb dX1_append_33 rfl ?_
        refine lv_ldc2 (v := 255) hx hb hown (hts _ cl29_X1_append) dX1_append_34 ?_
        refine lv_land hx hb dX1_append_37 ?_
        refine lv_l2i hx hb dX1_append_38 rfl ?_
        refine lv_i2c hx hb dX1_append_39 rfl ?_
        refine rk_cast hx hb hK hP hD hS 1 rfl (by omega) (by omega) (ws' := [(p0, .inr (1, [.ref pC, .int (nI L2), .ref pN, .int nc, .int nm])), (pC, aC E 80 (upd f L2 (vp_nar .char ((((((x.toUInt64 >>> ((nI (8 * t)).toInt64.toUInt64 &&& Int64.toUInt64 63)).toInt64) &&& ((255 : Int64))).toInt32).toUInt32 % 65536).toInt32))))]) rfl dX1_append_40 (fun H locs hP hD hS => ?_)
        refine lv_aload_n hx hb dX1_append_41 rfl (lv_at hl 1 rfl) ?_
        refine lv_dup hx hb dX1_append_42 rfl ?_
        refine rk_get (ci := 1) (C := RX1) (T := TX1) (N := 5) hx hb hts iw_X1_append_1 hown hK hP 0 rfl rfl 1 (by decide) fl_X1_append_15 rfl (v := .int (nI L2)) rfl dX1_append_43 ?_
        refine lv_iconst (v := nI 1) hx hb dX1_append_46 (by decide) ?_
        refine rk_iaddN hx hb dX1_append_47 ?_
        refine rk_put (ci := 1) (C := RX1) (T := TX1) (N := 5) hx hb hts iw_X1_append_1 tyX1 tyX1_ok nmX1 hown hK hP hD hS 0 rfl rfl 1 (by decide) fl_X1_append_15 rfl rfl (tyX1_ok 1 (by decide)) rfl rfl (Nat.le_of_ble_eq_true rfl) (ws' := [(p0, .inr (1, [.ref pC, .int (nI (L2 + 1)), .ref pN, .int nc, .int nm])), (pC, aC E 80 (upd f L2 (vp_nar .char ((((((x.toUInt64 >>> ((nI (8 * t)).toInt64.toUInt64 &&& Int64.toUInt64 63)).toInt64) &&& ((255 : Int64))).toInt32).toUInt32 % 65536).toInt32))))]) rfl dX1_append_48 (fun H locs hP hD hS => ?_)
        refine lv_iinc (v := (nI t) - 1) (lv' := [(4, .int ((nI t) - 1)), (0, .ref p0), (1, .long x), (3, .int (nI w))]) hx hb dX1_append_51 hl (k := 0) rfl (by rw [show Int32.ofInt (-1) = -1 by decide, Int32.sub_eq_add_neg]) (by decide) rfl (fun ls hl => ?_)
        refine lv_goto (tgt := 5) hx hb dX1_append_54 (by decide) ?_
        exact ih5 t (L2 + 1) ((nI t) - 1) (upd f L2 (vp_nar .char ((((((x.toUInt64 >>> ((nI (8 * t)).toInt64.toUInt64 &&& Int64.toUInt64 63)).toInt64) &&& ((255 : Int64))).toInt32).toUInt32 % 65536).toInt32))) (rfl) (by first | assumption | omega | rfl) (by first | assumption | omega | rfl) (by subst ef; rw [eL, show w - t = w - (t + 1) + 1 by omega]; simp only [apF]; rw [show w - 1 - (w - (t + 1)) = t by omega]; rfl) (by omega) _ _ (hP.sub [0, 1] rfl) (hD.sub [0, 1] (by decide) rfl) hS ls (lv_sub hl [0, 1, 2, 3] rfl)
  exact L5 ((w) + 1) w L (nI (w - 1)) cf (by have h := nI_pred (w - 1); rw [show w - 1 + 1 = w by omega] at h; exact h.symm) (by first | assumption | omega | rfl) (by first | assumption | omega | rfl) (by rw [Nat.sub_self]; rfl) (Nat.lt_succ_self _) _ _ (hP.sub [0, 1] rfl) (hD.sub [0, 1] (by decide) rfl) hS ls (lv_sub hl [0, 1, 2, 3] rfl)
