theorem iw_X5_isHere_5 : ∀ w ∈ u_ws RX5 TX5 13, w ∈ wsX5_isHere := by decide +kernel
theorem fl_X5_isHere_157 : Cond.fieldLink RX5 157 (TX5 9).1 (TX5 9).2.1 (TX5 9).2.2.1 ∈ wsX5_isHere := by decide +kernel
theorem fl_X5_isHere_141 : Cond.fieldLink RX5 141 (TX5 8).1 (TX5 8).2.1 (TX5 8).2.2.1 ∈ wsX5_isHere := by decide +kernel
theorem fl_X5_isHere_28 : Cond.fieldLink RX5 28 (TX5 7).1 (TX5 7).2.1 (TX5 7).2.2.1 ∈ wsX5_isHere := by decide +kernel
set_option maxHeartbeats 400000 in
set_option maxRecDepth 100000 in
theorem c_X5_isHere (l : Launch) (E : EE) (sz : Nat) (mo mA mK mH mS mV mF mP mR : Nat) (hy : Int32) (L sn rm : Nat) (nu : Int32) (P f : Nat → Int32) (x y : Int32) (gL : L ≤ 80) (gs : sn ≤ L) : Ci l yX5_isHere wsX5_isHere 1 25 E [.ref mo, .int x, .int y] [(mo, .inr (5, [.ref mA, .ref mK, .ref mH, .int hy, .ref mS, .ref mV, .ref mF, .ref mP, .int (nI L), .int (nI sn), .int nu, .ref mR, .int (nI rm)])), (mP, aI E 80 P)] sz (b2i (ihM P L sn x y)) [(mo, .inr (5, [.ref mA, .ref mK, .ref mH, .int hy, .ref mS, .ref mV, .ref mF, .ref mP, .int (nI L), .int (nI sn), .int nu, .ref mR, .int (nI rm)])), (mP, aI E 80 P)] := by
  refine C_of (QQ := QI E (b2i (ihM P L sn x y)) [(mo, .inr (5, [.ref mA, .ref mK, .ref mH, .int hy, .ref mS, .ref mV, .ref mF, .ref mP, .int (nI L), .int (nI sn), .int nu, .ref mR, .int (nI rm)])), (mP, aI E 80 P)]) (cc := cX5_isHere) (maxL := 3) (ret := (some .boolean)) (by decide +kernel) rfl (Nat.le_of_ble_eq_true rfl) ?_
  intro p e s m args below meth c A R Q ls hx hb hr hts hown hml hlocks hA hK hN hP hD hS hl hR hQ
  have hown : s.vm.findClass RX5 = some m.cls := hown
  have hl : lv_has ls 3 [(0, .ref mo), (1, .int x), (2, .int y)] := hl
  refine lv_aload_n hx hb dX5_isHere_0 rfl (lv_at hl 0 rfl) ?_
  refine rk_get (ci := 5) (C := RX5) (T := TX5) (N := 13) hx hb hts iw_X5_isHere_5 hown hK hP 0 rfl rfl 9 (by decide) fl_X5_isHere_157 rfl (v := .int (nI sn)) rfl dX5_isHere_1 ?_
  refine lv_aload_n hx hb dX5_isHere_4 rfl (lv_at hl 0 rfl) ?_
  refine rk_get (ci := 5) (C := RX5) (T := TX5) (N := 13) hx hb hts iw_X5_isHere_5 hown hK hP 0 rfl rfl 8 (by decide) fl_X5_isHere_141 rfl (v := .int (nI L)) rfl dX5_isHere_5 ?_
  refine rk_geN (tgt := 35) hx hb (by omega) (by omega) dX5_isHere_8 (by decide) (fun zc8 => ?_) (fun zc8 => ?_)
  · refine lv_iconst (v := nI 0) hx hb dX5_isHere_35 (by decide) ?_
    exact ret_z hQ hx hb hr hlocks (hP.sub [0, 1] rfl) (hD.sub [0, 1] (by decide) rfl) hS dX5_isHere_36 (nz_0) (by exact b2i_f (ihM_f1 zc8))
  · refine lv_aload_n hx hb dX5_isHere_11 rfl (lv_at hl 0 rfl) ?_
    refine rk_get (ci := 5) (C := RX5) (T := TX5) (N := 13) hx hb hts iw_X5_isHere_5 hown hK hP 0 rfl rfl 7 (by decide) fl_X5_isHere_28 rfl (v := .ref mP) rfl dX5_isHere_12 ?_
    refine lv_aload_n hx hb dX5_isHere_15 rfl (lv_at hl 0 rfl) ?_
    refine rk_get (ci := 5) (C := RX5) (T := TX5) (N := 13) hx hb hts iw_X5_isHere_5 hown hK hP 0 rfl rfl 9 (by decide) fl_X5_isHere_157 rfl (v := .int (nI sn)) rfl dX5_isHere_16 ?_
    refine rk_iald hx hb hK hP 1 rfl (by omega) (by omega) (v := P sn) (rfl) dX5_isHere_19 ?_
    refine lv_i2l hx hb dX5_isHere_20 rfl ?_
    refine lv_iload_n hx hb dX5_isHere_21 rfl (lv_at hl 1 rfl) ?_
    refine lv_i2l hx hb dX5_isHere_22 rfl ?_
    refine lv_iload_n hx hb dX5_isHere_23 rfl (lv_at hl 2 rfl) ?_
    refine lv_i2l hx hb dX5_isHere_24 rfl ?_
    refine kS_i (E := E) (As := [.long ((P sn).toInt64), .long x.toInt64, .long y.toInt64]) (rest := []) (wr := [(mo, .inr (5, [.ref mA, .ref mK, .ref mH, .int hy, .ref mS, .ref mV, .ref mF, .ref mP, .int (nI L), .int (nI sn), .int nu, .ref mR, .int (nI rm)])), (mP, aI E 80 P)]) ⟨hx, hb, hml, hown, hts⟩ (c_X5_in (l := l) (E := E) (sz := _) (v := (P sn).toInt64) (lo9 := x.toInt64) (hi9 := y.toInt64) ) (cwS 3 hts gX5_isHere_X5_in rfl rfl rfl (by decide +kernel) ⟨by rw [hR]; decide, by rw [hR]; decide⟩) hK hN hP hD hS hA [] [0, 1] rfl (by decide) rfl (by decide) (by decide) rfl hl.1 rfl (Nat.le_of_ble_eq_true rfl) dX5_isHere_25 ⟨Nat.zero_le _, Nat.zero_le _⟩ (fun H locs hP hD hS => ?_)
    have hP : va_P E.1 vwCl [(mo, .inr (5, [.ref mA, .ref mK, .ref mH, .int hy, .ref mS, .ref mV, .ref mF, .ref mP, .int (nI L), .int (nI sn), .int nu, .ref mR, .int (nI rm)])), (mP, aI E 80 P)] H := hP
    have hD : va_D A [(mo, .inr (5, [.ref mA, .ref mK, .ref mH, .int hy, .ref mS, .ref mV, .ref mF, .ref mP, .int (nI L), .int (nI sn), .int nu, .ref mR, .int (nI rm)])), (mP, aI E 80 P)] := hD
    refine rk_if_eqB (tgt := 35) hx hb dX5_isHere_28 (by decide) (fun zc28 => ?_) (fun zc28 => ?_)
    · refine lv_iconst (v := nI 0) hx hb dX5_isHere_35 (by decide) ?_
      exact ret_z hQ hx hb hr hlocks (hP.sub [0, 1] rfl) (hD.sub [0, 1] (by decide) rfl) hS dX5_isHere_36 (nz_0) (by exact b2i_f (ihM_f2 zc28))
    · refine lv_iconst (v := nI 1) hx hb dX5_isHere_31 (by decide) ?_
      refine lv_goto (tgt := 36) hx hb dX5_isHere_32 (by decide) ?_
      exact ret_z hQ hx hb hr hlocks (hP.sub [0, 1] rfl) (hD.sub [0, 1] (by decide) rfl) hS dX5_isHere_36 (nz_1) (by exact b2i_t (ihM_t zc8 zc28))
theorem iw_X5_takes_5 : ∀ w ∈ u_ws RX5 TX5 13, w ∈ wsX5_takes := by decide +kernel
theorem fl_X5_takes_157 : Cond.fieldLink RX5 157 (TX5 9).1 (TX5 9).2.1 (TX5 9).2.2.1 ∈ wsX5_takes := by decide +kernel
set_option maxHeartbeats 400000 in
set_option maxRecDepth 100000 in
theorem c_X5_takes_no (l : Launch) (E : EE) (sz : Nat) (mo mA mK mH mS mV mF mP mR : Nat) (hy : Int32) (L sn rm : Nat) (nu : Int32) (P f : Nat → Int32) (x : Int32) (gL : L ≤ 80) (gs : sn ≤ L) (gi : ihM P L sn x x = false) : Ci l yX5_takes wsX5_takes 2 47 E [.ref mo, .int x] [(mo, .inr (5, [.ref mA, .ref mK, .ref mH, .int hy, .ref mS, .ref mV, .ref mF, .ref mP, .int (nI L), .int (nI sn), .int nu, .ref mR, .int (nI rm)])), (mP, aI E 80 P)] sz (nI 0) [(mo, .inr (5, [.ref mA, .ref mK, .ref mH, .int hy, .ref mS, .ref mV, .ref mF, .ref mP, .int (nI L), .int (nI sn), .int nu, .ref mR, .int (nI rm)])), (mP, aI E 80 P)] := by
  refine C_of (QQ := QI E (nI 0) [(mo, .inr (5, [.ref mA, .ref mK, .ref mH, .int hy, .ref mS, .ref mV, .ref mF, .ref mP, .int (nI L), .int (nI sn), .int nu, .ref mR, .int (nI rm)])), (mP, aI E 80 P)]) (cc := cX5_takes) (maxL := 3) (ret := (some .boolean)) (by decide +kernel) rfl (Nat.le_of_ble_eq_true rfl) ?_
  intro p e s m args below meth c A R Q ls hx hb hr hts hown hml hlocks hA hK hN hP hD hS hl hR hQ
  have hown : s.vm.findClass RX5 = some m.cls := hown
  have hl : lv_has ls 3 [(0, .ref mo), (1, .int x)] := hl
  refine lv_aload_n hx hb dX5_takes_0 rfl (lv_at hl 0 rfl) ?_
  refine lv_iload_n hx hb dX5_takes_1 rfl (lv_at hl 1 rfl) ?_
  refine lv_iload_n hx hb dX5_takes_2 rfl (lv_at hl 1 rfl) ?_
  refine kV_i (E := E) (As := [.int x, .int x]) (rest := []) (wr := []) ⟨hx, hb, hml, hown, hts⟩ (c_X5_isHere (l := l) (E := E) (sz := _) (mo := mo) (mA := mA) (mK := mK) (mH := mH) (mS := mS) (mV := mV) (mF := mF) (mP := mP) (mR := mR) (hy := hy) (L := L) (sn := sn) (rm := rm) (nu := nu) (P := P) (f := f) (x := x) (y := x) (gL := by first | assumption | omega) (gs := by first | assumption | omega)) (cwV 2 hts gX5_takes_X5_isHere rfl rfl rfl (by decide +kernel) ⟨by rw [hR]; decide, by rw [hR]; decide⟩) hK hN hP hD hS hA [0, 1] [] rfl (by decide) rfl (by decide) (by decide) 0 5 rfl rfl rfl hl.1 rfl (Nat.le_of_ble_eq_true rfl) dX5_takes_3 ⟨Nat.zero_le _, Nat.zero_le _⟩ (fun H locs hP hD hS => ?_)
  have hP : va_P E.1 vwCl [(mo, .inr (5, [.ref mA, .ref mK, .ref mH, .int hy, .ref mS, .ref mV, .ref mF, .ref mP, .int (nI L), .int (nI sn), .int nu, .ref mR, .int (nI rm)])), (mP, aI E 80 P)] H := hP
  have hD : va_D A [(mo, .inr (5, [.ref mA, .ref mK, .ref mH, .int hy, .ref mS, .ref mV, .ref mF, .ref mP, .int (nI L), .int (nI sn), .int nu, .ref mR, .int (nI rm)])), (mP, aI E 80 P)] := hD
  refine lv_istore_n (lv' := [(2, .int (b2i (ihM P L sn x x))), (0, .ref mo), (1, .int x)]) hx hb dX5_takes_6 rfl hl (by decide) rfl (fun ls hl => ?_)
  refine lv_aload_n hx hb dX5_takes_7 rfl (lv_at hl 1 rfl) ?_
  refine lv_dup hx hb dX5_takes_8 rfl ?_
  refine rk_get (ci := 5) (C := RX5) (T := TX5) (N := 13) hx hb hts iw_X5_takes_5 hown hK hP 0 rfl rfl 9 (by decide) fl_X5_takes_157 rfl (v := .int (nI sn)) rfl dX5_takes_9 ?_
  refine lv_iload_n hx hb dX5_takes_12 rfl (lv_at hl 0 rfl) ?_
  refine rk_if_eqB (tgt := 20) hx hb dX5_takes_13 (by decide) (fun zc13 => ?_) (fun q => absurd q (by rw [gi]; decide))
  refine lv_iconst (v := nI 0) hx hb dX5_takes_20 (by decide) ?_
  refine rk_iaddN hx hb dX5_takes_21 ?_
  refine rk_put (ci := 5) (C := RX5) (T := TX5) (N := 13) hx hb hts iw_X5_takes_5 tyX5 tyX5_ok nmX5 hown hK hP hD hS 0 rfl rfl 9 (by decide) fl_X5_takes_157 rfl rfl (tyX5_ok 9 (by decide)) rfl rfl (Nat.le_of_ble_eq_true rfl) (ws' := [(mo, .inr (5, [.ref mA, .ref mK, .ref mH, .int hy, .ref mS, .ref mV, .ref mF, .ref mP, .int (nI L), .int (nI (sn + 0)), .int nu, .ref mR, .int (nI rm)])), (mP, aI E 80 P)]) rfl dX5_takes_22 (fun H locs hP hD hS => ?_)
  refine lv_iload_n hx hb dX5_takes_25 rfl (lv_at hl 0 rfl) ?_
  exact ret_z hQ hx hb hr hlocks (hP.sub [0, 1] rfl) (hD.sub [0, 1] (by decide) rfl) hS dX5_takes_26 (b2i_nz _) (by rw [gi]; rfl)
set_option maxHeartbeats 400000 in
set_option maxRecDepth 100000 in
theorem c_X5_takes_yes (l : Launch) (E : EE) (sz : Nat) (mo mA mK mH mS mV mF mP mR : Nat) (hy : Int32) (L sn rm : Nat) (nu : Int32) (P f : Nat → Int32) (x : Int32) (gL : L ≤ 80) (gs : sn ≤ L) (gi : ihM P L sn x x = true) : Ci l yX5_takes wsX5_takes 2 47 E [.ref mo, .int x] [(mo, .inr (5, [.ref mA, .ref mK, .ref mH, .int hy, .ref mS, .ref mV, .ref mF, .ref mP, .int (nI L), .int (nI sn), .int nu, .ref mR, .int (nI rm)])), (mP, aI E 80 P)] sz (nI 1) [(mo, .inr (5, [.ref mA, .ref mK, .ref mH, .int hy, .ref mS, .ref mV, .ref mF, .ref mP, .int (nI L), .int (nI (sn + 1)), .int nu, .ref mR, .int (nI rm)])), (mP, aI E 80 P)] := by
  refine C_of (QQ := QI E (nI 1) [(mo, .inr (5, [.ref mA, .ref mK, .ref mH, .int hy, .ref mS, .ref mV, .ref mF, .ref mP, .int (nI L), .int (nI (sn + 1)), .int nu, .ref mR, .int (nI rm)])), (mP, aI E 80 P)]) (cc := cX5_takes) (maxL := 3) (ret := (some .boolean)) (by decide +kernel) rfl (Nat.le_of_ble_eq_true rfl) ?_
  intro p e s m args below meth c A R Q ls hx hb hr hts hown hml hlocks hA hK hN hP hD hS hl hR hQ
  have hown : s.vm.findClass RX5 = some m.cls := hown
  have hl : lv_has ls 3 [(0, .ref mo), (1, .int x)] := hl
  refine lv_aload_n hx hb dX5_takes_0 rfl (lv_at hl 0 rfl) ?_
  refine lv_iload_n hx hb dX5_takes_1 rfl (lv_at hl 1 rfl) ?_
  refine lv_iload_n hx hb dX5_takes_2 rfl (lv_at hl 1 rfl) ?_
  refine kV_i (E := E) (As := [.int x, .int x]) (rest := []) (wr := []) ⟨hx, hb, hml, hown, hts⟩ (c_X5_isHere (l := l) (E := E) (sz := _) (mo := mo) (mA := mA) (mK := mK) (mH := mH) (mS := mS) (mV := mV) (mF := mF) (mP := mP) (mR := mR) (hy := hy) (L := L) (sn := sn) (rm := rm) (nu := nu) (P := P) (f := f) (x := x) (y := x) (gL := by first | assumption | omega) (gs := by first | assumption | omega)) (cwV 2 hts gX5_takes_X5_isHere rfl rfl rfl (by decide +kernel) ⟨by rw [hR]; decide, by rw [hR]; decide⟩) hK hN hP hD hS hA [0, 1] [] rfl (by decide) rfl (by decide) (by decide) 0 5 rfl rfl rfl hl.1 rfl (Nat.le_of_ble_eq_true rfl) dX5_takes_3 ⟨Nat.zero_le _, Nat.zero_le _⟩ (fun H locs hP hD hS => ?_)
  have hP : va_P E.1 vwCl [(mo, .inr (5, [.ref mA, .ref mK, .ref mH, .int hy, .ref mS, .ref mV, .ref mF, .ref mP, .int (nI L), .int (nI sn), .int nu, .ref mR, .int (nI rm)])), (mP, aI E 80 P)] H := hP
  have hD : va_D A [(mo, .inr (5, [.ref mA, .ref mK, .ref mH, .int hy, .ref mS, .ref mV, .ref mF, .ref mP, .int (nI L), .int (nI sn), .int nu, .ref mR, .int (nI rm)])), (mP, aI E 80 P)] := hD
  refine lv_istore_n (lv' := [(2, .int (b2i (ihM P L sn x x))), (0, .ref mo), (1, .int x)]) hx hb dX5_takes_6 rfl hl (by decide) rfl (fun ls hl => ?_)
  refine lv_aload_n hx hb dX5_takes_7 rfl (lv_at hl 1 rfl) ?_
  refine lv_dup hx hb dX5_takes_8 rfl ?_
  refine rk_get (ci := 5) (C := RX5) (T := TX5) (N := 13) hx hb hts iw_X5_takes_5 hown hK hP 0 rfl rfl 9 (by decide) fl_X5_takes_157 rfl (v := .int (nI sn)) rfl dX5_takes_9 ?_
  refine lv_iload_n hx hb dX5_takes_12 rfl (lv_at hl 0 rfl) ?_
  refine rk_if_eqB (tgt := 20) hx hb dX5_takes_13 (by decide) (fun q => absurd q (by rw [gi]; decide)) (fun zc13 => ?_)
  refine lv_iconst (v := nI 1) hx hb dX5_takes_16 (by decide) ?_
  refine lv_goto (tgt := 21) hx hb dX5_takes_17 (by decide) ?_
  refine rk_iaddN hx hb dX5_takes_21 ?_
  refine rk_put (ci := 5) (C := RX5) (T := TX5) (N := 13) hx hb hts iw_X5_takes_5 tyX5 tyX5_ok nmX5 hown hK hP hD hS 0 rfl rfl 9 (by decide) fl_X5_takes_157 rfl rfl (tyX5_ok 9 (by decide)) rfl rfl (Nat.le_of_ble_eq_true rfl) (ws' := [(mo, .inr (5, [.ref mA, .ref mK, .ref mH, .int hy, .ref mS, .ref mV, .ref mF, .ref mP, .int (nI L), .int (nI (sn + 1)), .int nu, .ref mR, .int (nI rm)])), (mP, aI E 80 P)]) rfl dX5_takes_22 (fun H locs hP hD hS => ?_)
  refine lv_iload_n hx hb dX5_takes_25 rfl (lv_at hl 0 rfl) ?_
  exact ret_z hQ hx hb hr hlocks (hP.sub [0, 1] rfl) (hD.sub [0, 1] (by decide) rfl) hS dX5_takes_26 (b2i_nz _) (by rw [gi]; rfl)
set_option maxHeartbeats 400000 in
set_option maxRecDepth 100000 in
theorem c_X5_readsNumber_no (l : Launch) (E : EE) (sz : Nat) (mo mA mK mH mS mV mF mP mR : Nat) (hy : Int32) (L sn rm : Nat) (nu : Int32) (P f : Nat → Int32) (le : Nat) (mq : Int32) (gL : L ≤ 80) (gs : sn ≤ L) (gi : rnB P L sn le = false) : Ci l yX5_readsNumber wsX5_readsNumber 2 47 E [.ref mo, .int (nI le), .int mq] [(mo, .inr (5, [.ref mA, .ref mK, .ref mH, .int hy, .ref mS, .ref mV, .ref mF, .ref mP, .int (nI L), .int (nI sn), .int nu, .ref mR, .int (nI rm)])), (mP, aI E 80 P)] sz (nI 0) [(mo, .inr (5, [.ref mA, .ref mK, .ref mH, .int hy, .ref mS, .ref mV, .ref mF, .ref mP, .int (nI L), .int (nI sn), .int nu, .ref mR, .int (nI rm)])), (mP, aI E 80 P)] := by
  refine C_of (QQ := QI E (nI 0) [(mo, .inr (5, [.ref mA, .ref mK, .ref mH, .int hy, .ref mS, .ref mV, .ref mF, .ref mP, .int (nI L), .int (nI sn), .int nu, .ref mR, .int (nI rm)])), (mP, aI E 80 P)]) (cc := cX5_readsNumber) (maxL := 3) (ret := (some .boolean)) (by decide +kernel) rfl (Nat.le_of_ble_eq_true rfl) ?_
  intro p e s m args below meth c A R Q ls hx hb hr hts hown hml hlocks hA hK hN hP hD hS hl hR hQ
  have hown : s.vm.findClass RX5 = some m.cls := hown
  have hl : lv_has ls 3 [(0, .ref mo), (1, .int (nI le)), (2, .int mq)] := hl
  refine lv_aload_n hx hb dX5_readsNumber_0 rfl (lv_at hl 0 rfl) ?_
  refine lv_bipush (v := nI 48) hx hb dX5_readsNumber_1 (by decide) ?_
  refine lv_iload_n hx hb dX5_readsNumber_3 rfl (lv_at hl 1 rfl) ?_
  refine rk_iaddN hx hb dX5_readsNumber_4 ?_
  refine lv_bipush (v := nI 57) hx hb dX5_readsNumber_5 (by decide) ?_
  refine kV_i (E := E) (As := [.int (nI (48 + le)), .int (nI 57)]) (rest := []) (wr := []) ⟨hx, hb, hml, hown, hts⟩ (c_X5_isHere (l := l) (E := E) (sz := _) (mo := mo) (mA := mA) (mK := mK) (mH := mH) (mS := mS) (mV := mV) (mF := mF) (mP := mP) (mR := mR) (hy := hy) (L := L) (sn := sn) (rm := rm) (nu := nu) (P := P) (f := f) (x := nI (48 + le)) (y := nI 57) (gL := by first | assumption | omega) (gs := by first | assumption | omega)) (cwV 2 hts gX5_readsNumber_X5_isHere rfl rfl rfl (by decide +kernel) ⟨by rw [hR]; decide, by rw [hR]; decide⟩) hK hN hP hD hS hA [0, 1] [] rfl (by decide) rfl (by decide) (by decide) 0 5 rfl rfl rfl hl.1 rfl (Nat.le_of_ble_eq_true rfl) dX5_readsNumber_7 ⟨Nat.zero_le _, Nat.zero_le _⟩ (fun H locs hP hD hS => ?_)
  have hP : va_P E.1 vwCl [(mo, .inr (5, [.ref mA, .ref mK, .ref mH, .int hy, .ref mS, .ref mV, .ref mF, .ref mP, .int (nI L), .int (nI sn), .int nu, .ref mR, .int (nI rm)])), (mP, aI E 80 P)] H := hP
  have hD : va_D A [(mo, .inr (5, [.ref mA, .ref mK, .ref mH, .int hy, .ref mS, .ref mV, .ref mF, .ref mP, .int (nI L), .int (nI sn), .int nu, .ref mR, .int (nI rm)])), (mP, aI E 80 P)] := hD
  refine rk_if_neB (tgt := 15) hx hb dX5_readsNumber_10 (by decide) (fun q => absurd q (by rw [show ihM P L sn (nI (48 + le)) (nI 57) = false from gi]; decide)) (fun zc10 => ?_)
  refine lv_iconst (v := nI 0) hx hb dX5_readsNumber_13 (by decide) ?_
  exact ret_z hQ hx hb hr hlocks (hP.sub [0, 1] rfl) (hD.sub [0, 1] (by decide) rfl) hS dX5_readsNumber_14 (nz_0) (rfl)
theorem iw_X5_readsNumber_5 : ∀ w ∈ u_ws RX5 TX5 13, w ∈ wsX5_readsNumber := by decide +kernel
theorem fl_X5_readsNumber_28 : Cond.fieldLink RX5 28 (TX5 7).1 (TX5 7).2.1 (TX5 7).2.2.1 ∈ wsX5_readsNumber := by decide +kernel
theorem fl_X5_readsNumber_157 : Cond.fieldLink RX5 157 (TX5 9).1 (TX5 9).2.1 (TX5 9).2.2.1 ∈ wsX5_readsNumber := by decide +kernel
theorem fl_X5_readsNumber_163 : Cond.fieldLink RX5 163 (TX5 10).1 (TX5 10).2.1 (TX5 10).2.2.1 ∈ wsX5_readsNumber := by decide +kernel
set_option maxHeartbeats 400000 in
set_option maxRecDepth 100000 in
theorem c_X5_readsNumber_yes (l : Launch) (E : EE) (sz : Nat) (mo mA mK mH mS mV mF mP mR : Nat) (hy : Int32) (L sn rm : Nat) (nu : Int32) (P f : Nat → Int32) (le : Nat) (mq : Int32) (gL : L ≤ 80) (gs : sn ≤ L) (gi : rnB P L sn le = true) : Ci l yX5_readsNumber wsX5_readsNumber 2 47 E [.ref mo, .int (nI le), .int mq] [(mo, .inr (5, [.ref mA, .ref mK, .ref mH, .int hy, .ref mS, .ref mV, .ref mF, .ref mP, .int (nI L), .int (nI sn), .int nu, .ref mR, .int (nI rm)])), (mP, aI E 80 P)] sz (nI 1) [(mo, .inr (5, [.ref mA, .ref mK, .ref mH, .int hy, .ref mS, .ref mV, .ref mF, .ref mP, .int (nI L), .int (nI (rnS P L sn mq)), .int (rnN P L sn mq), .ref mR, .int (nI rm)])), (mP, aI E 80 P)] := by
  refine C_of (QQ := QI E (nI 1) [(mo, .inr (5, [.ref mA, .ref mK, .ref mH, .int hy, .ref mS, .ref mV, .ref mF, .ref mP, .int (nI L), .int (nI (rnS P L sn mq)), .int (rnN P L sn mq), .ref mR, .int (nI rm)])), (mP, aI E 80 P)]) (cc := cX5_readsNumber) (maxL := 3) (ret := (some .boolean)) (by decide +kernel) rfl (Nat.le_of_ble_eq_true rfl) ?_
  intro p e s m args below meth c A R Q ls hx hb hr hts hown hml hlocks hA hK hN hP hD hS hl hR hQ
  have hown : s.vm.findClass RX5 = some m.cls := hown
  have hl : lv_has ls 3 [(0, .ref mo), (1, .int (nI le)), (2, .int mq)] := hl
  refine lv_aload_n hx hb dX5_readsNumber_0 rfl (lv_at hl 0 rfl) ?_
  refine lv_bipush (v := nI 48) hx hb dX5_readsNumber_1 (by decide) ?_
  refine lv_iload_n hx hb dX5_readsNumber_3 rfl (lv_at hl 1 rfl) ?_
  refine rk_iaddN hx hb dX5_readsNumber_4 ?_
  refine lv_bipush (v := nI 57) hx hb dX5_readsNumber_5 (by decide) ?_
  refine kV_i (E := E) (As := [.int (nI (48 + le)), .int (nI 57)]) (rest := []) (wr := []) ⟨hx, hb, hml, hown, hts⟩ (c_X5_isHere (l := l) (E := E) (sz := _) (mo := mo) (mA := mA) (mK := mK) (mH := mH) (mS := mS) (mV := mV) (mF := mF) (mP := mP) (mR := mR) (hy := hy) (L := L) (sn := sn) (rm := rm) (nu := nu) (P := P) (f := f) (x := nI (48 + le)) (y := nI 57) (gL := by first | assumption | omega) (gs := by first | assumption | omega)) (cwV 2 hts gX5_readsNumber_X5_isHere rfl rfl rfl (by decide +kernel) ⟨by rw [hR]; decide, by rw [hR]; decide⟩) hK hN hP hD hS hA [0, 1] [] rfl (by decide) rfl (by decide) (by decide) 0 5 rfl rfl rfl hl.1 rfl (Nat.le_of_ble_eq_true rfl) dX5_readsNumber_7 ⟨Nat.zero_le _, Nat.zero_le _⟩ (fun H locs hP hD hS => ?_)
  have hP : va_P E.1 vwCl [(mo, .inr (5, [.ref mA, .ref mK, .ref mH, .int hy, .ref mS, .ref mV, .ref mF, .ref mP, .int (nI L), .int (nI sn), .int nu, .ref mR, .int (nI rm)])), (mP, aI E 80 P)] H := hP
  have hD : va_D A [(mo, .inr (5, [.ref mA, .ref mK, .ref mH, .int hy, .ref mS, .ref mV, .ref mF, .ref mP, .int (nI L), .int (nI sn), .int nu, .ref mR, .int (nI rm)])), (mP, aI E 80 P)] := hD
  refine rk_if_neB (tgt := 15) hx hb dX5_readsNumber_10 (by decide) (fun zc10 => ?_) (fun q => absurd q (by rw [show ihM P L sn (nI (48 + le)) (nI 57) = true from gi]; decide))
  have gsl := ihM_lt gi
  refine lv_aload_n hx hb dX5_readsNumber_15 rfl (lv_at hl 0 rfl) ?_
  refine lv_aload_n hx hb dX5_readsNumber_16 rfl (lv_at hl 0 rfl) ?_
  refine rk_get (ci := 5) (C := RX5) (T := TX5) (N := 13) hx hb hts iw_X5_readsNumber_5 hown hK hP 0 rfl rfl 7 (by decide) fl_X5_readsNumber_28 rfl (v := .ref mP) rfl dX5_readsNumber_17 ?_
  refine lv_aload_n hx hb dX5_readsNumber_20 rfl (lv_at hl 0 rfl) ?_
  refine rk_get (ci := 5) (C := RX5) (T := TX5) (N := 13) hx hb hts iw_X5_readsNumber_5 hown hK hP 0 rfl rfl 9 (by decide) fl_X5_readsNumber_157 rfl (v := .int (nI sn)) rfl dX5_readsNumber_21 ?_
  refine rk_iald hx hb hK hP 1 rfl (by omega) (by omega) (v := P sn) (rfl) dX5_readsNumber_24 ?_
  refine lv_bipush (v := nI 48) hx hb dX5_readsNumber_25 (by decide) ?_
  refine lv_isub hx hb dX5_readsNumber_27 ?_
  refine rk_put (ci := 5) (C := RX5) (T := TX5) (N := 13) hx hb hts iw_X5_readsNumber_5 tyX5 tyX5_ok nmX5 hown hK hP hD hS 0 rfl rfl 10 (by decide) fl_X5_readsNumber_163 rfl rfl (tyX5_ok 10 (by decide)) rfl rfl (Nat.le_of_ble_eq_true rfl) (ws' := [(mo, .inr (5, [.ref mA, .ref mK, .ref mH, .int hy, .ref mS, .ref mV, .ref mF, .ref mP, .int (nI L), .int (nI sn), .int ((P sn) - (nI 48)), .ref mR, .int (nI rm)])), (mP, aI E 80 P)]) rfl dX5_readsNumber_28 (fun H locs hP hD hS => ?_)
  refine lv_aload_n hx hb dX5_readsNumber_31 rfl (lv_at hl 0 rfl) ?_
  refine lv_dup hx hb dX5_readsNumber_32 rfl ?_
  refine rk_get (ci := 5) (C := RX5) (T := TX5) (N := 13) hx hb hts iw_X5_readsNumber_5 hown hK hP 0 rfl rfl 9 (by decide) fl_X5_readsNumber_157 rfl (v := .int (nI sn)) rfl dX5_readsNumber_33 ?_
  refine lv_iconst (v := nI 1) hx hb dX5_readsNumber_36 (by decide) ?_
  refine rk_iaddN hx hb dX5_readsNumber_37 ?_
  refine rk_put (ci := 5) (C := RX5) (T := TX5) (N := 13) hx hb hts iw_X5_readsNumber_5 tyX5 tyX5_ok nmX5 hown hK hP hD hS 0 rfl rfl 9 (by decide) fl_X5_readsNumber_157 rfl rfl (tyX5_ok 9 (by decide)) rfl rfl (Nat.le_of_ble_eq_true rfl) (ws' := [(mo, .inr (5, [.ref mA, .ref mK, .ref mH, .int hy, .ref mS, .ref mV, .ref mF, .ref mP, .int (nI L), .int (nI (sn + 1)), .int ((P sn) - (nI 48)), .ref mR, .int (nI rm)])), (mP, aI E 80 P)]) rfl dX5_readsNumber_38 (fun H locs hP hD hS => ?_)
  refine lv_aload_n hx hb dX5_readsNumber_41 rfl (lv_at hl 0 rfl) ?_
  refine rk_get (ci := 5) (C := RX5) (T := TX5) (N := 13) hx hb hts iw_X5_readsNumber_5 hown hK hP 0 rfl rfl 10 (by decide) fl_X5_readsNumber_163 rfl (v := .int ((P sn) - (nI 48))) rfl dX5_readsNumber_42 ?_
  refine lv_if_le (tgt := 117) hx hb dX5_readsNumber_45 (by decide) (fun zc45 => ?_) (fun zc45 => ?_)
  · refine lv_iconst (v := nI 1) hx hb dX5_readsNumber_117 (by decide) ?_
    have hP9 : va_P E.1 vwCl [(mo, .inr (5, [.ref mA, .ref mK, .ref mH, .int hy, .ref mS, .ref mV, .ref mF, .ref mP, .int (nI L), .int (nI (sn + 1)), .int ((P sn) - (nI 48)), .ref mR, .int (nI rm)])), (mP, aI E 80 P)] _ := hP.sub [0, 1] rfl
    have hD9 : va_D A [(mo, .inr (5, [.ref mA, .ref mK, .ref mH, .int hy, .ref mS, .ref mV, .ref mF, .ref mP, .int (nI L), .int (nI (sn + 1)), .int ((P sn) - (nI 48)), .ref mR, .int (nI rm)])), (mP, aI E 80 P)] := hD.sub [0, 1] (by decide) rfl
    have hW9 : ([(mo, .inr (5, [.ref mA, .ref mK, .ref mH, .int hy, .ref mS, .ref mV, .ref mF, .ref mP, .int (nI L), .int (nI (sn + 1)), .int ((P sn) - (nI 48)), .ref mR, .int (nI rm)])), (mP, aI E 80 P)] : va_W) = [(mo, .inr (5, [.ref mA, .ref mK, .ref mH, .int hy, .ref mS, .ref mV, .ref mF, .ref mP, .int (nI L), .int (nI (rnS P L sn mq)), .int (rnN P L sn mq), .ref mR, .int (nI rm)])), (mP, aI E 80 P)] := by have hx9 := rnX_1 zc45 (L := L) (mo9 := mq); rw [rnN_f hx9, rnS_f hx9]
    rw [hW9] at hP9 hD9
    exact ret_z hQ hx hb hr hlocks hP9 hD9 hS dX5_readsNumber_118 (nz_1) (rfl)
  · refine lv_aload_n hx hb dX5_readsNumber_48 rfl (lv_at hl 0 rfl) ?_
    refine lv_bipush (v := nI 48) hx hb dX5_readsNumber_49 (by decide) ?_
    refine lv_bipush (v := nI 57) hx hb dX5_readsNumber_51 (by decide) ?_
    refine kV_i (E := E) (As := [.int (nI 48), .int (nI 57)]) (rest := []) (wr := []) ⟨hx, hb, hml, hown, hts⟩ (c_X5_isHere (l := l) (E := E) (sz := _) (mo := mo) (mA := mA) (mK := mK) (mH := mH) (mS := mS) (mV := mV) (mF := mF) (mP := mP) (mR := mR) (hy := hy) (L := L) (sn := sn + 1) (rm := rm) (nu := (P sn) - (nI 48)) (P := P) (f := f) (x := nI 48) (y := nI 57) (gL := by first | assumption | omega) (gs := by first | assumption | omega)) (cwV 2 hts gX5_readsNumber_X5_isHere rfl rfl rfl (by decide +kernel) ⟨by rw [hR]; decide, by rw [hR]; decide⟩) hK hN hP hD hS hA [0, 1] [] rfl (by decide) rfl (by decide) (by decide) 0 5 rfl rfl rfl hl.1 rfl (Nat.le_of_ble_eq_true rfl) dX5_readsNumber_53 ⟨Nat.zero_le _, Nat.zero_le _⟩ (fun H locs hP hD hS => ?_)
    have hP : va_P E.1 vwCl [(mo, .inr (5, [.ref mA, .ref mK, .ref mH, .int hy, .ref mS, .ref mV, .ref mF, .ref mP, .int (nI L), .int (nI (sn + 1)), .int ((P sn) - (nI 48)), .ref mR, .int (nI rm)])), (mP, aI E 80 P)] H := hP
    have hD : va_D A [(mo, .inr (5, [.ref mA, .ref mK, .ref mH, .int hy, .ref mS, .ref mV, .ref mF, .ref mP, .int (nI L), .int (nI (sn + 1)), .int ((P sn) - (nI 48)), .ref mR, .int (nI rm)])), (mP, aI E 80 P)] := hD
    refine rk_if_eqB (tgt := 117) hx hb dX5_readsNumber_56 (by decide) (fun zc56 => ?_) (fun zc56 => ?_)
    · refine lv_iconst (v := nI 1) hx hb dX5_readsNumber_117 (by decide) ?_
      have hP9 : va_P E.1 vwCl [(mo, .inr (5, [.ref mA, .ref mK, .ref mH, .int hy, .ref mS, .ref mV, .ref mF, .ref mP, .int (nI L), .int (nI (sn + 1)), .int ((P sn) - (nI 48)), .ref mR, .int (nI rm)])), (mP, aI E 80 P)] _ := hP.sub [0, 1] rfl
      have hD9 : va_D A [(mo, .inr (5, [.ref mA, .ref mK, .ref mH, .int hy, .ref mS, .ref mV, .ref mF, .ref mP, .int (nI L), .int (nI (sn + 1)), .int ((P sn) - (nI 48)), .ref mR, .int (nI rm)])), (mP, aI E 80 P)] := hD.sub [0, 1] (by decide) rfl
      have hW9 : ([(mo, .inr (5, [.ref mA, .ref mK, .ref mH, .int hy, .ref mS, .ref mV, .ref mF, .ref mP, .int (nI L), .int (nI (sn + 1)), .int ((P sn) - (nI 48)), .ref mR, .int (nI rm)])), (mP, aI E 80 P)] : va_W) = [(mo, .inr (5, [.ref mA, .ref mK, .ref mH, .int hy, .ref mS, .ref mV, .ref mF, .ref mP, .int (nI L), .int (nI (rnS P L sn mq)), .int (rnN P L sn mq), .ref mR, .int (nI rm)])), (mP, aI E 80 P)] := by have hx9 := rnX_2 zc56 (mo9 := mq); rw [rnN_f hx9, rnS_f hx9]
      rw [hW9] at hP9 hD9
      exact ret_z hQ hx hb hr hlocks hP9 hD9 hS dX5_readsNumber_118 (nz_1) (rfl)
    · refine lv_bipush (v := nI 10) hx hb dX5_readsNumber_59 (by decide) ?_
      refine lv_aload_n hx hb dX5_readsNumber_61 rfl (lv_at hl 0 rfl) ?_
      refine rk_get (ci := 5) (C := RX5) (T := TX5) (N := 13) hx hb hts iw_X5_readsNumber_5 hown hK hP 0 rfl rfl 10 (by decide) fl_X5_readsNumber_163 rfl (v := .int ((P sn) - (nI 48))) rfl dX5_readsNumber_62 ?_
      refine lv_imul hx hb dX5_readsNumber_65 ?_
      have gsl2 := ihM_lt zc56
      refine lv_aload_n hx hb dX5_readsNumber_66 rfl (lv_at hl 0 rfl) ?_
      refine rk_get (ci := 5) (C := RX5) (T := TX5) (N := 13) hx hb hts iw_X5_readsNumber_5 hown hK hP 0 rfl rfl 7 (by decide) fl_X5_readsNumber_28 rfl (v := .ref mP) rfl dX5_readsNumber_67 ?_
      refine lv_aload_n hx hb dX5_readsNumber_70 rfl (lv_at hl 0 rfl) ?_
      refine rk_get (ci := 5) (C := RX5) (T := TX5) (N := 13) hx hb hts iw_X5_readsNumber_5 hown hK hP 0 rfl rfl 9 (by decide) fl_X5_readsNumber_157 rfl (v := .int (nI (sn + 1))) rfl dX5_readsNumber_71 ?_
      refine rk_iald hx hb hK hP 1 rfl (by omega) (by omega) (v := P ((sn + 1))) (rfl) dX5_readsNumber_74 ?_
      refine lv_iadd hx hb dX5_readsNumber_75 ?_
      refine lv_bipush (v := nI 48) hx hb dX5_readsNumber_76 (by decide) ?_
      refine lv_isub hx hb dX5_readsNumber_78 ?_
      refine lv_iload_n hx hb dX5_readsNumber_79 rfl (lv_at hl 2 rfl) ?_
      refine lv_icmp_gt (tgt := 117) hx hb dX5_readsNumber_80 (by decide) (fun zc80 => ?_) (fun zc80 => ?_)
      · refine lv_iconst (v := nI 1) hx hb dX5_readsNumber_117 (by decide) ?_
        have hP9 : va_P E.1 vwCl [(mo, .inr (5, [.ref mA, .ref mK, .ref mH, .int hy, .ref mS, .ref mV, .ref mF, .ref mP, .int (nI L), .int (nI (sn + 1)), .int ((P sn) - (nI 48)), .ref mR, .int (nI rm)])), (mP, aI E 80 P)] _ := hP.sub [0, 1] rfl
        have hD9 : va_D A [(mo, .inr (5, [.ref mA, .ref mK, .ref mH, .int hy, .ref mS, .ref mV, .ref mF, .ref mP, .int (nI L), .int (nI (sn + 1)), .int ((P sn) - (nI 48)), .ref mR, .int (nI rm)])), (mP, aI E 80 P)] := hD.sub [0, 1] (by decide) rfl
        have hW9 : ([(mo, .inr (5, [.ref mA, .ref mK, .ref mH, .int hy, .ref mS, .ref mV, .ref mF, .ref mP, .int (nI L), .int (nI (sn + 1)), .int ((P sn) - (nI 48)), .ref mR, .int (nI rm)])), (mP, aI E 80 P)] : va_W) = [(mo, .inr (5, [.ref mA, .ref mK, .ref mH, .int hy, .ref mS, .ref mV, .ref mF, .ref mP, .int (nI L), .int (nI (rnS P L sn mq)), .int (rnN P L sn mq), .ref mR, .int (nI rm)])), (mP, aI E 80 P)] := by have hx9 := rnX_3 zc80 (L := L); rw [rnN_f hx9, rnS_f hx9]
        rw [hW9] at hP9 hD9
        exact ret_z hQ hx hb hr hlocks hP9 hD9 hS dX5_readsNumber_118 (nz_1) (rfl)
      · refine lv_aload_n hx hb dX5_readsNumber_83 rfl (lv_at hl 0 rfl) ?_
        refine lv_bipush (v := nI 10) hx hb dX5_readsNumber_84 (by decide) ?_
        refine lv_aload_n hx hb dX5_readsNumber_86 rfl (lv_at hl 0 rfl) ?_
        refine rk_get (ci := 5) (C := RX5) (T := TX5) (N := 13) hx hb hts iw_X5_readsNumber_5 hown hK hP 0 rfl rfl 10 (by decide) fl_X5_readsNumber_163 rfl (v := .int ((P sn) - (nI 48))) rfl dX5_readsNumber_87 ?_
        refine lv_imul hx hb dX5_readsNumber_90 ?_
        refine lv_aload_n hx hb dX5_readsNumber_91 rfl (lv_at hl 0 rfl) ?_
        refine rk_get (ci := 5) (C := RX5) (T := TX5) (N := 13) hx hb hts iw_X5_readsNumber_5 hown hK hP 0 rfl rfl 7 (by decide) fl_X5_readsNumber_28 rfl (v := .ref mP) rfl dX5_readsNumber_92 ?_
        refine lv_aload_n hx hb dX5_readsNumber_95 rfl (lv_at hl 0 rfl) ?_
        refine rk_get (ci := 5) (C := RX5) (T := TX5) (N := 13) hx hb hts iw_X5_readsNumber_5 hown hK hP 0 rfl rfl 9 (by decide) fl_X5_readsNumber_157 rfl (v := .int (nI (sn + 1))) rfl dX5_readsNumber_96 ?_
        refine rk_iald hx hb hK hP 1 rfl (by omega) (by omega) (v := P ((sn + 1))) (rfl) dX5_readsNumber_99 ?_
        refine lv_iadd hx hb dX5_readsNumber_100 ?_
        refine lv_bipush (v := nI 48) hx hb dX5_readsNumber_101 (by decide) ?_
        refine lv_isub hx hb dX5_readsNumber_103 ?_
        refine rk_put (ci := 5) (C := RX5) (T := TX5) (N := 13) hx hb hts iw_X5_readsNumber_5 tyX5 tyX5_ok nmX5 hown hK hP hD hS 0 rfl rfl 10 (by decide) fl_X5_readsNumber_163 rfl rfl (tyX5_ok 10 (by decide)) rfl rfl (Nat.le_of_ble_eq_true rfl) (ws' := [(mo, .inr (5, [.ref mA, .ref mK, .ref mH, .int hy, .ref mS, .ref mV, .ref mF, .ref mP, .int (nI L), .int (nI (sn + 1)), .int ((((nI 10) * ((P sn) - (nI 48))) + (P ((sn + 1)))) - (nI 48)), .ref mR, .int (nI rm)])), (mP, aI E 80 P)]) rfl dX5_readsNumber_104 (fun H locs hP hD hS => ?_)
        refine lv_aload_n hx hb dX5_readsNumber_107 rfl (lv_at hl 0 rfl) ?_
        refine lv_dup hx hb dX5_readsNumber_108 rfl ?_
        refine rk_get (ci := 5) (C := RX5) (T := TX5) (N := 13) hx hb hts iw_X5_readsNumber_5 hown hK hP 0 rfl rfl 9 (by decide) fl_X5_readsNumber_157 rfl (v := .int (nI (sn + 1))) rfl dX5_readsNumber_109 ?_
        refine lv_iconst (v := nI 1) hx hb dX5_readsNumber_112 (by decide) ?_
        refine rk_iaddN hx hb dX5_readsNumber_113 ?_
        refine rk_put (ci := 5) (C := RX5) (T := TX5) (N := 13) hx hb hts iw_X5_readsNumber_5 tyX5 tyX5_ok nmX5 hown hK hP hD hS 0 rfl rfl 9 (by decide) fl_X5_readsNumber_157 rfl rfl (tyX5_ok 9 (by decide)) rfl rfl (Nat.le_of_ble_eq_true rfl) (ws' := [(mo, .inr (5, [.ref mA, .ref mK, .ref mH, .int hy, .ref mS, .ref mV, .ref mF, .ref mP, .int (nI L), .int (nI (((sn + 1)) + 1)), .int ((((nI 10) * ((P sn) - (nI 48))) + (P ((sn + 1)))) - (nI 48)), .ref mR, .int (nI rm)])), (mP, aI E 80 P)]) rfl dX5_readsNumber_114 (fun H locs hP hD hS => ?_)
        refine lv_iconst (v := nI 1) hx hb dX5_readsNumber_117 (by decide) ?_
        have hP9 : va_P E.1 vwCl [(mo, .inr (5, [.ref mA, .ref mK, .ref mH, .int hy, .ref mS, .ref mV, .ref mF, .ref mP, .int (nI L), .int (nI (((sn + 1)) + 1)), .int ((((nI 10) * ((P sn) - (nI 48))) + (P ((sn + 1)))) - (nI 48)), .ref mR, .int (nI rm)])), (mP, aI E 80 P)] _ := hP.sub [0, 1] rfl
        have hD9 : va_D A [(mo, .inr (5, [.ref mA, .ref mK, .ref mH, .int hy, .ref mS, .ref mV, .ref mF, .ref mP, .int (nI L), .int (nI (((sn + 1)) + 1)), .int ((((nI 10) * ((P sn) - (nI 48))) + (P ((sn + 1)))) - (nI 48)), .ref mR, .int (nI rm)])), (mP, aI E 80 P)] := hD.sub [0, 1] (by decide) rfl
        have hW9 : ([(mo, .inr (5, [.ref mA, .ref mK, .ref mH, .int hy, .ref mS, .ref mV, .ref mF, .ref mP, .int (nI L), .int (nI (((sn + 1)) + 1)), .int ((((nI 10) * ((P sn) - (nI 48))) + (P ((sn + 1)))) - (nI 48)), .ref mR, .int (nI rm)])), (mP, aI E 80 P)] : va_W) = [(mo, .inr (5, [.ref mA, .ref mK, .ref mH, .int hy, .ref mS, .ref mV, .ref mF, .ref mP, .int (nI L), .int (nI (rnS P L sn mq)), .int (rnN P L sn mq), .ref mR, .int (nI rm)])), (mP, aI E 80 P)] := by have hx9 := rnX_4 zc45 zc56 zc80; rw [rnN_t hx9, rnS_t hx9]
        rw [hW9] at hP9 hD9
        exact ret_z hQ hx hb hr hlocks hP9 hD9 hS dX5_readsNumber_118 (nz_1) (rfl)
theorem iw_X5_readsRoad_5 : ∀ w ∈ u_ws RX5 TX5 13, w ∈ wsX5_readsRoad := by decide +kernel
theorem fl_X5_readsRoad_163 : Cond.fieldLink RX5 163 (TX5 10).1 (TX5 10).2.1 (TX5 10).2.2.1 ∈ wsX5_readsRoad := by decide +kernel
theorem fl_X5_readsRoad_31 : Cond.fieldLink RX5 31 (TX5 11).1 (TX5 11).2.1 (TX5 11).2.2.1 ∈ wsX5_readsRoad := by decide +kernel
theorem fl_X5_readsRoad_172 : Cond.fieldLink RX5 172 (TX5 12).1 (TX5 12).2.1 (TX5 12).2.2.1 ∈ wsX5_readsRoad := by decide +kernel
set_option maxHeartbeats 400000 in
set_option maxRecDepth 100000 in
theorem c_X5_readsRoad (l : Launch) (E : EE) (sz : Nat) (mo mA mK mH mS mV mF mP mR : Nat) (hy : Int32) (L sn rm : Nat) (nu : Int32) (P f : Nat → Int32)  (gL : L ≤ 80) (gs : sn ≤ L) (gr : 6 * rm ≤ sn) : Ci l yX5_readsRoad wsX5_readsRoad 3 69 E [.ref mo] [(mo, .inr (5, [.ref mA, .ref mK, .ref mH, .int hy, .ref mS, .ref mV, .ref mF, .ref mP, .int (nI L), .int (nI sn), .int nu, .ref mR, .int (nI rm)])), (mP, aI E 80 P), (mR, aI E 60 f)] sz (b2i ((rr P L sn nu).1)) [(mo, .inr (5, [.ref mA, .ref mK, .ref mH, .int hy, .ref mS, .ref mV, .ref mF, .ref mP, .int (nI L), .int (nI ((rr P L sn nu).2.1)), .int ((rr P L sn nu).2.2.1), .ref mR, .int (nI (rrK P L sn rm nu))])), (mP, aI E 80 P), (mR, aI E 60 (rrF P L sn rm nu f))] := by
  refine C_of (QQ := QI E (b2i ((rr P L sn nu).1)) [(mo, .inr (5, [.ref mA, .ref mK, .ref mH, .int hy, .ref mS, .ref mV, .ref mF, .ref mP, .int (nI L), .int (nI ((rr P L sn nu).2.1)), .int ((rr P L sn nu).2.2.1), .ref mR, .int (nI (rrK P L sn rm nu))])), (mP, aI E 80 P), (mR, aI E 60 (rrF P L sn rm nu f))]) (cc := cX5_readsRoad) (maxL := 3) (ret := (some .boolean)) (by decide +kernel) rfl (Nat.le_of_ble_eq_true rfl) ?_
  intro p e s m args below meth c A R Q ls hx hb hr hts hown hml hlocks hA hK hN hP hD hS hl hR hQ
  have hown : s.vm.findClass RX5 = some m.cls := hown
  have hl : lv_has ls 3 [(0, .ref mo)] := hl
  refine lv_aload_n hx hb dX5_readsRoad_0 rfl (lv_at hl 0 rfl) ?_
  refine lv_iconst (v := nI 0) hx hb dX5_readsRoad_1 (by decide) ?_
  refine lv_bipush (v := nI 15) hx hb dX5_readsRoad_2 (by decide) ?_
  cases h1 : rnB P L sn 0
  · refine kV_i (E := E) (As := [.int (nI 0), .int (nI 15)]) (rest := []) (wr := [(mR, aI E 60 f)]) ⟨hx, hb, hml, hown, hts⟩ (c_X5_readsNumber_no (l := l) (E := E) (sz := _) (mo := mo) (mA := mA) (mK := mK) (mH := mH) (mS := mS) (mV := mV) (mF := mF) (mP := mP) (mR := mR) (hy := hy) (L := L) (sn := sn) (rm := rm) (nu := nu) (P := P) (f := f) (le := 0) (mq := nI 15) (gL := by first | assumption | omega) (gs := by first | assumption | omega) (gi := h1)) (cwV 2 hts gX5_readsRoad_X5_readsNumber rfl rfl rfl (by decide +kernel) ⟨by rw [hR]; decide, by rw [hR]; decide⟩) hK hN hP hD hS hA [0, 1] [2] rfl (by decide) rfl (by decide) (by decide) 0 5 rfl rfl rfl hl.1 rfl (Nat.le_of_ble_eq_true rfl) dX5_readsRoad_4 ⟨Nat.zero_le _, Nat.zero_le _⟩ (fun H locs hP hD hS => ?_)
    have hP : va_P E.1 vwCl [(mR, aI E 60 f), (mo, .inr (5, [.ref mA, .ref mK, .ref mH, .int hy, .ref mS, .ref mV, .ref mF, .ref mP, .int (nI L), .int (nI sn), .int nu, .ref mR, .int (nI rm)])), (mP, aI E 80 P)] H := hP
    have hD : va_D A [(mR, aI E 60 f), (mo, .inr (5, [.ref mA, .ref mK, .ref mH, .int hy, .ref mS, .ref mV, .ref mF, .ref mP, .int (nI L), .int (nI sn), .int nu, .ref mR, .int (nI rm)])), (mP, aI E 80 P)] := hD
    refine lv_if_ne (tgt := 12) hx hb dX5_readsRoad_7 (by decide) (fun q => absurd q (by decide)) (fun _ => ?_)
    refine lv_iconst (v := nI 0) hx hb dX5_readsRoad_10 (by decide) ?_
    have hP9 : va_P E.1 vwCl [(mo, .inr (5, [.ref mA, .ref mK, .ref mH, .int hy, .ref mS, .ref mV, .ref mF, .ref mP, .int (nI L), .int (nI sn), .int nu, .ref mR, .int (nI rm)])), (mP, aI E 80 P), (mR, aI E 60 f)] _ := hP.sub [1, 2, 0] rfl
    have hD9 : va_D A [(mo, .inr (5, [.ref mA, .ref mK, .ref mH, .int hy, .ref mS, .ref mV, .ref mF, .ref mP, .int (nI L), .int (nI sn), .int nu, .ref mR, .int (nI rm)])), (mP, aI E 80 P), (mR, aI E 60 f)] := hD.sub [1, 2, 0] (by decide) rfl
    have hW9 : ([(mo, .inr (5, [.ref mA, .ref mK, .ref mH, .int hy, .ref mS, .ref mV, .ref mF, .ref mP, .int (nI L), .int (nI sn), .int nu, .ref mR, .int (nI rm)])), (mP, aI E 80 P), (mR, aI E 60 f)] : va_W) = [(mo, .inr (5, [.ref mA, .ref mK, .ref mH, .int hy, .ref mS, .ref mV, .ref mF, .ref mP, .int (nI L), .int (nI ((rr P L sn nu).2.1)), .int ((rr P L sn nu).2.2.1), .ref mR, .int (nI (rrK P L sn rm nu))])), (mP, aI E 80 P), (mR, aI E 60 (rrF P L sn rm nu f))] := by have hr9 := rr_1 h1 (nu := nu); rw [rrF, rrK, hr9]; simp only [Bool.false_eq_true, if_false]
    rw [hW9] at hP9 hD9
    exact ret_z hQ hx hb hr hlocks hP9 hD9 hS dX5_readsRoad_11 (nz_0) (by have hr9 := rr_1 h1 (nu := nu); rw [hr9]; rfl)
  · refine kV_i (E := E) (As := [.int (nI 0), .int (nI 15)]) (rest := []) (wr := [(mR, aI E 60 f)]) ⟨hx, hb, hml, hown, hts⟩ (c_X5_readsNumber_yes (l := l) (E := E) (sz := _) (mo := mo) (mA := mA) (mK := mK) (mH := mH) (mS := mS) (mV := mV) (mF := mF) (mP := mP) (mR := mR) (hy := hy) (L := L) (sn := sn) (rm := rm) (nu := nu) (P := P) (f := f) (le := 0) (mq := nI 15) (gL := by first | assumption | omega) (gs := by first | assumption | omega) (gi := h1)) (cwV 2 hts gX5_readsRoad_X5_readsNumber rfl rfl rfl (by decide +kernel) ⟨by rw [hR]; decide, by rw [hR]; decide⟩) hK hN hP hD hS hA [0, 1] [2] rfl (by decide) rfl (by decide) (by decide) 0 5 rfl rfl rfl hl.1 rfl (Nat.le_of_ble_eq_true rfl) dX5_readsRoad_4 ⟨Nat.zero_le _, Nat.zero_le _⟩ (fun H locs hP hD hS => ?_)
    have hP : va_P E.1 vwCl [(mR, aI E 60 f), (mo, .inr (5, [.ref mA, .ref mK, .ref mH, .int hy, .ref mS, .ref mV, .ref mF, .ref mP, .int (nI L), .int (nI (rnS P L sn (nI 15))), .int (rnN P L sn (nI 15)), .ref mR, .int (nI rm)])), (mP, aI E 80 P)] H := hP
    have hD : va_D A [(mR, aI E 60 f), (mo, .inr (5, [.ref mA, .ref mK, .ref mH, .int hy, .ref mS, .ref mV, .ref mF, .ref mP, .int (nI L), .int (nI (rnS P L sn (nI 15))), .int (rnN P L sn (nI 15)), .ref mR, .int (nI rm)])), (mP, aI E 80 P)] := hD
    refine lv_if_ne (tgt := 12) hx hb dX5_readsRoad_7 (by decide) (fun _ => ?_) (fun q => absurd q (by decide))
    refine lv_aload_n hx hb dX5_readsRoad_12 rfl (lv_at hl 0 rfl) ?_
    refine rk_get (ci := 5) (C := RX5) (T := TX5) (N := 13) hx hb hts iw_X5_readsRoad_5 hown hK hP 1 rfl rfl 10 (by decide) fl_X5_readsRoad_163 rfl (v := .int (rnN P L sn (nI 15))) rfl dX5_readsRoad_13 ?_
    refine lv_istore_n (lv' := [(1, .int (rnN P L sn (nI 15))), (0, .ref mo)]) hx hb dX5_readsRoad_16 rfl hl (by decide) rfl (fun ls hl => ?_)
    refine lv_aload_n hx hb dX5_readsRoad_17 rfl (lv_at hl 1 rfl) ?_
    refine lv_bipush (v := nI 45) hx hb dX5_readsRoad_18 (by decide) ?_
    have g1 := rnS_b (mo9 := nI 15) h1
    cases h2 : ihM P L (rnS P L sn (nI 15)) (nI 45) (nI 45)
    · refine kV_i (E := E) (As := [.int (nI 45)]) (rest := []) (wr := [(mR, aI E 60 f)]) ⟨hx, hb, hml, hown, hts⟩ (c_X5_takes_no (l := l) (E := E) (sz := _) (mo := mo) (mA := mA) (mK := mK) (mH := mH) (mS := mS) (mV := mV) (mF := mF) (mP := mP) (mR := mR) (hy := hy) (L := L) (sn := rnS P L sn (nI 15)) (rm := rm) (nu := rnN P L sn (nI 15)) (P := P) (f := f) (x := nI 45) (gL := by first | assumption | omega) (gs := by first | assumption | omega) (gi := h2)) (cwV 1 hts gX5_readsRoad_X5_takes rfl rfl rfl (by decide +kernel) ⟨by rw [hR]; decide, by rw [hR]; decide⟩) hK hN hP hD hS hA [1, 2] [0] rfl (by decide) rfl (by decide) (by decide) 1 5 rfl rfl rfl hl.1 rfl (Nat.le_of_ble_eq_true rfl) dX5_readsRoad_20 ⟨Nat.zero_le _, Nat.zero_le _⟩ (fun H locs hP hD hS => ?_)
      have hP : va_P E.1 vwCl [(mR, aI E 60 f), (mo, .inr (5, [.ref mA, .ref mK, .ref mH, .int hy, .ref mS, .ref mV, .ref mF, .ref mP, .int (nI L), .int (nI (rnS P L sn (nI 15))), .int (rnN P L sn (nI 15)), .ref mR, .int (nI rm)])), (mP, aI E 80 P)] H := hP
      have hD : va_D A [(mR, aI E 60 f), (mo, .inr (5, [.ref mA, .ref mK, .ref mH, .int hy, .ref mS, .ref mV, .ref mF, .ref mP, .int (nI L), .int (nI (rnS P L sn (nI 15))), .int (rnN P L sn (nI 15)), .ref mR, .int (nI rm)])), (mP, aI E 80 P)] := hD
      refine lv_if_eq (tgt := 36) hx hb dX5_readsRoad_23 (by decide) (fun _ => ?_) (fun q => absurd q (by decide))
      refine lv_iconst (v := nI 0) hx hb dX5_readsRoad_36 (by decide) ?_
      have hP9 : va_P E.1 vwCl [(mo, .inr (5, [.ref mA, .ref mK, .ref mH, .int hy, .ref mS, .ref mV, .ref mF, .ref mP, .int (nI L), .int (nI (rnS P L sn (nI 15))), .int (rnN P L sn (nI 15)), .ref mR, .int (nI rm)])), (mP, aI E 80 P), (mR, aI E 60 f)] _ := hP.sub [1, 2, 0] rfl
      have hD9 : va_D A [(mo, .inr (5, [.ref mA, .ref mK, .ref mH, .int hy, .ref mS, .ref mV, .ref mF, .ref mP, .int (nI L), .int (nI (rnS P L sn (nI 15))), .int (rnN P L sn (nI 15)), .ref mR, .int (nI rm)])), (mP, aI E 80 P), (mR, aI E 60 f)] := hD.sub [1, 2, 0] (by decide) rfl
      have hW9 : ([(mo, .inr (5, [.ref mA, .ref mK, .ref mH, .int hy, .ref mS, .ref mV, .ref mF, .ref mP, .int (nI L), .int (nI (rnS P L sn (nI 15))), .int (rnN P L sn (nI 15)), .ref mR, .int (nI rm)])), (mP, aI E 80 P), (mR, aI E 60 f)] : va_W) = [(mo, .inr (5, [.ref mA, .ref mK, .ref mH, .int hy, .ref mS, .ref mV, .ref mF, .ref mP, .int (nI L), .int (nI ((rr P L sn nu).2.1)), .int ((rr P L sn nu).2.2.1), .ref mR, .int (nI (rrK P L sn rm nu))])), (mP, aI E 80 P), (mR, aI E 60 (rrF P L sn rm nu f))] := by have hr9 := rr_2 h1 h2 (nu := nu); rw [rrF, rrK, hr9]; simp only [Bool.false_eq_true, if_false]
      rw [hW9] at hP9 hD9
      exact ret_z hQ hx hb hr hlocks hP9 hD9 hS dX5_readsRoad_37 (nz_0) (by have hr9 := rr_2 h1 h2 (nu := nu); rw [hr9]; rfl)
    · refine kV_i (E := E) (As := [.int (nI 45)]) (rest := []) (wr := [(mR, aI E 60 f)]) ⟨hx, hb, hml, hown, hts⟩ (c_X5_takes_yes (l := l) (E := E) (sz := _) (mo := mo) (mA := mA) (mK := mK) (mH := mH) (mS := mS) (mV := mV) (mF := mF) (mP := mP) (mR := mR) (hy := hy) (L := L) (sn := rnS P L sn (nI 15)) (rm := rm) (nu := rnN P L sn (nI 15)) (P := P) (f := f) (x := nI 45) (gL := by first | assumption | omega) (gs := by first | assumption | omega) (gi := h2)) (cwV 1 hts gX5_readsRoad_X5_takes rfl rfl rfl (by decide +kernel) ⟨by rw [hR]; decide, by rw [hR]; decide⟩) hK hN hP hD hS hA [1, 2] [0] rfl (by decide) rfl (by decide) (by decide) 1 5 rfl rfl rfl hl.1 rfl (Nat.le_of_ble_eq_true rfl) dX5_readsRoad_20 ⟨Nat.zero_le _, Nat.zero_le _⟩ (fun H locs hP hD hS => ?_)
      have hP : va_P E.1 vwCl [(mR, aI E 60 f), (mo, .inr (5, [.ref mA, .ref mK, .ref mH, .int hy, .ref mS, .ref mV, .ref mF, .ref mP, .int (nI L), .int (nI ((rnS P L sn (nI 15)) + 1)), .int (rnN P L sn (nI 15)), .ref mR, .int (nI rm)])), (mP, aI E 80 P)] H := hP
      have hD : va_D A [(mR, aI E 60 f), (mo, .inr (5, [.ref mA, .ref mK, .ref mH, .int hy, .ref mS, .ref mV, .ref mF, .ref mP, .int (nI L), .int (nI ((rnS P L sn (nI 15)) + 1)), .int (rnN P L sn (nI 15)), .ref mR, .int (nI rm)])), (mP, aI E 80 P)] := hD
      refine lv_if_eq (tgt := 36) hx hb dX5_readsRoad_23 (by decide) (fun q => absurd q (by decide)) (fun _ => ?_)
      refine lv_aload_n hx hb dX5_readsRoad_26 rfl (lv_at hl 1 rfl) ?_
      refine lv_iconst (v := nI 0) hx hb dX5_readsRoad_27 (by decide) ?_
      refine lv_bipush (v := nI 15) hx hb dX5_readsRoad_28 (by decide) ?_
      have g2 := ihM_lt h2
      cases h3 : rnB P L ((rnS P L sn (nI 15)) + 1) 0
      · refine kV_i (E := E) (As := [.int (nI 0), .int (nI 15)]) (rest := []) (wr := [(mR, aI E 60 f)]) ⟨hx, hb, hml, hown, hts⟩ (c_X5_readsNumber_no (l := l) (E := E) (sz := _) (mo := mo) (mA := mA) (mK := mK) (mH := mH) (mS := mS) (mV := mV) (mF := mF) (mP := mP) (mR := mR) (hy := hy) (L := L) (sn := (rnS P L sn (nI 15)) + 1) (rm := rm) (nu := rnN P L sn (nI 15)) (P := P) (f := f) (le := 0) (mq := nI 15) (gL := by first | assumption | omega) (gs := by first | assumption | omega) (gi := h3)) (cwV 2 hts gX5_readsRoad_X5_readsNumber rfl rfl rfl (by decide +kernel) ⟨by rw [hR]; decide, by rw [hR]; decide⟩) hK hN hP hD hS hA [1, 2] [0] rfl (by decide) rfl (by decide) (by decide) 1 5 rfl rfl rfl hl.1 rfl (Nat.le_of_ble_eq_true rfl) dX5_readsRoad_30 ⟨Nat.zero_le _, Nat.zero_le _⟩ (fun H locs hP hD hS => ?_)
        have hP : va_P E.1 vwCl [(mR, aI E 60 f), (mo, .inr (5, [.ref mA, .ref mK, .ref mH, .int hy, .ref mS, .ref mV, .ref mF, .ref mP, .int (nI L), .int (nI ((rnS P L sn (nI 15)) + 1)), .int (rnN P L sn (nI 15)), .ref mR, .int (nI rm)])), (mP, aI E 80 P)] H := hP
        have hD : va_D A [(mR, aI E 60 f), (mo, .inr (5, [.ref mA, .ref mK, .ref mH, .int hy, .ref mS, .ref mV, .ref mF, .ref mP, .int (nI L), .int (nI ((rnS P L sn (nI 15)) + 1)), .int (rnN P L sn (nI 15)), .ref mR, .int (nI rm)])), (mP, aI E 80 P)] := hD
        refine lv_if_ne (tgt := 38) hx hb dX5_readsRoad_33 (by decide) (fun q => absurd q (by decide)) (fun _ => ?_)
        refine lv_iconst (v := nI 0) hx hb dX5_readsRoad_36 (by decide) ?_
        have hP9 : va_P E.1 vwCl [(mo, .inr (5, [.ref mA, .ref mK, .ref mH, .int hy, .ref mS, .ref mV, .ref mF, .ref mP, .int (nI L), .int (nI ((rnS P L sn (nI 15)) + 1)), .int (rnN P L sn (nI 15)), .ref mR, .int (nI rm)])), (mP, aI E 80 P), (mR, aI E 60 f)] _ := hP.sub [1, 2, 0] rfl
        have hD9 : va_D A [(mo, .inr (5, [.ref mA, .ref mK, .ref mH, .int hy, .ref mS, .ref mV, .ref mF, .ref mP, .int (nI L), .int (nI ((rnS P L sn (nI 15)) + 1)), .int (rnN P L sn (nI 15)), .ref mR, .int (nI rm)])), (mP, aI E 80 P), (mR, aI E 60 f)] := hD.sub [1, 2, 0] (by decide) rfl
        have hW9 : ([(mo, .inr (5, [.ref mA, .ref mK, .ref mH, .int hy, .ref mS, .ref mV, .ref mF, .ref mP, .int (nI L), .int (nI ((rnS P L sn (nI 15)) + 1)), .int (rnN P L sn (nI 15)), .ref mR, .int (nI rm)])), (mP, aI E 80 P), (mR, aI E 60 f)] : va_W) = [(mo, .inr (5, [.ref mA, .ref mK, .ref mH, .int hy, .ref mS, .ref mV, .ref mF, .ref mP, .int (nI L), .int (nI ((rr P L sn nu).2.1)), .int ((rr P L sn nu).2.2.1), .ref mR, .int (nI (rrK P L sn rm nu))])), (mP, aI E 80 P), (mR, aI E 60 (rrF P L sn rm nu f))] := by have hr9 := rr_3 h1 h2 h3 (nu := nu); rw [rrF, rrK, hr9]; simp only [Bool.false_eq_true, if_false]
        rw [hW9] at hP9 hD9
        exact ret_z hQ hx hb hr hlocks hP9 hD9 hS dX5_readsRoad_37 (nz_0) (by have hr9 := rr_3 h1 h2 h3 (nu := nu); rw [hr9]; rfl)
      · refine kV_i (E := E) (As := [.int (nI 0), .int (nI 15)]) (rest := []) (wr := [(mR, aI E 60 f)]) ⟨hx, hb, hml, hown, hts⟩ (c_X5_readsNumber_yes (l := l) (E := E) (sz := _) (mo := mo) (mA := mA) (mK := mK) (mH := mH) (mS := mS) (mV := mV) (mF := mF) (mP := mP) (mR := mR) (hy := hy) (L := L) (sn := (rnS P L sn (nI 15)) + 1) (rm := rm) (nu := rnN P L sn (nI 15)) (P := P) (f := f) (le := 0) (mq := nI 15) (gL := by first | assumption | omega) (gs := by first | assumption | omega) (gi := h3)) (cwV 2 hts gX5_readsRoad_X5_readsNumber rfl rfl rfl (by decide +kernel) ⟨by rw [hR]; decide, by rw [hR]; decide⟩) hK hN hP hD hS hA [1, 2] [0] rfl (by decide) rfl (by decide) (by decide) 1 5 rfl rfl rfl hl.1 rfl (Nat.le_of_ble_eq_true rfl) dX5_readsRoad_30 ⟨Nat.zero_le _, Nat.zero_le _⟩ (fun H locs hP hD hS => ?_)
        have hP : va_P E.1 vwCl [(mR, aI E 60 f), (mo, .inr (5, [.ref mA, .ref mK, .ref mH, .int hy, .ref mS, .ref mV, .ref mF, .ref mP, .int (nI L), .int (nI (rnS P L ((rnS P L sn (nI 15)) + 1) (nI 15))), .int (rnN P L ((rnS P L sn (nI 15)) + 1) (nI 15)), .ref mR, .int (nI rm)])), (mP, aI E 80 P)] H := hP
        have hD : va_D A [(mR, aI E 60 f), (mo, .inr (5, [.ref mA, .ref mK, .ref mH, .int hy, .ref mS, .ref mV, .ref mF, .ref mP, .int (nI L), .int (nI (rnS P L ((rnS P L sn (nI 15)) + 1) (nI 15))), .int (rnN P L ((rnS P L sn (nI 15)) + 1) (nI 15)), .ref mR, .int (nI rm)])), (mP, aI E 80 P)] := hD
        refine lv_if_ne (tgt := 38) hx hb dX5_readsRoad_33 (by decide) (fun _ => ?_) (fun q => absurd q (by decide))
        refine lv_aload_n hx hb dX5_readsRoad_38 rfl (lv_at hl 1 rfl) ?_
        refine rk_get (ci := 5) (C := RX5) (T := TX5) (N := 13) hx hb hts iw_X5_readsRoad_5 hown hK hP 1 rfl rfl 10 (by decide) fl_X5_readsRoad_163 rfl (v := .int (rnN P L ((rnS P L sn (nI 15)) + 1) (nI 15))) rfl dX5_readsRoad_39 ?_
        refine lv_istore_n (lv' := [(2, .int (rnN P L ((rnS P L sn (nI 15)) + 1) (nI 15))), (1, .int (rnN P L sn (nI 15))), (0, .ref mo)]) hx hb dX5_readsRoad_42 rfl hl (by decide) rfl (fun ls hl => ?_)
        refine lv_aload_n hx hb dX5_readsRoad_43 rfl (lv_at hl 2 rfl) ?_
        refine lv_bipush (v := nI 58) hx hb dX5_readsRoad_44 (by decide) ?_
        have g3 := rnS_b (mo9 := nI 15) h3
        cases h4 : ihM P L (rnS P L ((rnS P L sn (nI 15)) + 1) (nI 15)) (nI 58) (nI 58)
        · refine kV_i (E := E) (As := [.int (nI 58)]) (rest := []) (wr := [(mR, aI E 60 f)]) ⟨hx, hb, hml, hown, hts⟩ (c_X5_takes_no (l := l) (E := E) (sz := _) (mo := mo) (mA := mA) (mK := mK) (mH := mH) (mS := mS) (mV := mV) (mF := mF) (mP := mP) (mR := mR) (hy := hy) (L := L) (sn := rnS P L ((rnS P L sn (nI 15)) + 1) (nI 15)) (rm := rm) (nu := rnN P L ((rnS P L sn (nI 15)) + 1) (nI 15)) (P := P) (f := f) (x := nI 58) (gL := by first | assumption | omega) (gs := by first | assumption | omega) (gi := h4)) (cwV 1 hts gX5_readsRoad_X5_takes rfl rfl rfl (by decide +kernel) ⟨by rw [hR]; decide, by rw [hR]; decide⟩) hK hN hP hD hS hA [1, 2] [0] rfl (by decide) rfl (by decide) (by decide) 1 5 rfl rfl rfl hl.1 rfl (Nat.le_of_ble_eq_true rfl) dX5_readsRoad_46 ⟨Nat.zero_le _, Nat.zero_le _⟩ (fun H locs hP hD hS => ?_)
          have hP : va_P E.1 vwCl [(mR, aI E 60 f), (mo, .inr (5, [.ref mA, .ref mK, .ref mH, .int hy, .ref mS, .ref mV, .ref mF, .ref mP, .int (nI L), .int (nI (rnS P L ((rnS P L sn (nI 15)) + 1) (nI 15))), .int (rnN P L ((rnS P L sn (nI 15)) + 1) (nI 15)), .ref mR, .int (nI rm)])), (mP, aI E 80 P)] H := hP
          have hD : va_D A [(mR, aI E 60 f), (mo, .inr (5, [.ref mA, .ref mK, .ref mH, .int hy, .ref mS, .ref mV, .ref mF, .ref mP, .int (nI L), .int (nI (rnS P L ((rnS P L sn (nI 15)) + 1) (nI 15))), .int (rnN P L ((rnS P L sn (nI 15)) + 1) (nI 15)), .ref mR, .int (nI rm)])), (mP, aI E 80 P)] := hD
          refine lv_if_eq (tgt := 62) hx hb dX5_readsRoad_49 (by decide) (fun _ => ?_) (fun q => absurd q (by decide))
          refine lv_iconst (v := nI 0) hx hb dX5_readsRoad_62 (by decide) ?_
          have hP9 : va_P E.1 vwCl [(mo, .inr (5, [.ref mA, .ref mK, .ref mH, .int hy, .ref mS, .ref mV, .ref mF, .ref mP, .int (nI L), .int (nI (rnS P L ((rnS P L sn (nI 15)) + 1) (nI 15))), .int (rnN P L ((rnS P L sn (nI 15)) + 1) (nI 15)), .ref mR, .int (nI rm)])), (mP, aI E 80 P), (mR, aI E 60 f)] _ := hP.sub [1, 2, 0] rfl
          have hD9 : va_D A [(mo, .inr (5, [.ref mA, .ref mK, .ref mH, .int hy, .ref mS, .ref mV, .ref mF, .ref mP, .int (nI L), .int (nI (rnS P L ((rnS P L sn (nI 15)) + 1) (nI 15))), .int (rnN P L ((rnS P L sn (nI 15)) + 1) (nI 15)), .ref mR, .int (nI rm)])), (mP, aI E 80 P), (mR, aI E 60 f)] := hD.sub [1, 2, 0] (by decide) rfl
          have hW9 : ([(mo, .inr (5, [.ref mA, .ref mK, .ref mH, .int hy, .ref mS, .ref mV, .ref mF, .ref mP, .int (nI L), .int (nI (rnS P L ((rnS P L sn (nI 15)) + 1) (nI 15))), .int (rnN P L ((rnS P L sn (nI 15)) + 1) (nI 15)), .ref mR, .int (nI rm)])), (mP, aI E 80 P), (mR, aI E 60 f)] : va_W) = [(mo, .inr (5, [.ref mA, .ref mK, .ref mH, .int hy, .ref mS, .ref mV, .ref mF, .ref mP, .int (nI L), .int (nI ((rr P L sn nu).2.1)), .int ((rr P L sn nu).2.2.1), .ref mR, .int (nI (rrK P L sn rm nu))])), (mP, aI E 80 P), (mR, aI E 60 (rrF P L sn rm nu f))] := by have hr9 := rr_4 h1 h2 h3 h4 (nu := nu); rw [rrF, rrK, hr9]; simp only [Bool.false_eq_true, if_false]
          rw [hW9] at hP9 hD9
          exact ret_z hQ hx hb hr hlocks hP9 hD9 hS dX5_readsRoad_63 (nz_0) (by have hr9 := rr_4 h1 h2 h3 h4 (nu := nu); rw [hr9]; rfl)
        · refine kV_i (E := E) (As := [.int (nI 58)]) (rest := []) (wr := [(mR, aI E 60 f)]) ⟨hx, hb, hml, hown, hts⟩ (c_X5_takes_yes (l := l) (E := E) (sz := _) (mo := mo) (mA := mA) (mK := mK) (mH := mH) (mS := mS) (mV := mV) (mF := mF) (mP := mP) (mR := mR) (hy := hy) (L := L) (sn := rnS P L ((rnS P L sn (nI 15)) + 1) (nI 15)) (rm := rm) (nu := rnN P L ((rnS P L sn (nI 15)) + 1) (nI 15)) (P := P) (f := f) (x := nI 58) (gL := by first | assumption | omega) (gs := by first | assumption | omega) (gi := h4)) (cwV 1 hts gX5_readsRoad_X5_takes rfl rfl rfl (by decide +kernel) ⟨by rw [hR]; decide, by rw [hR]; decide⟩) hK hN hP hD hS hA [1, 2] [0] rfl (by decide) rfl (by decide) (by decide) 1 5 rfl rfl rfl hl.1 rfl (Nat.le_of_ble_eq_true rfl) dX5_readsRoad_46 ⟨Nat.zero_le _, Nat.zero_le _⟩ (fun H locs hP hD hS => ?_)
          have hP : va_P E.1 vwCl [(mR, aI E 60 f), (mo, .inr (5, [.ref mA, .ref mK, .ref mH, .int hy, .ref mS, .ref mV, .ref mF, .ref mP, .int (nI L), .int (nI ((rnS P L ((rnS P L sn (nI 15)) + 1) (nI 15)) + 1)), .int (rnN P L ((rnS P L sn (nI 15)) + 1) (nI 15)), .ref mR, .int (nI rm)])), (mP, aI E 80 P)] H := hP
          have hD : va_D A [(mR, aI E 60 f), (mo, .inr (5, [.ref mA, .ref mK, .ref mH, .int hy, .ref mS, .ref mV, .ref mF, .ref mP, .int (nI L), .int (nI ((rnS P L ((rnS P L sn (nI 15)) + 1) (nI 15)) + 1)), .int (rnN P L ((rnS P L sn (nI 15)) + 1) (nI 15)), .ref mR, .int (nI rm)])), (mP, aI E 80 P)] := hD
          refine lv_if_eq (tgt := 62) hx hb dX5_readsRoad_49 (by decide) (fun q => absurd q (by decide)) (fun _ => ?_)
          refine lv_aload_n hx hb dX5_readsRoad_52 rfl (lv_at hl 2 rfl) ?_
          refine lv_iconst (v := nI 1) hx hb dX5_readsRoad_53 (by decide) ?_
          refine lv_bipush (v := nI 99) hx hb dX5_readsRoad_54 (by decide) ?_
          have g4 := ihM_lt h4
          cases h5 : rnB P L ((rnS P L ((rnS P L sn (nI 15)) + 1) (nI 15)) + 1) 1
          · refine kV_i (E := E) (As := [.int (nI 1), .int (nI 99)]) (rest := []) (wr := [(mR, aI E 60 f)]) ⟨hx, hb, hml, hown, hts⟩ (c_X5_readsNumber_no (l := l) (E := E) (sz := _) (mo := mo) (mA := mA) (mK := mK) (mH := mH) (mS := mS) (mV := mV) (mF := mF) (mP := mP) (mR := mR) (hy := hy) (L := L) (sn := (rnS P L ((rnS P L sn (nI 15)) + 1) (nI 15)) + 1) (rm := rm) (nu := rnN P L ((rnS P L sn (nI 15)) + 1) (nI 15)) (P := P) (f := f) (le := 1) (mq := nI 99) (gL := by first | assumption | omega) (gs := by first | assumption | omega) (gi := h5)) (cwV 2 hts gX5_readsRoad_X5_readsNumber rfl rfl rfl (by decide +kernel) ⟨by rw [hR]; decide, by rw [hR]; decide⟩) hK hN hP hD hS hA [1, 2] [0] rfl (by decide) rfl (by decide) (by decide) 1 5 rfl rfl rfl hl.1 rfl (Nat.le_of_ble_eq_true rfl) dX5_readsRoad_56 ⟨Nat.zero_le _, Nat.zero_le _⟩ (fun H locs hP hD hS => ?_)
            have hP : va_P E.1 vwCl [(mR, aI E 60 f), (mo, .inr (5, [.ref mA, .ref mK, .ref mH, .int hy, .ref mS, .ref mV, .ref mF, .ref mP, .int (nI L), .int (nI ((rnS P L ((rnS P L sn (nI 15)) + 1) (nI 15)) + 1)), .int (rnN P L ((rnS P L sn (nI 15)) + 1) (nI 15)), .ref mR, .int (nI rm)])), (mP, aI E 80 P)] H := hP
            have hD : va_D A [(mR, aI E 60 f), (mo, .inr (5, [.ref mA, .ref mK, .ref mH, .int hy, .ref mS, .ref mV, .ref mF, .ref mP, .int (nI L), .int (nI ((rnS P L ((rnS P L sn (nI 15)) + 1) (nI 15)) + 1)), .int (rnN P L ((rnS P L sn (nI 15)) + 1) (nI 15)), .ref mR, .int (nI rm)])), (mP, aI E 80 P)] := hD
            refine lv_if_ne (tgt := 64) hx hb dX5_readsRoad_59 (by decide) (fun q => absurd q (by decide)) (fun _ => ?_)
            refine lv_iconst (v := nI 0) hx hb dX5_readsRoad_62 (by decide) ?_
            have hP9 : va_P E.1 vwCl [(mo, .inr (5, [.ref mA, .ref mK, .ref mH, .int hy, .ref mS, .ref mV, .ref mF, .ref mP, .int (nI L), .int (nI ((rnS P L ((rnS P L sn (nI 15)) + 1) (nI 15)) + 1)), .int (rnN P L ((rnS P L sn (nI 15)) + 1) (nI 15)), .ref mR, .int (nI rm)])), (mP, aI E 80 P), (mR, aI E 60 f)] _ := hP.sub [1, 2, 0] rfl
            have hD9 : va_D A [(mo, .inr (5, [.ref mA, .ref mK, .ref mH, .int hy, .ref mS, .ref mV, .ref mF, .ref mP, .int (nI L), .int (nI ((rnS P L ((rnS P L sn (nI 15)) + 1) (nI 15)) + 1)), .int (rnN P L ((rnS P L sn (nI 15)) + 1) (nI 15)), .ref mR, .int (nI rm)])), (mP, aI E 80 P), (mR, aI E 60 f)] := hD.sub [1, 2, 0] (by decide) rfl
            have hW9 : ([(mo, .inr (5, [.ref mA, .ref mK, .ref mH, .int hy, .ref mS, .ref mV, .ref mF, .ref mP, .int (nI L), .int (nI ((rnS P L ((rnS P L sn (nI 15)) + 1) (nI 15)) + 1)), .int (rnN P L ((rnS P L sn (nI 15)) + 1) (nI 15)), .ref mR, .int (nI rm)])), (mP, aI E 80 P), (mR, aI E 60 f)] : va_W) = [(mo, .inr (5, [.ref mA, .ref mK, .ref mH, .int hy, .ref mS, .ref mV, .ref mF, .ref mP, .int (nI L), .int (nI ((rr P L sn nu).2.1)), .int ((rr P L sn nu).2.2.1), .ref mR, .int (nI (rrK P L sn rm nu))])), (mP, aI E 80 P), (mR, aI E 60 (rrF P L sn rm nu f))] := by have hr9 := rr_5 h1 h2 h3 h4 h5 (nu := nu); rw [rrF, rrK, hr9]; simp only [Bool.false_eq_true, if_false]
            rw [hW9] at hP9 hD9
            exact ret_z hQ hx hb hr hlocks hP9 hD9 hS dX5_readsRoad_63 (nz_0) (by have hr9 := rr_5 h1 h2 h3 h4 h5 (nu := nu); rw [hr9]; rfl)
          · refine kV_i (E := E) (As := [.int (nI 1), .int (nI 99)]) (rest := []) (wr := [(mR, aI E 60 f)]) ⟨hx, hb, hml, hown, hts⟩ (c_X5_readsNumber_yes (l := l) (E := E) (sz := _) (mo := mo) (mA := mA) (mK := mK) (mH := mH) (mS := mS) (mV := mV) (mF := mF) (mP := mP) (mR := mR) (hy := hy) (L := L) (sn := (rnS P L ((rnS P L sn (nI 15)) + 1) (nI 15)) + 1) (rm := rm) (nu := rnN P L ((rnS P L sn (nI 15)) + 1) (nI 15)) (P := P) (f := f) (le := 1) (mq := nI 99) (gL := by first | assumption | omega) (gs := by first | assumption | omega) (gi := h5)) (cwV 2 hts gX5_readsRoad_X5_readsNumber rfl rfl rfl (by decide +kernel) ⟨by rw [hR]; decide, by rw [hR]; decide⟩) hK hN hP hD hS hA [1, 2] [0] rfl (by decide) rfl (by decide) (by decide) 1 5 rfl rfl rfl hl.1 rfl (Nat.le_of_ble_eq_true rfl) dX5_readsRoad_56 ⟨Nat.zero_le _, Nat.zero_le _⟩ (fun H locs hP hD hS => ?_)
            have hP : va_P E.1 vwCl [(mR, aI E 60 f), (mo, .inr (5, [.ref mA, .ref mK, .ref mH, .int hy, .ref mS, .ref mV, .ref mF, .ref mP, .int (nI L), .int (nI (rnS P L ((rnS P L ((rnS P L sn (nI 15)) + 1) (nI 15)) + 1) (nI 99))), .int (rnN P L ((rnS P L ((rnS P L sn (nI 15)) + 1) (nI 15)) + 1) (nI 99)), .ref mR, .int (nI rm)])), (mP, aI E 80 P)] H := hP
            have hD : va_D A [(mR, aI E 60 f), (mo, .inr (5, [.ref mA, .ref mK, .ref mH, .int hy, .ref mS, .ref mV, .ref mF, .ref mP, .int (nI L), .int (nI (rnS P L ((rnS P L ((rnS P L sn (nI 15)) + 1) (nI 15)) + 1) (nI 99))), .int (rnN P L ((rnS P L ((rnS P L sn (nI 15)) + 1) (nI 15)) + 1) (nI 99)), .ref mR, .int (nI rm)])), (mP, aI E 80 P)] := hD
            refine lv_if_ne (tgt := 64) hx hb dX5_readsRoad_59 (by decide) (fun _ => ?_) (fun q => absurd q (by decide))
            refine lv_aload_n hx hb dX5_readsRoad_64 rfl (lv_at hl 2 rfl) ?_
            refine rk_get (ci := 5) (C := RX5) (T := TX5) (N := 13) hx hb hts iw_X5_readsRoad_5 hown hK hP 1 rfl rfl 11 (by decide) fl_X5_readsRoad_31 rfl (v := .ref mR) rfl dX5_readsRoad_65 ?_
            refine lv_iconst (v := nI 3) hx hb dX5_readsRoad_68 (by decide) ?_
            refine lv_aload_n hx hb dX5_readsRoad_69 rfl (lv_at hl 2 rfl) ?_
            refine rk_get (ci := 5) (C := RX5) (T := TX5) (N := 13) hx hb hts iw_X5_readsRoad_5 hown hK hP 1 rfl rfl 12 (by decide) fl_X5_readsRoad_172 rfl (v := .int (nI rm)) rfl dX5_readsRoad_70 ?_
            refine rk_imulN hx hb dX5_readsRoad_73 ?_
            refine lv_iload_n hx hb dX5_readsRoad_74 rfl (lv_at hl 1 rfl) ?_
            refine rk_iast hx hb hK hP hD hS 0 rfl (by omega) (by omega) (ws' := [(mR, aI E 60 (upd f (3 * rm) (rnN P L sn (nI 15)))), (mo, .inr (5, [.ref mA, .ref mK, .ref mH, .int hy, .ref mS, .ref mV, .ref mF, .ref mP, .int (nI L), .int (nI (rnS P L ((rnS P L ((rnS P L sn (nI 15)) + 1) (nI 15)) + 1) (nI 99))), .int (rnN P L ((rnS P L ((rnS P L sn (nI 15)) + 1) (nI 15)) + 1) (nI 99)), .ref mR, .int (nI rm)])), (mP, aI E 80 P)]) rfl dX5_readsRoad_75 (fun H locs hP hD hS => ?_)
            refine lv_aload_n hx hb dX5_readsRoad_76 rfl (lv_at hl 2 rfl) ?_
            refine rk_get (ci := 5) (C := RX5) (T := TX5) (N := 13) hx hb hts iw_X5_readsRoad_5 hown hK hP 1 rfl rfl 11 (by decide) fl_X5_readsRoad_31 rfl (v := .ref mR) rfl dX5_readsRoad_77 ?_
            refine lv_iconst (v := nI 3) hx hb dX5_readsRoad_80 (by decide) ?_
            refine lv_aload_n hx hb dX5_readsRoad_81 rfl (lv_at hl 2 rfl) ?_
            refine rk_get (ci := 5) (C := RX5) (T := TX5) (N := 13) hx hb hts iw_X5_readsRoad_5 hown hK hP 1 rfl rfl 12 (by decide) fl_X5_readsRoad_172 rfl (v := .int (nI rm)) rfl dX5_readsRoad_82 ?_
            refine rk_imulN hx hb dX5_readsRoad_85 ?_
            refine lv_iconst (v := nI 1) hx hb dX5_readsRoad_86 (by decide) ?_
            refine rk_iaddN hx hb dX5_readsRoad_87 ?_
            refine lv_iload_n hx hb dX5_readsRoad_88 rfl (lv_at hl 0 rfl) ?_
            refine rk_iast hx hb hK hP hD hS 0 rfl (by omega) (by omega) (ws' := [(mR, aI E 60 (upd (upd f (3 * rm) (rnN P L sn (nI 15))) ((3 * rm) + 1) (rnN P L ((rnS P L sn (nI 15)) + 1) (nI 15)))), (mo, .inr (5, [.ref mA, .ref mK, .ref mH, .int hy, .ref mS, .ref mV, .ref mF, .ref mP, .int (nI L), .int (nI (rnS P L ((rnS P L ((rnS P L sn (nI 15)) + 1) (nI 15)) + 1) (nI 99))), .int (rnN P L ((rnS P L ((rnS P L sn (nI 15)) + 1) (nI 15)) + 1) (nI 99)), .ref mR, .int (nI rm)])), (mP, aI E 80 P)]) rfl dX5_readsRoad_89 (fun H locs hP hD hS => ?_)
            refine lv_aload_n hx hb dX5_readsRoad_90 rfl (lv_at hl 2 rfl) ?_
            refine rk_get (ci := 5) (C := RX5) (T := TX5) (N := 13) hx hb hts iw_X5_readsRoad_5 hown hK hP 1 rfl rfl 11 (by decide) fl_X5_readsRoad_31 rfl (v := .ref mR) rfl dX5_readsRoad_91 ?_
            refine lv_iconst (v := nI 3) hx hb dX5_readsRoad_94 (by decide) ?_
            refine lv_aload_n hx hb dX5_readsRoad_95 rfl (lv_at hl 2 rfl) ?_
            refine rk_get (ci := 5) (C := RX5) (T := TX5) (N := 13) hx hb hts iw_X5_readsRoad_5 hown hK hP 1 rfl rfl 12 (by decide) fl_X5_readsRoad_172 rfl (v := .int (nI rm)) rfl dX5_readsRoad_96 ?_
            refine rk_imulN hx hb dX5_readsRoad_99 ?_
            refine lv_iconst (v := nI 2) hx hb dX5_readsRoad_100 (by decide) ?_
            refine rk_iaddN hx hb dX5_readsRoad_101 ?_
            refine lv_aload_n hx hb dX5_readsRoad_102 rfl (lv_at hl 2 rfl) ?_
            refine rk_get (ci := 5) (C := RX5) (T := TX5) (N := 13) hx hb hts iw_X5_readsRoad_5 hown hK hP 1 rfl rfl 10 (by decide) fl_X5_readsRoad_163 rfl (v := .int (rnN P L ((rnS P L ((rnS P L sn (nI 15)) + 1) (nI 15)) + 1) (nI 99))) rfl dX5_readsRoad_103 ?_
            refine rk_iast hx hb hK hP hD hS 0 rfl (by omega) (by omega) (ws' := [(mR, aI E 60 (upd (upd (upd f (3 * rm) (rnN P L sn (nI 15))) ((3 * rm) + 1) (rnN P L ((rnS P L sn (nI 15)) + 1) (nI 15))) ((3 * rm) + 2) (rnN P L ((rnS P L ((rnS P L sn (nI 15)) + 1) (nI 15)) + 1) (nI 99)))), (mo, .inr (5, [.ref mA, .ref mK, .ref mH, .int hy, .ref mS, .ref mV, .ref mF, .ref mP, .int (nI L), .int (nI (rnS P L ((rnS P L ((rnS P L sn (nI 15)) + 1) (nI 15)) + 1) (nI 99))), .int (rnN P L ((rnS P L ((rnS P L sn (nI 15)) + 1) (nI 15)) + 1) (nI 99)), .ref mR, .int (nI rm)])), (mP, aI E 80 P)]) rfl dX5_readsRoad_106 (fun H locs hP hD hS => ?_)
            refine lv_aload_n hx hb dX5_readsRoad_107 rfl (lv_at hl 2 rfl) ?_
            refine lv_dup hx hb dX5_readsRoad_108 rfl ?_
            refine rk_get (ci := 5) (C := RX5) (T := TX5) (N := 13) hx hb hts iw_X5_readsRoad_5 hown hK hP 1 rfl rfl 12 (by decide) fl_X5_readsRoad_172 rfl (v := .int (nI rm)) rfl dX5_readsRoad_109 ?_
            refine lv_iconst (v := nI 1) hx hb dX5_readsRoad_112 (by decide) ?_
            refine rk_iaddN hx hb dX5_readsRoad_113 ?_
            refine rk_put (ci := 5) (C := RX5) (T := TX5) (N := 13) hx hb hts iw_X5_readsRoad_5 tyX5 tyX5_ok nmX5 hown hK hP hD hS 1 rfl rfl 12 (by decide) fl_X5_readsRoad_172 rfl rfl (tyX5_ok 12 (by decide)) rfl rfl (Nat.le_of_ble_eq_true rfl) (ws' := [(mR, aI E 60 (upd (upd (upd f (3 * rm) (rnN P L sn (nI 15))) ((3 * rm) + 1) (rnN P L ((rnS P L sn (nI 15)) + 1) (nI 15))) ((3 * rm) + 2) (rnN P L ((rnS P L ((rnS P L sn (nI 15)) + 1) (nI 15)) + 1) (nI 99)))), (mo, .inr (5, [.ref mA, .ref mK, .ref mH, .int hy, .ref mS, .ref mV, .ref mF, .ref mP, .int (nI L), .int (nI (rnS P L ((rnS P L ((rnS P L sn (nI 15)) + 1) (nI 15)) + 1) (nI 99))), .int (rnN P L ((rnS P L ((rnS P L sn (nI 15)) + 1) (nI 15)) + 1) (nI 99)), .ref mR, .int (nI (rm + 1))])), (mP, aI E 80 P)]) rfl dX5_readsRoad_114 (fun H locs hP hD hS => ?_)
            refine lv_iconst (v := nI 1) hx hb dX5_readsRoad_117 (by decide) ?_
            have hP9 : va_P E.1 vwCl [(mo, .inr (5, [.ref mA, .ref mK, .ref mH, .int hy, .ref mS, .ref mV, .ref mF, .ref mP, .int (nI L), .int (nI (rnS P L ((rnS P L ((rnS P L sn (nI 15)) + 1) (nI 15)) + 1) (nI 99))), .int (rnN P L ((rnS P L ((rnS P L sn (nI 15)) + 1) (nI 15)) + 1) (nI 99)), .ref mR, .int (nI (rm + 1))])), (mP, aI E 80 P), (mR, aI E 60 (upd (upd (upd f (3 * rm) (rnN P L sn (nI 15))) ((3 * rm) + 1) (rnN P L ((rnS P L sn (nI 15)) + 1) (nI 15))) ((3 * rm) + 2) (rnN P L ((rnS P L ((rnS P L sn (nI 15)) + 1) (nI 15)) + 1) (nI 99))))] _ := hP.sub [1, 2, 0] rfl
            have hD9 : va_D A [(mo, .inr (5, [.ref mA, .ref mK, .ref mH, .int hy, .ref mS, .ref mV, .ref mF, .ref mP, .int (nI L), .int (nI (rnS P L ((rnS P L ((rnS P L sn (nI 15)) + 1) (nI 15)) + 1) (nI 99))), .int (rnN P L ((rnS P L ((rnS P L sn (nI 15)) + 1) (nI 15)) + 1) (nI 99)), .ref mR, .int (nI (rm + 1))])), (mP, aI E 80 P), (mR, aI E 60 (upd (upd (upd f (3 * rm) (rnN P L sn (nI 15))) ((3 * rm) + 1) (rnN P L ((rnS P L sn (nI 15)) + 1) (nI 15))) ((3 * rm) + 2) (rnN P L ((rnS P L ((rnS P L sn (nI 15)) + 1) (nI 15)) + 1) (nI 99))))] := hD.sub [1, 2, 0] (by decide) rfl
            have hW9 : ([(mo, .inr (5, [.ref mA, .ref mK, .ref mH, .int hy, .ref mS, .ref mV, .ref mF, .ref mP, .int (nI L), .int (nI (rnS P L ((rnS P L ((rnS P L sn (nI 15)) + 1) (nI 15)) + 1) (nI 99))), .int (rnN P L ((rnS P L ((rnS P L sn (nI 15)) + 1) (nI 15)) + 1) (nI 99)), .ref mR, .int (nI (rm + 1))])), (mP, aI E 80 P), (mR, aI E 60 (upd (upd (upd f (3 * rm) (rnN P L sn (nI 15))) ((3 * rm) + 1) (rnN P L ((rnS P L sn (nI 15)) + 1) (nI 15))) ((3 * rm) + 2) (rnN P L ((rnS P L ((rnS P L sn (nI 15)) + 1) (nI 15)) + 1) (nI 99))))] : va_W) = [(mo, .inr (5, [.ref mA, .ref mK, .ref mH, .int hy, .ref mS, .ref mV, .ref mF, .ref mP, .int (nI L), .int (nI ((rr P L sn nu).2.1)), .int ((rr P L sn nu).2.2.1), .ref mR, .int (nI (rrK P L sn rm nu))])), (mP, aI E 80 P), (mR, aI E 60 (rrF P L sn rm nu f))] := by have hr9 := rr_6 h1 h2 h3 h4 h5 (nu := nu); rw [rrF, rrK, hr9]; rw [if_pos rfl, if_pos rfl]
            rw [hW9] at hP9 hD9
            exact ret_z hQ hx hb hr hlocks hP9 hD9 hS dX5_readsRoad_118 (nz_1) (by have hr9 := rr_6 h1 h2 h3 h4 h5 (nu := nu); rw [hr9]; rfl)
theorem iw_X5_fault_5 : ∀ w ∈ u_ws RX5 TX5 13, w ∈ wsX5_fault := by decide +kernel
theorem fl_X5_fault_157 : Cond.fieldLink RX5 157 (TX5 9).1 (TX5 9).2.1 (TX5 9).2.2.1 ∈ wsX5_fault := by decide +kernel
theorem fl_X5_fault_172 : Cond.fieldLink RX5 172 (TX5 12).1 (TX5 12).2.1 (TX5 12).2.2.1 ∈ wsX5_fault := by decide +kernel
theorem fl_X5_fault_141 : Cond.fieldLink RX5 141 (TX5 8).1 (TX5 8).2.1 (TX5 8).2.2.1 ∈ wsX5_fault := by decide +kernel
set_option maxHeartbeats 400000 in
set_option maxRecDepth 100000 in
theorem c_X5_fault (l : Launch) (E : EE) (sz : Nat) (mo mA mK mH mS mV mF mP mR : Nat) (hy sp0 nu0 rm0 : Int32) (L : Nat) (P f0 : Nat → Int32) (gL : L ≤ 80) : Ci l yX5_fault wsX5_fault 4 91 E [.ref mo] [(mo, .inr (5, [.ref mA, .ref mK, .ref mH, .int hy, .ref mS, .ref mV, .ref mF, .ref mP, .int (nI L), .int sp0, .int nu0, .ref mR, .int rm0])), (mP, aI E 80 P), (mR, aI E 60 f0)] sz ((fgM P L (L + 1) 0 nu0 0 f0).1) [(mo, .inr (5, [.ref mA, .ref mK, .ref mH, .int hy, .ref mS, .ref mV, .ref mF, .ref mP, .int (nI L), .int (nI ((fgM P L (L + 1) 0 nu0 0 f0).2.1)), .int ((fgM P L (L + 1) 0 nu0 0 f0).2.2.1), .ref mR, .int (nI ((fgM P L (L + 1) 0 nu0 0 f0).2.2.2.1))])), (mP, aI E 80 P), (mR, aI E 60 ((fgM P L (L + 1) 0 nu0 0 f0).2.2.2.2))] := by
  refine C_of (QQ := QI E ((fgM P L (L + 1) 0 nu0 0 f0).1) [(mo, .inr (5, [.ref mA, .ref mK, .ref mH, .int hy, .ref mS, .ref mV, .ref mF, .ref mP, .int (nI L), .int (nI ((fgM P L (L + 1) 0 nu0 0 f0).2.1)), .int ((fgM P L (L + 1) 0 nu0 0 f0).2.2.1), .ref mR, .int (nI ((fgM P L (L + 1) 0 nu0 0 f0).2.2.2.1))])), (mP, aI E 80 P), (mR, aI E 60 ((fgM P L (L + 1) 0 nu0 0 f0).2.2.2.2))]) (cc := cX5_fault) (maxL := 2) (ret := (some .int)) (by decide +kernel) rfl (Nat.le_of_ble_eq_true rfl) ?_
  intro p e s m args below meth c A R Q ls hx hb hr hts hown hml hlocks hA hK hN hP hD hS hl hR hQ
  have hown : s.vm.findClass RX5 = some m.cls := hown
  have hl : lv_has ls 2 [(0, .ref mo)] := hl
  refine lv_aload_n hx hb dX5_fault_0 rfl (lv_at hl 0 rfl) ?_
  refine lv_iconst (v := nI 0) hx hb dX5_fault_1 (by decide) ?_
  refine rk_put (ci := 5) (C := RX5) (T := TX5) (N := 13) hx hb hts iw_X5_fault_5 tyX5 tyX5_ok nmX5 hown hK hP hD hS 0 rfl rfl 9 (by decide) fl_X5_fault_157 rfl rfl (tyX5_ok 9 (by decide)) rfl rfl (Nat.le_of_ble_eq_true rfl) (ws' := [(mo, .inr (5, [.ref mA, .ref mK, .ref mH, .int hy, .ref mS, .ref mV, .ref mF, .ref mP, .int (nI L), .int (nI 0), .int nu0, .ref mR, .int rm0])), (mP, aI E 80 P), (mR, aI E 60 f0)]) rfl dX5_fault_2 (fun H locs hP hD hS => ?_)
  refine lv_aload_n hx hb dX5_fault_5 rfl (lv_at hl 0 rfl) ?_
  refine lv_iconst (v := nI 0) hx hb dX5_fault_6 (by decide) ?_
  refine rk_put (ci := 5) (C := RX5) (T := TX5) (N := 13) hx hb hts iw_X5_fault_5 tyX5 tyX5_ok nmX5 hown hK hP hD hS 0 rfl rfl 12 (by decide) fl_X5_fault_172 rfl rfl (tyX5_ok 12 (by decide)) rfl rfl (Nat.le_of_ble_eq_true rfl) (ws' := [(mo, .inr (5, [.ref mA, .ref mK, .ref mH, .int hy, .ref mS, .ref mV, .ref mF, .ref mP, .int (nI L), .int (nI 0), .int nu0, .ref mR, .int (nI 0)])), (mP, aI E 80 P), (mR, aI E 60 f0)]) rfl dX5_fault_7 (fun H locs hP hD hS => ?_)
  refine lv_iconst (v := nI 1) hx hb dX5_fault_10 (by decide) ?_
  refine lv_istore_n (lv' := [(1, .int (nI 1)), (0, .ref mo)]) hx hb dX5_fault_11 rfl hl (by decide) rfl (fun ls hl => ?_)
  have L12 : ∀ (fu : Nat) (m9 sn rm : Nat) (nu : Int32) (f : Nat → Int32), (he : fgM P L (L + 1) 0 nu0 0 f0 = fgM P L m9 sn nu rm f) → (gs : sn ≤ L) → (gm : L < sn + m9) → (gr : 6 * rm ≤ sn) → m9 < fu → ∀ (H : Heap) (locs : List Loc), va_P E.1 vwCl [(mo, .inr (5, [.ref mA, .ref mK, .ref mH, .int hy, .ref mS, .ref mV, .ref mF, .ref mP, .int (nI L), .int (nI sn), .int nu, .ref mR, .int (nI rm)])), (mP, aI E 80 P), (mR, aI E 60 f)] H → va_D A [(mo, .inr (5, [.ref mA, .ref mK, .ref mH, .int hy, .ref mS, .ref mV, .ref mF, .ref mP, .int (nI L), .int (nI sn), .int nu, .ref mR, .int (nI rm)])), (mP, aI E 80 P), (mR, aI E 60 f)] → va_S A s.heap H locs → ∀ (ls : Array Slot), lv_has ls 2 [(1, .int (nI 1)), (0, .ref mo)] → W p l e R s m args below meth c H locs 0 0 Q (F0 m 12 ls []) := by
    intro fu
    induction fu with
    | zero => intro m9 sn rm nu f he gs gm gr hfu; exact absurd hfu (Nat.not_lt_zero _)
    | succ fu ih12 =>
      intro m9 sn rm nu f he gs gm gr hfu H locs hP hD hS ls hl
      obtain ⟨m8, rfl⟩ : ∃ m8, m9 = m8 + 1 := ⟨m9 - 1, by omega⟩
      refine lv_iload_n hx hb dX5_fault_12 rfl (lv_at hl 0 rfl) ?_
      refine lv_if_eq (tgt := 38) hx hb dX5_fault_13 (by decide) (fun q => absurd q (by decide)) (fun _ => ?_)
      refine lv_aload_n hx hb dX5_fault_16 rfl (lv_at hl 1 rfl) ?_
      refine kV_i (E := E) (As := []) (rest := []) (wr := []) ⟨hx, hb, hml, hown, hts⟩ (c_X5_readsRoad (l := l) (E := E) (sz := _) (mo := mo) (mA := mA) (mK := mK) (mH := mH) (mS := mS) (mV := mV) (mF := mF) (mP := mP) (mR := mR) (hy := hy) (L := L) (sn := sn) (rm := rm) (nu := nu) (P := P) (f := f) (gL := by first | assumption | omega) (gs := by first | assumption | omega) (gr := by first | assumption | omega)) (cwV 0 hts gX5_fault_X5_readsRoad rfl rfl rfl (by decide +kernel) ⟨by rw [hR]; decide, by rw [hR]; decide⟩) hK hN hP hD hS hA [0, 1, 2] [] rfl (by decide) rfl (by decide) (by decide) 0 5 rfl rfl rfl hl.1 rfl (Nat.le_of_ble_eq_true rfl) dX5_fault_17 ⟨Nat.zero_le _, Nat.zero_le _⟩ (fun H locs hP hD hS => ?_)
      have hP : va_P E.1 vwCl [(mo, .inr (5, [.ref mA, .ref mK, .ref mH, .int hy, .ref mS, .ref mV, .ref mF, .ref mP, .int (nI L), .int (nI ((rr P L sn nu).2.1)), .int ((rr P L sn nu).2.2.1), .ref mR, .int (nI (rrK P L sn rm nu))])), (mP, aI E 80 P), (mR, aI E 60 (rrF P L sn rm nu f))] H := hP
      have hD : va_D A [(mo, .inr (5, [.ref mA, .ref mK, .ref mH, .int hy, .ref mS, .ref mV, .ref mF, .ref mP, .int (nI L), .int (nI ((rr P L sn nu).2.1)), .int ((rr P L sn nu).2.2.1), .ref mR, .int (nI (rrK P L sn rm nu))])), (mP, aI E 80 P), (mR, aI E 60 (rrF P L sn rm nu f))] := hD
      refine rk_if_neB (tgt := 28) hx hb dX5_fault_20 (by decide) (fun zc20 => ?_) (fun zc20 => ?_)
      · refine lv_aload_n hx hb dX5_fault_28 rfl (lv_at hl 1 rfl) ?_
        refine lv_bipush (v := nI 59) hx hb dX5_fault_29 (by decide) ?_
        have g9 := rr_ok zc20
        cases h31 : ihM P L (rr P L sn nu).2.1 (nI 59) (nI 59)
        · refine kV_i (E := E) (As := [.int (nI 59)]) (rest := []) (wr := [(mR, aI E 60 (rrF P L sn rm nu f))]) ⟨hx, hb, hml, hown, hts⟩ (c_X5_takes_no (l := l) (E := E) (sz := _) (mo := mo) (mA := mA) (mK := mK) (mH := mH) (mS := mS) (mV := mV) (mF := mF) (mP := mP) (mR := mR) (hy := hy) (L := L) (sn := (rr P L sn nu).2.1) (rm := rrK P L sn rm nu) (nu := (rr P L sn nu).2.2.1) (P := P) (f := fun _ => 0) (x := nI 59) (gL := by first | assumption | omega) (gs := by first | assumption | omega) (gi := h31)) (cwV 1 hts gX5_fault_X5_takes rfl rfl rfl (by decide +kernel) ⟨by rw [hR]; decide, by rw [hR]; decide⟩) hK hN hP hD hS hA [0, 1] [2] rfl (by decide) rfl (by decide) (by decide) 0 5 rfl rfl rfl hl.1 rfl (Nat.le_of_ble_eq_true rfl) dX5_fault_31 ⟨Nat.zero_le _, Nat.zero_le _⟩ (fun H locs hP hD hS => ?_)
          have hP : va_P E.1 vwCl [(mR, aI E 60 (rrF P L sn rm nu f)), (mo, .inr (5, [.ref mA, .ref mK, .ref mH, .int hy, .ref mS, .ref mV, .ref mF, .ref mP, .int (nI L), .int (nI ((rr P L sn nu).2.1)), .int ((rr P L sn nu).2.2.1), .ref mR, .int (nI (rrK P L sn rm nu))])), (mP, aI E 80 P)] H := hP
          have hD : va_D A [(mR, aI E 60 (rrF P L sn rm nu f)), (mo, .inr (5, [.ref mA, .ref mK, .ref mH, .int hy, .ref mS, .ref mV, .ref mF, .ref mP, .int (nI L), .int (nI ((rr P L sn nu).2.1)), .int ((rr P L sn nu).2.2.1), .ref mR, .int (nI (rrK P L sn rm nu))])), (mP, aI E 80 P)] := hD
          refine lv_istore_n (lv' := [(1, .int (nI 0)), (0, .ref mo)]) hx hb dX5_fault_34 rfl hl (by decide) rfl (fun ls hl => ?_)
          refine lv_goto (tgt := 12) hx hb dX5_fault_35 (by decide) ?_
          refine lv_iload_n hx hb dX5_fault_12 rfl (lv_at hl 0 rfl) ?_
          refine lv_if_eq (tgt := 38) hx hb dX5_fault_13 (by decide) (fun _ => ?_) (fun q => absurd q (by decide))
          refine lv_aload_n hx hb dX5_fault_38 rfl (lv_at hl 1 rfl) ?_
          refine rk_get (ci := 5) (C := RX5) (T := TX5) (N := 13) hx hb hts iw_X5_fault_5 hown hK hP 1 rfl rfl 9 (by decide) fl_X5_fault_157 rfl (v := .int (nI ((rr P L sn nu).2.1))) rfl dX5_fault_39 ?_
          refine lv_aload_n hx hb dX5_fault_42 rfl (lv_at hl 1 rfl) ?_
          refine rk_get (ci := 5) (C := RX5) (T := TX5) (N := 13) hx hb hts iw_X5_fault_5 hown hK hP 1 rfl rfl 8 (by decide) fl_X5_fault_141 rfl (v := .int (nI L)) rfl dX5_fault_43 ?_
          refine rk_neN (tgt := 54) hx hb (by omega) (by omega) dX5_fault_46 (by decide) (fun zc46 => ?_) (fun zc46 => ?_)
          · refine lv_aload_n hx hb dX5_fault_54 rfl (lv_at hl 1 rfl) ?_
            refine rk_get (ci := 5) (C := RX5) (T := TX5) (N := 13) hx hb hts iw_X5_fault_5 hown hK hP 1 rfl rfl 9 (by decide) fl_X5_fault_157 rfl (v := .int (nI ((rr P L sn nu).2.1))) rfl dX5_fault_55 ?_
            have hP9 : va_P E.1 vwCl [(mo, .inr (5, [.ref mA, .ref mK, .ref mH, .int hy, .ref mS, .ref mV, .ref mF, .ref mP, .int (nI L), .int (nI ((rr P L sn nu).2.1)), .int ((rr P L sn nu).2.2.1), .ref mR, .int (nI (rrK P L sn rm nu))])), (mP, aI E 80 P), (mR, aI E 60 (rrF P L sn rm nu f))] _ := hP.sub [1, 2, 0] rfl
            have hD9 : va_D A [(mo, .inr (5, [.ref mA, .ref mK, .ref mH, .int hy, .ref mS, .ref mV, .ref mF, .ref mP, .int (nI L), .int (nI ((rr P L sn nu).2.1)), .int ((rr P L sn nu).2.2.1), .ref mR, .int (nI (rrK P L sn rm nu))])), (mP, aI E 80 P), (mR, aI E 60 (rrF P L sn rm nu f))] := hD.sub [1, 2, 0] (by decide) rfl
            have hW9 : ([(mo, .inr (5, [.ref mA, .ref mK, .ref mH, .int hy, .ref mS, .ref mV, .ref mF, .ref mP, .int (nI L), .int (nI ((rr P L sn nu).2.1)), .int ((rr P L sn nu).2.2.1), .ref mR, .int (nI (rrK P L sn rm nu))])), (mP, aI E 80 P), (mR, aI E 60 (rrF P L sn rm nu f))] : va_W) = [(mo, .inr (5, [.ref mA, .ref mK, .ref mH, .int hy, .ref mS, .ref mV, .ref mF, .ref mP, .int (nI L), .int (nI ((fgM P L (L + 1) 0 nu0 0 f0).2.1)), .int ((fgM P L (L + 1) 0 nu0 0 f0).2.2.1), .ref mR, .int (nI ((fgM P L (L + 1) 0 nu0 0 f0).2.2.2.1))])), (mP, aI E 80 P), (mR, aI E 60 ((fgM P L (L + 1) 0 nu0 0 f0).2.2.2.2))] := by rw [he, fgM_3 zc20 h31, rrK, if_pos zc20]
            rw [hW9] at hP9 hD9
            exact ret_i hQ hx hb hr hlocks hP9 hD9 hS dX5_fault_58 (by rw [he, fgM_3 zc20 h31]; exact (if_neg zc46).symm)
          · refine lv_bipush (v := (-6)) hx hb dX5_fault_49 (by decide) ?_
            refine lv_goto (tgt := 58) hx hb dX5_fault_51 (by decide) ?_
            have hP9 : va_P E.1 vwCl [(mo, .inr (5, [.ref mA, .ref mK, .ref mH, .int hy, .ref mS, .ref mV, .ref mF, .ref mP, .int (nI L), .int (nI ((rr P L sn nu).2.1)), .int ((rr P L sn nu).2.2.1), .ref mR, .int (nI (rrK P L sn rm nu))])), (mP, aI E 80 P), (mR, aI E 60 (rrF P L sn rm nu f))] _ := hP.sub [1, 2, 0] rfl
            have hD9 : va_D A [(mo, .inr (5, [.ref mA, .ref mK, .ref mH, .int hy, .ref mS, .ref mV, .ref mF, .ref mP, .int (nI L), .int (nI ((rr P L sn nu).2.1)), .int ((rr P L sn nu).2.2.1), .ref mR, .int (nI (rrK P L sn rm nu))])), (mP, aI E 80 P), (mR, aI E 60 (rrF P L sn rm nu f))] := hD.sub [1, 2, 0] (by decide) rfl
            have hW9 : ([(mo, .inr (5, [.ref mA, .ref mK, .ref mH, .int hy, .ref mS, .ref mV, .ref mF, .ref mP, .int (nI L), .int (nI ((rr P L sn nu).2.1)), .int ((rr P L sn nu).2.2.1), .ref mR, .int (nI (rrK P L sn rm nu))])), (mP, aI E 80 P), (mR, aI E 60 (rrF P L sn rm nu f))] : va_W) = [(mo, .inr (5, [.ref mA, .ref mK, .ref mH, .int hy, .ref mS, .ref mV, .ref mF, .ref mP, .int (nI L), .int (nI ((fgM P L (L + 1) 0 nu0 0 f0).2.1)), .int ((fgM P L (L + 1) 0 nu0 0 f0).2.2.1), .ref mR, .int (nI ((fgM P L (L + 1) 0 nu0 0 f0).2.2.2.1))])), (mP, aI E 80 P), (mR, aI E 60 ((fgM P L (L + 1) 0 nu0 0 f0).2.2.2.2))] := by rw [he, fgM_3 zc20 h31, rrK, if_pos zc20]
            rw [hW9] at hP9 hD9
            exact ret_i hQ hx hb hr hlocks hP9 hD9 hS dX5_fault_58 (by rw [he, fgM_3 zc20 h31]; exact (if_pos zc46).symm)
        · refine kV_i (E := E) (As := [.int (nI 59)]) (rest := []) (wr := [(mR, aI E 60 (rrF P L sn rm nu f))]) ⟨hx, hb, hml, hown, hts⟩ (c_X5_takes_yes (l := l) (E := E) (sz := _) (mo := mo) (mA := mA) (mK := mK) (mH := mH) (mS := mS) (mV := mV) (mF := mF) (mP := mP) (mR := mR) (hy := hy) (L := L) (sn := (rr P L sn nu).2.1) (rm := rrK P L sn rm nu) (nu := (rr P L sn nu).2.2.1) (P := P) (f := fun _ => 0) (x := nI 59) (gL := by first | assumption | omega) (gs := by first | assumption | omega) (gi := h31)) (cwV 1 hts gX5_fault_X5_takes rfl rfl rfl (by decide +kernel) ⟨by rw [hR]; decide, by rw [hR]; decide⟩) hK hN hP hD hS hA [0, 1] [2] rfl (by decide) rfl (by decide) (by decide) 0 5 rfl rfl rfl hl.1 rfl (Nat.le_of_ble_eq_true rfl) dX5_fault_31 ⟨Nat.zero_le _, Nat.zero_le _⟩ (fun H locs hP hD hS => ?_)
          have hP : va_P E.1 vwCl [(mR, aI E 60 (rrF P L sn rm nu f)), (mo, .inr (5, [.ref mA, .ref mK, .ref mH, .int hy, .ref mS, .ref mV, .ref mF, .ref mP, .int (nI L), .int (nI (((rr P L sn nu).2.1) + 1)), .int ((rr P L sn nu).2.2.1), .ref mR, .int (nI (rrK P L sn rm nu))])), (mP, aI E 80 P)] H := hP
          have hD : va_D A [(mR, aI E 60 (rrF P L sn rm nu f)), (mo, .inr (5, [.ref mA, .ref mK, .ref mH, .int hy, .ref mS, .ref mV, .ref mF, .ref mP, .int (nI L), .int (nI (((rr P L sn nu).2.1) + 1)), .int ((rr P L sn nu).2.2.1), .ref mR, .int (nI (rrK P L sn rm nu))])), (mP, aI E 80 P)] := hD
          refine lv_istore_n (lv' := [(1, .int (nI 1)), (0, .ref mo)]) hx hb dX5_fault_34 rfl hl (by decide) rfl (fun ls hl => ?_)
          refine lv_goto (tgt := 12) hx hb dX5_fault_35 (by decide) ?_
          exact ih12 m8 (((rr P L sn nu).2.1) + 1) ((rrK P L sn rm nu)) ((rr P L sn nu).2.2.1) (rrF P L sn rm nu f) (by rw [he, fgM_2 zc20 h31, rrK, if_pos zc20]) (by exact ihM_lt h31) (by have g9 := rr_ok zc20; omega) (by rw [rrK, if_pos zc20]; have g9 := rr_ok zc20; omega) (by omega) _ _ (hP.sub [1, 2, 0] rfl) (hD.sub [1, 2, 0] (by decide) rfl) hS ls (lv_sub hl [0, 1] rfl)
      · refine lv_aload_n hx hb dX5_fault_23 rfl (lv_at hl 1 rfl) ?_
        refine rk_get (ci := 5) (C := RX5) (T := TX5) (N := 13) hx hb hts iw_X5_fault_5 hown hK hP 0 rfl rfl 9 (by decide) fl_X5_fault_157 rfl (v := .int (nI ((rr P L sn nu).2.1))) rfl dX5_fault_24 ?_
        have hP9 : va_P E.1 vwCl [(mo, .inr (5, [.ref mA, .ref mK, .ref mH, .int hy, .ref mS, .ref mV, .ref mF, .ref mP, .int (nI L), .int (nI ((rr P L sn nu).2.1)), .int ((rr P L sn nu).2.2.1), .ref mR, .int (nI (rrK P L sn rm nu))])), (mP, aI E 80 P), (mR, aI E 60 (rrF P L sn rm nu f))] _ := hP.sub [0, 1, 2] rfl
        have hD9 : va_D A [(mo, .inr (5, [.ref mA, .ref mK, .ref mH, .int hy, .ref mS, .ref mV, .ref mF, .ref mP, .int (nI L), .int (nI ((rr P L sn nu).2.1)), .int ((rr P L sn nu).2.2.1), .ref mR, .int (nI (rrK P L sn rm nu))])), (mP, aI E 80 P), (mR, aI E 60 (rrF P L sn rm nu f))] := hD.sub [0, 1, 2] (by decide) rfl
        have hW9 : ([(mo, .inr (5, [.ref mA, .ref mK, .ref mH, .int hy, .ref mS, .ref mV, .ref mF, .ref mP, .int (nI L), .int (nI ((rr P L sn nu).2.1)), .int ((rr P L sn nu).2.2.1), .ref mR, .int (nI (rrK P L sn rm nu))])), (mP, aI E 80 P), (mR, aI E 60 (rrF P L sn rm nu f))] : va_W) = [(mo, .inr (5, [.ref mA, .ref mK, .ref mH, .int hy, .ref mS, .ref mV, .ref mF, .ref mP, .int (nI L), .int (nI ((fgM P L (L + 1) 0 nu0 0 f0).2.1)), .int ((fgM P L (L + 1) 0 nu0 0 f0).2.2.1), .ref mR, .int (nI ((fgM P L (L + 1) 0 nu0 0 f0).2.2.2.1))])), (mP, aI E 80 P), (mR, aI E 60 ((fgM P L (L + 1) 0 nu0 0 f0).2.2.2.2))] := by rw [he, fgM_1 zc20, rrK, rrF, if_neg (by rw [zc20]; decide), if_neg (by rw [zc20]; decide)]
        rw [hW9] at hP9 hD9
        exact ret_i hQ hx hb hr hlocks hP9 hD9 hS dX5_fault_27 (by rw [he, fgM_1 zc20])
  exact L12 (((L + 1)) + 1) (L + 1) 0 0 nu0 f0 (rfl) (by first | assumption | omega | rfl) (by first | assumption | omega | rfl) (by first | assumption | omega | rfl) (Nat.lt_succ_self _) _ _ (hP.sub [0, 1, 2] rfl) (hD.sub [0, 1, 2] (by decide) rfl) hS ls (lv_sub hl [0, 1] rfl)
theorem iw_X5_haveAllSquares_5 : ∀ w ∈ u_ws RX5 TX5 13, w ∈ wsX5_haveAllSquares := by decide +kernel
theorem fl_X5_haveAllSquares_172 : Cond.fieldLink RX5 172 (TX5 12).1 (TX5 12).2.1 (TX5 12).2.2.1 ∈ wsX5_haveAllSquares := by decide +kernel
theorem fl_X5_haveAllSquares_31 : Cond.fieldLink RX5 31 (TX5 11).1 (TX5 11).2.1 (TX5 11).2.2.1 ∈ wsX5_haveAllSquares := by decide +kernel
set_option maxHeartbeats 400000 in
set_option maxRecDepth 100000 in
theorem c_X5_haveAllSquares (l : Launch) (E : EE) (sz : Nat) (mo mA mK mH mS mV mF mP mR : Nat) (hy pl sp nu : Int32) (n rm : Nat) (f Al : Nat → Int32)  (gA0 : Al 0 = nI n) (gn : n ≤ 16) (gr : 3 * rm ≤ 58) : Ci l yX5_haveAllSquares wsX5_haveAllSquares 2 46 E [.ref mo] [(mo, .inr (5, [.ref mA, .ref mK, .ref mH, .int hy, .ref mS, .ref mV, .ref mF, .ref mP, .int pl, .int sp, .int nu, .ref mR, .int (nI rm)])), (mA, aI E 92 Al), (mR, aI E 60 f)] sz (b2i (!anyB (eP1 f (nI n)) rm)) [(mo, .inr (5, [.ref mA, .ref mK, .ref mH, .int hy, .ref mS, .ref mV, .ref mF, .ref mP, .int pl, .int sp, .int nu, .ref mR, .int (nI rm)])), (mA, aI E 92 Al), (mR, aI E 60 f)] := by
  refine C_of (QQ := QI E (b2i (!anyB (eP1 f (nI n)) rm)) [(mo, .inr (5, [.ref mA, .ref mK, .ref mH, .int hy, .ref mS, .ref mV, .ref mF, .ref mP, .int pl, .int sp, .int nu, .ref mR, .int (nI rm)])), (mA, aI E 92 Al), (mR, aI E 60 f)]) (cc := cX5_haveAllSquares) (maxL := 3) (ret := (some .boolean)) (by decide +kernel) rfl (Nat.le_of_ble_eq_true rfl) ?_
  intro p e s m args below meth c A R Q ls hx hb hr hts hown hml hlocks hA hK hN hP hD hS hl hR hQ
  have hown : s.vm.findClass RX5 = some m.cls := hown
  have hl : lv_has ls 3 [(0, .ref mo)] := hl
  refine lv_iconst (v := nI 1) hx hb dX5_haveAllSquares_0 (by decide) ?_
  refine lv_istore_n (lv' := [(1, .int (nI 1)), (0, .ref mo)]) hx hb dX5_haveAllSquares_1 rfl hl (by decide) rfl (fun ls hl => ?_)
  refine lv_iconst (v := nI 0) hx hb dX5_haveAllSquares_2 (by decide) ?_
  refine lv_istore_n (lv' := [(2, .int (nI 0)), (1, .int (nI 1)), (0, .ref mo)]) hx hb dX5_haveAllSquares_3 rfl hl (by decide) rfl (fun ls hl => ?_)
  have L4 : ∀ (fu : Nat) (b : Bool) (i : Nat), (eb : b = !anyB (eP1 f (nI n)) i) → (gi : i ≤ rm) → rm - i < fu → ∀ (H : Heap) (locs : List Loc), va_P E.1 vwCl [(mo, .inr (5, [.ref mA, .ref mK, .ref mH, .int hy, .ref mS, .ref mV, .ref mF, .ref mP, .int pl, .int sp, .int nu, .ref mR, .int (nI rm)])), (mA, aI E 92 Al), (mR, aI E 60 f)] H → va_D A [(mo, .inr (5, [.ref mA, .ref mK, .ref mH, .int hy, .ref mS, .ref mV, .ref mF, .ref mP, .int pl, .int sp, .int nu, .ref mR, .int (nI rm)])), (mA, aI E 92 Al), (mR, aI E 60 f)] → va_S A s.heap H locs → ∀ (ls : Array Slot), lv_has ls 3 [(2, .int (nI i)), (1, .int (b2i b)), (0, .ref mo)] → W p l e R s m args below meth c H locs 0 0 Q (F0 m 4 ls []) := by
    intro fu
    induction fu with
    | zero => intro b i eb gi hfu; exact absurd hfu (Nat.not_lt_zero _)
    | succ fu ih4 =>
      intro b i eb gi hfu H locs hP hD hS ls hl
      refine lv_iload_n hx hb dX5_haveAllSquares_4 rfl (lv_at hl 0 rfl) ?_
      refine lv_aload_n hx hb dX5_haveAllSquares_5 rfl (lv_at hl 2 rfl) ?_
      refine rk_get (ci := 5) (C := RX5) (T := TX5) (N := 13) hx hb hts iw_X5_haveAllSquares_5 hown hK hP 0 rfl rfl 12 (by decide) fl_X5_haveAllSquares_172 rfl (v := .int (nI rm)) rfl dX5_haveAllSquares_6 ?_
      refine rk_geN (tgt := 60) hx hb (by omega) (by omega) dX5_haveAllSquares_9 (by decide) (fun zc9 => ?_) (fun zc9 => ?_)
      · refine lv_iload_n hx hb dX5_haveAllSquares_60 rfl (lv_at hl 1 rfl) ?_
        exact ret_z hQ hx hb hr hlocks (hP.sub [0, 1, 2] rfl) (hD.sub [0, 1, 2] (by decide) rfl) hS dX5_haveAllSquares_61 (b2i_nz _) (by obtain rfl : rm = i := (by omega); rw [eb])
      · refine lv_iload_n hx hb dX5_haveAllSquares_12 rfl (lv_at hl 1 rfl) ?_
        refine rk_if_eqB (tgt := 52) hx hb dX5_haveAllSquares_13 (by decide) (fun zc13 => ?_) (fun zc13 => ?_)
        · refine lv_iconst (v := nI 0) hx hb dX5_haveAllSquares_52 (by decide) ?_
          refine lv_istore_n (lv' := [(1, .int (nI 0)), (2, .int (nI i)), (0, .ref mo)]) hx hb dX5_haveAllSquares_53 rfl hl (by decide) rfl (fun ls hl => ?_)
          refine lv_iinc (v := nI (i + 1)) (lv' := [(2, .int (nI (i + 1))), (1, .int (nI 0)), (0, .ref mo)]) hx hb dX5_haveAllSquares_54 hl (k := 1) rfl (by rw [show Int32.ofInt 1 = nI 1 by decide]; exact nI_add _ _) (by decide) rfl (fun ls hl => ?_)
          refine lv_goto (tgt := 4) hx hb dX5_haveAllSquares_57 (by decide) ?_
          exact ih4 false (i + 1) (by symm; exact eP_b4 (eb.symm.trans zc13)) (by first | assumption | omega | rfl) (by omega) _ _ (hP.sub [0, 1, 2] rfl) (hD.sub [0, 1, 2] (by decide) rfl) hS ls (lv_sub hl [0, 1, 2] rfl)
        · refine lv_aload_n hx hb dX5_haveAllSquares_16 rfl (lv_at hl 2 rfl) ?_
          refine lv_aload_n hx hb dX5_haveAllSquares_17 rfl (lv_at hl 2 rfl) ?_
          refine rk_get (ci := 5) (C := RX5) (T := TX5) (N := 13) hx hb hts iw_X5_haveAllSquares_5 hown hK hP 0 rfl rfl 11 (by decide) fl_X5_haveAllSquares_31 rfl (v := .ref mR) rfl dX5_haveAllSquares_18 ?_
          refine lv_iconst (v := nI 3) hx hb dX5_haveAllSquares_21 (by decide) ?_
          refine lv_iload_n hx hb dX5_haveAllSquares_22 rfl (lv_at hl 0 rfl) ?_
          refine rk_imulN hx hb dX5_haveAllSquares_23 ?_
          refine rk_iald hx hb hK hP 2 rfl (by omega) (by omega) (v := f (3 * i)) (rfl) dX5_haveAllSquares_24 ?_
          refine kV_i (E := E) (As := [.int (f (3 * i))]) (rest := []) (wr := [(mR, aI E 60 f)]) ⟨hx, hb, hml, hown, hts⟩ (c_X5_isSquare (l := l) (E := E) (sz := _) (mo := mo) (mA := mA) (mK := mK) (mH := mH) (mS := mS) (mV := mV) (mF := mF) (mP := mP) (mR := mR) (hy := hy) (pl := pl) (sp := sp) (nu := nu) (rm := nI rm) (n := n) (k := 0) (Al := Al) (x := f (3 * i)) (gA0 := by first | assumption | omega) (gn := by first | assumption | omega)) (cwV 1 hts gX5_haveAllSquares_X5_isSquare rfl rfl rfl (by decide +kernel) ⟨by rw [hR]; decide, by rw [hR]; decide⟩) hK hN hP hD hS hA [0, 1] [2] rfl (by decide) rfl (by decide) (by decide) 0 5 rfl rfl rfl hl.1 rfl (Nat.le_of_ble_eq_true rfl) dX5_haveAllSquares_25 ⟨Nat.zero_le _, Nat.zero_le _⟩ (fun H locs hP hD hS => ?_)
          have hP : va_P E.1 vwCl [(mR, aI E 60 f), (mo, .inr (5, [.ref mA, .ref mK, .ref mH, .int hy, .ref mS, .ref mV, .ref mF, .ref mP, .int pl, .int sp, .int nu, .ref mR, .int (nI rm)])), (mA, aI E 92 Al)] H := hP
          have hD : va_D A [(mR, aI E 60 f), (mo, .inr (5, [.ref mA, .ref mK, .ref mH, .int hy, .ref mS, .ref mV, .ref mF, .ref mP, .int pl, .int sp, .int nu, .ref mR, .int (nI rm)])), (mA, aI E 92 Al)] := hD
          refine rk_if_eqB (tgt := 52) hx hb dX5_haveAllSquares_28 (by decide) (fun zc28 => ?_) (fun zc28 => ?_)
          · refine lv_iconst (v := nI 0) hx hb dX5_haveAllSquares_52 (by decide) ?_
            refine lv_istore_n (lv' := [(1, .int (nI 0)), (2, .int (nI i)), (0, .ref mo)]) hx hb dX5_haveAllSquares_53 rfl hl (by decide) rfl (fun ls hl => ?_)
            refine lv_iinc (v := nI (i + 1)) (lv' := [(2, .int (nI (i + 1))), (1, .int (nI 0)), (0, .ref mo)]) hx hb dX5_haveAllSquares_54 hl (k := 1) rfl (by rw [show Int32.ofInt 1 = nI 1 by decide]; exact nI_add _ _) (by decide) rfl (fun ls hl => ?_)
            refine lv_goto (tgt := 4) hx hb dX5_haveAllSquares_57 (by decide) ?_
            exact ih4 false (i + 1) (by symm; exact eP_b3 (eP1_a zc28)) (by first | assumption | omega | rfl) (by omega) _ _ (hP.sub [1, 2, 0] rfl) (hD.sub [1, 2, 0] (by decide) rfl) hS ls (lv_sub hl [0, 1, 2] rfl)
          · refine lv_aload_n hx hb dX5_haveAllSquares_31 rfl (lv_at hl 2 rfl) ?_
            refine lv_aload_n hx hb dX5_haveAllSquares_32 rfl (lv_at hl 2 rfl) ?_
            refine rk_get (ci := 5) (C := RX5) (T := TX5) (N := 13) hx hb hts iw_X5_haveAllSquares_5 hown hK hP 1 rfl rfl 11 (by decide) fl_X5_haveAllSquares_31 rfl (v := .ref mR) rfl dX5_haveAllSquares_33 ?_
            refine lv_iconst (v := nI 3) hx hb dX5_haveAllSquares_36 (by decide) ?_
            refine lv_iload_n hx hb dX5_haveAllSquares_37 rfl (lv_at hl 0 rfl) ?_
            refine rk_imulN hx hb dX5_haveAllSquares_38 ?_
            refine lv_iconst (v := nI 1) hx hb dX5_haveAllSquares_39 (by decide) ?_
            refine rk_iaddN hx hb dX5_haveAllSquares_40 ?_
            refine rk_iald hx hb hK hP 0 rfl (by omega) (by omega) (v := f ((3 * i) + 1)) (rfl) dX5_haveAllSquares_41 ?_
            refine kV_i (E := E) (As := [.int (f ((3 * i) + 1))]) (rest := []) (wr := [(mR, aI E 60 f)]) ⟨hx, hb, hml, hown, hts⟩ (c_X5_isSquare (l := l) (E := E) (sz := _) (mo := mo) (mA := mA) (mK := mK) (mH := mH) (mS := mS) (mV := mV) (mF := mF) (mP := mP) (mR := mR) (hy := hy) (pl := pl) (sp := sp) (nu := nu) (rm := nI rm) (n := n) (k := 0) (Al := Al) (x := f ((3 * i) + 1)) (gA0 := by first | assumption | omega) (gn := by first | assumption | omega)) (cwV 1 hts gX5_haveAllSquares_X5_isSquare rfl rfl rfl (by decide +kernel) ⟨by rw [hR]; decide, by rw [hR]; decide⟩) hK hN hP hD hS hA [1, 2] [0] rfl (by decide) rfl (by decide) (by decide) 1 5 rfl rfl rfl hl.1 rfl (Nat.le_of_ble_eq_true rfl) dX5_haveAllSquares_42 ⟨Nat.zero_le _, Nat.zero_le _⟩ (fun H locs hP hD hS => ?_)
            have hP : va_P E.1 vwCl [(mR, aI E 60 f), (mo, .inr (5, [.ref mA, .ref mK, .ref mH, .int hy, .ref mS, .ref mV, .ref mF, .ref mP, .int pl, .int sp, .int nu, .ref mR, .int (nI rm)])), (mA, aI E 92 Al)] H := hP
            have hD : va_D A [(mR, aI E 60 f), (mo, .inr (5, [.ref mA, .ref mK, .ref mH, .int hy, .ref mS, .ref mV, .ref mF, .ref mP, .int pl, .int sp, .int nu, .ref mR, .int (nI rm)])), (mA, aI E 92 Al)] := hD
            refine rk_if_eqB (tgt := 52) hx hb dX5_haveAllSquares_45 (by decide) (fun zc45 => ?_) (fun zc45 => ?_)
            · refine lv_iconst (v := nI 0) hx hb dX5_haveAllSquares_52 (by decide) ?_
              refine lv_istore_n (lv' := [(1, .int (nI 0)), (2, .int (nI i)), (0, .ref mo)]) hx hb dX5_haveAllSquares_53 rfl hl (by decide) rfl (fun ls hl => ?_)
              refine lv_iinc (v := nI (i + 1)) (lv' := [(2, .int (nI (i + 1))), (1, .int (nI 0)), (0, .ref mo)]) hx hb dX5_haveAllSquares_54 hl (k := 1) rfl (by rw [show Int32.ofInt 1 = nI 1 by decide]; exact nI_add _ _) (by decide) rfl (fun ls hl => ?_)
              refine lv_goto (tgt := 4) hx hb dX5_haveAllSquares_57 (by decide) ?_
              exact ih4 false (i + 1) (by symm; exact eP_b3 (eP1_b zc45)) (by first | assumption | omega | rfl) (by omega) _ _ (hP.sub [1, 2, 0] rfl) (hD.sub [1, 2, 0] (by decide) rfl) hS ls (lv_sub hl [0, 1, 2] rfl)
            · refine lv_iconst (v := nI 1) hx hb dX5_haveAllSquares_48 (by decide) ?_
              refine lv_goto (tgt := 53) hx hb dX5_haveAllSquares_49 (by decide) ?_
              refine lv_istore_n (lv' := [(1, .int (nI 1)), (2, .int (nI i)), (0, .ref mo)]) hx hb dX5_haveAllSquares_53 rfl hl (by decide) rfl (fun ls hl => ?_)
              refine lv_iinc (v := nI (i + 1)) (lv' := [(2, .int (nI (i + 1))), (1, .int (nI 1)), (0, .ref mo)]) hx hb dX5_haveAllSquares_54 hl (k := 1) rfl (by rw [show Int32.ofInt 1 = nI 1 by decide]; exact nI_add _ _) (by decide) rfl (fun ls hl => ?_)
              refine lv_goto (tgt := 4) hx hb dX5_haveAllSquares_57 (by decide) ?_
              exact ih4 true (i + 1) (by symm; exact eP_b2 (eb.symm.trans zc13) (eP1_c zc28 zc45)) (by first | assumption | omega | rfl) (by omega) _ _ (hP.sub [1, 2, 0] rfl) (hD.sub [1, 2, 0] (by decide) rfl) hS ls (lv_sub hl [0, 1, 2] rfl)
  exact L4 ((rm - 0) + 1) true 0 (rfl) (by first | assumption | omega | rfl) (Nat.lt_succ_self _) _ _ (hP.sub [0, 1, 2] rfl) (hD.sub [0, 1, 2] (by decide) rfl) hS ls (lv_sub hl [0, 1, 2] rfl)
theorem iw_X5_areDifferent_5 : ∀ w ∈ u_ws RX5 TX5 13, w ∈ wsX5_areDifferent := by decide +kernel
theorem fl_X5_areDifferent_172 : Cond.fieldLink RX5 172 (TX5 12).1 (TX5 12).2.1 (TX5 12).2.2.1 ∈ wsX5_areDifferent := by decide +kernel
theorem fl_X5_areDifferent_31 : Cond.fieldLink RX5 31 (TX5 11).1 (TX5 11).2.1 (TX5 11).2.2.1 ∈ wsX5_areDifferent := by decide +kernel
set_option maxHeartbeats 400000 in
set_option maxRecDepth 100000 in
theorem c_X5_areDifferent (l : Launch) (E : EE) (sz : Nat) (mo mA mK mH mS mV mF mP mR : Nat) (hy pl sp nu : Int32) (n rm : Nat) (f Al : Nat → Int32)  (gr : 3 * rm ≤ 58) : Ci l yX5_areDifferent wsX5_areDifferent 0 0 E [.ref mo] [(mo, .inr (5, [.ref mA, .ref mK, .ref mH, .int hy, .ref mS, .ref mV, .ref mF, .ref mP, .int pl, .int sp, .int nu, .ref mR, .int (nI rm)])), (mR, aI E 60 f)] sz (b2i (!anyB (eP2 f) rm)) [(mo, .inr (5, [.ref mA, .ref mK, .ref mH, .int hy, .ref mS, .ref mV, .ref mF, .ref mP, .int pl, .int sp, .int nu, .ref mR, .int (nI rm)])), (mR, aI E 60 f)] := by
  refine C_of (QQ := QI E (b2i (!anyB (eP2 f) rm)) [(mo, .inr (5, [.ref mA, .ref mK, .ref mH, .int hy, .ref mS, .ref mV, .ref mF, .ref mP, .int pl, .int sp, .int nu, .ref mR, .int (nI rm)])), (mR, aI E 60 f)]) (cc := cX5_areDifferent) (maxL := 3) (ret := (some .boolean)) (by decide +kernel) rfl (Nat.le_of_ble_eq_true rfl) ?_
  intro p e s m args below meth c A R Q ls hx hb hr hts hown hml hlocks hA hK hN hP hD hS hl hR hQ
  have hown : s.vm.findClass RX5 = some m.cls := hown
  have hl : lv_has ls 3 [(0, .ref mo)] := hl
  refine lv_iconst (v := nI 1) hx hb dX5_areDifferent_0 (by decide) ?_
  refine lv_istore_n (lv' := [(1, .int (nI 1)), (0, .ref mo)]) hx hb dX5_areDifferent_1 rfl hl (by decide) rfl (fun ls hl => ?_)
  refine lv_iconst (v := nI 0) hx hb dX5_areDifferent_2 (by decide) ?_
  refine lv_istore_n (lv' := [(2, .int (nI 0)), (1, .int (nI 1)), (0, .ref mo)]) hx hb dX5_areDifferent_3 rfl hl (by decide) rfl (fun ls hl => ?_)
  have L4 : ∀ (fu : Nat) (b : Bool) (i : Nat), (eb : b = !anyB (eP2 f) i) → (gi : i ≤ rm) → rm - i < fu → ∀ (H : Heap) (locs : List Loc), va_P E.1 vwCl [(mo, .inr (5, [.ref mA, .ref mK, .ref mH, .int hy, .ref mS, .ref mV, .ref mF, .ref mP, .int pl, .int sp, .int nu, .ref mR, .int (nI rm)])), (mR, aI E 60 f)] H → va_D A [(mo, .inr (5, [.ref mA, .ref mK, .ref mH, .int hy, .ref mS, .ref mV, .ref mF, .ref mP, .int pl, .int sp, .int nu, .ref mR, .int (nI rm)])), (mR, aI E 60 f)] → va_S A s.heap H locs → ∀ (ls : Array Slot), lv_has ls 3 [(2, .int (nI i)), (1, .int (b2i b)), (0, .ref mo)] → W p l e R s m args below meth c H locs 0 0 Q (F0 m 4 ls []) := by
    intro fu
    induction fu with
    | zero => intro b i eb gi hfu; exact absurd hfu (Nat.not_lt_zero _)
    | succ fu ih4 =>
      intro b i eb gi hfu H locs hP hD hS ls hl
      refine lv_iload_n hx hb dX5_areDifferent_4 rfl (lv_at hl 0 rfl) ?_
      refine lv_aload_n hx hb dX5_areDifferent_5 rfl (lv_at hl 2 rfl) ?_
      refine rk_get (ci := 5) (C := RX5) (T := TX5) (N := 13) hx hb hts iw_X5_areDifferent_5 hown hK hP 0 rfl rfl 12 (by decide) fl_X5_areDifferent_172 rfl (v := .int (nI rm)) rfl dX5_areDifferent_6 ?_
      refine rk_geN (tgt := 49) hx hb (by omega) (by omega) dX5_areDifferent_9 (by decide) (fun zc9 => ?_) (fun zc9 => ?_)
      · refine lv_iload_n hx hb dX5_areDifferent_49 rfl (lv_at hl 1 rfl) ?_
        exact ret_z hQ hx hb hr hlocks (hP.sub [0, 1] rfl) (hD.sub [0, 1] (by decide) rfl) hS dX5_areDifferent_50 (b2i_nz _) (by obtain rfl : rm = i := (by omega); rw [eb])
      · refine lv_iload_n hx hb dX5_areDifferent_12 rfl (lv_at hl 1 rfl) ?_
        refine rk_if_eqB (tgt := 41) hx hb dX5_areDifferent_13 (by decide) (fun zc13 => ?_) (fun zc13 => ?_)
        · refine lv_iconst (v := nI 0) hx hb dX5_areDifferent_41 (by decide) ?_
          refine lv_istore_n (lv' := [(1, .int (nI 0)), (2, .int (nI i)), (0, .ref mo)]) hx hb dX5_areDifferent_42 rfl hl (by decide) rfl (fun ls hl => ?_)
          refine lv_iinc (v := nI (i + 1)) (lv' := [(2, .int (nI (i + 1))), (1, .int (nI 0)), (0, .ref mo)]) hx hb dX5_areDifferent_43 hl (k := 1) rfl (by rw [show Int32.ofInt 1 = nI 1 by decide]; exact nI_add _ _) (by decide) rfl (fun ls hl => ?_)
          refine lv_goto (tgt := 4) hx hb dX5_areDifferent_46 (by decide) ?_
          exact ih4 false (i + 1) (by symm; exact eP_b4 (eb.symm.trans zc13)) (by first | assumption | omega | rfl) (by omega) _ _ (hP.sub [0, 1] rfl) (hD.sub [0, 1] (by decide) rfl) hS ls (lv_sub hl [0, 1, 2] rfl)
        · refine lv_aload_n hx hb dX5_areDifferent_16 rfl (lv_at hl 2 rfl) ?_
          refine rk_get (ci := 5) (C := RX5) (T := TX5) (N := 13) hx hb hts iw_X5_areDifferent_5 hown hK hP 0 rfl rfl 11 (by decide) fl_X5_areDifferent_31 rfl (v := .ref mR) rfl dX5_areDifferent_17 ?_
          refine lv_iconst (v := nI 3) hx hb dX5_areDifferent_20 (by decide) ?_
          refine lv_iload_n hx hb dX5_areDifferent_21 rfl (lv_at hl 0 rfl) ?_
          refine rk_imulN hx hb dX5_areDifferent_22 ?_
          refine rk_iald hx hb hK hP 1 rfl (by omega) (by omega) (v := f (3 * i)) (rfl) dX5_areDifferent_23 ?_
          refine lv_aload_n hx hb dX5_areDifferent_24 rfl (lv_at hl 2 rfl) ?_
          refine rk_get (ci := 5) (C := RX5) (T := TX5) (N := 13) hx hb hts iw_X5_areDifferent_5 hown hK hP 0 rfl rfl 11 (by decide) fl_X5_areDifferent_31 rfl (v := .ref mR) rfl dX5_areDifferent_25 ?_
          refine lv_iconst (v := nI 3) hx hb dX5_areDifferent_28 (by decide) ?_
          refine lv_iload_n hx hb dX5_areDifferent_29 rfl (lv_at hl 0 rfl) ?_
          refine rk_imulN hx hb dX5_areDifferent_30 ?_
          refine lv_iconst (v := nI 1) hx hb dX5_areDifferent_31 (by decide) ?_
          refine rk_iaddN hx hb dX5_areDifferent_32 ?_
          refine rk_iald hx hb hK hP 1 rfl (by omega) (by omega) (v := f ((3 * i) + 1)) (rfl) dX5_areDifferent_33 ?_
          refine lv_icmp_eq (tgt := 41) hx hb dX5_areDifferent_34 (by decide) (fun zc34 => ?_) (fun zc34 => ?_)
          · refine lv_iconst (v := nI 0) hx hb dX5_areDifferent_41 (by decide) ?_
            refine lv_istore_n (lv' := [(1, .int (nI 0)), (2, .int (nI i)), (0, .ref mo)]) hx hb dX5_areDifferent_42 rfl hl (by decide) rfl (fun ls hl => ?_)
            refine lv_iinc (v := nI (i + 1)) (lv' := [(2, .int (nI (i + 1))), (1, .int (nI 0)), (0, .ref mo)]) hx hb dX5_areDifferent_43 hl (k := 1) rfl (by rw [show Int32.ofInt 1 = nI 1 by decide]; exact nI_add _ _) (by decide) rfl (fun ls hl => ?_)
            refine lv_goto (tgt := 4) hx hb dX5_areDifferent_46 (by decide) ?_
            exact ih4 false (i + 1) (by symm; exact eP_b3 (decide_eq_true zc34)) (by first | assumption | omega | rfl) (by omega) _ _ (hP.sub [0, 1] rfl) (hD.sub [0, 1] (by decide) rfl) hS ls (lv_sub hl [0, 1, 2] rfl)
          · refine lv_iconst (v := nI 1) hx hb dX5_areDifferent_37 (by decide) ?_
            refine lv_goto (tgt := 42) hx hb dX5_areDifferent_38 (by decide) ?_
            refine lv_istore_n (lv' := [(1, .int (nI 1)), (2, .int (nI i)), (0, .ref mo)]) hx hb dX5_areDifferent_42 rfl hl (by decide) rfl (fun ls hl => ?_)
            refine lv_iinc (v := nI (i + 1)) (lv' := [(2, .int (nI (i + 1))), (1, .int (nI 1)), (0, .ref mo)]) hx hb dX5_areDifferent_43 hl (k := 1) rfl (by rw [show Int32.ofInt 1 = nI 1 by decide]; exact nI_add _ _) (by decide) rfl (fun ls hl => ?_)
            refine lv_goto (tgt := 4) hx hb dX5_areDifferent_46 (by decide) ?_
            exact ih4 true (i + 1) (by symm; exact eP_b2 (eb.symm.trans zc13) (decide_eq_false zc34)) (by first | assumption | omega | rfl) (by omega) _ _ (hP.sub [0, 1] rfl) (hD.sub [0, 1] (by decide) rfl) hS ls (lv_sub hl [0, 1, 2] rfl)
  exact L4 ((rm - 0) + 1) true 0 (rfl) (by first | assumption | omega | rfl) (Nat.lt_succ_self _) _ _ (hP.sub [0, 1] rfl) (hD.sub [0, 1] (by decide) rfl) hS ls (lv_sub hl [0, 1, 2] rfl)
