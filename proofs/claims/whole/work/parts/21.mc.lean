theorem cl68_X5_squares : Cond.constantLong RX5 68 (2) ∈ wsX5_squares := by decide +kernel
theorem cl70_X5_squares : Cond.constantLong RX5 70 (16) ∈ wsX5_squares := by decide +kernel
theorem iw_X5_squares_5 : ∀ w ∈ u_ws RX5 TX5 13, w ∈ wsX5_squares := by decide +kernel
theorem fl_X5_squares_7 : Cond.fieldLink RX5 7 (TX5 0).1 (TX5 0).2.1 (TX5 0).2.2.1 ∈ wsX5_squares := by decide +kernel
set_option maxHeartbeats 400000 in
set_option maxRecDepth 100000 in
theorem c_X5_squares_oklt (l : Launch) (E : EE) (sz : Nat) (mo mA mK mH mS mV mF mP mR : Nat) (pl sp nu rm : Int32) (hy : Nat) (n k : Nat) (Al : Nat → Int32) (Hc K : Nat → Int32) (mm : Nat) (gA0 : Al 0 = nI n) (gn : n ≤ 16) (gA1 : Al 1 = nI k) (gk : k ≤ 30) (g1 : 2 ≤ mm) (g2 : mm ≤ 16) (gf : fitsB (mhF Al) k (nI mm) = true) (gh : hy < 6) : Ci l yX5_squares wsX5_squares 1 25 E [.ref mo, .int (nI mm)] [(mo, .inr (5, [.ref mA, .ref mK, .ref mH, .int (nI hy), .ref mS, .ref mV, .ref mF, .ref mP, .int pl, .int sp, .int nu, .ref mR, .int rm])), (mA, aI E 92 Al), (mK, aI E 92 K), (mH, aI E 552 Hc)] sz (nI n) [(mo, .inr (5, [.ref mA, .ref mK, .ref mH, .int (nI (hy + 1)), .ref mS, .ref mV, .ref mF, .ref mP, .int pl, .int sp, .int nu, .ref mR, .int rm])), (mA, aI E 92 (upd Al 0 (nI mm))), (mK, aI E 92 (lsf K Al 92)), (mH, aI E 552 (putH Hc (lsf K Al 92) (92 * hy) 92))] := by
  refine C_of (QQ := QI E (nI n) [(mo, .inr (5, [.ref mA, .ref mK, .ref mH, .int (nI (hy + 1)), .ref mS, .ref mV, .ref mF, .ref mP, .int pl, .int sp, .int nu, .ref mR, .int rm])), (mA, aI E 92 (upd Al 0 (nI mm))), (mK, aI E 92 (lsf K Al 92)), (mH, aI E 552 (putH Hc (lsf K Al 92) (92 * hy) 92))]) (cc := cX5_squares) (maxL := 3) (ret := (some .int)) (by decide +kernel) rfl (Nat.le_of_ble_eq_true rfl) ?_
  intro p e s m args below meth c A R Q ls hx hb hr hts hown hml hlocks hA hK hN hP hD hS hl hR hQ
  have hown : s.vm.findClass RX5 = some m.cls := hown
  have hl : lv_has ls 3 [(0, .ref mo), (1, .int (nI mm))] := hl
  refine lv_iload_n hx hb dX5_squares_0 rfl (lv_at hl 1 rfl) ?_
  refine lv_i2l hx hb dX5_squares_1 rfl ?_
  refine lv_ldc2 (v := 2) hx hb hown (hts _ cl68_X5_squares) dX5_squares_2 ?_
  refine lv_ldc2 (v := 16) hx hb hown (hts _ cl70_X5_squares) dX5_squares_5 ?_
  refine kS_i (E := E) (As := [.long ((nI mm).toInt64), .long ((2 : Int64)), .long ((16 : Int64))]) (rest := []) (wr := [(mo, .inr (5, [.ref mA, .ref mK, .ref mH, .int (nI hy), .ref mS, .ref mV, .ref mF, .ref mP, .int pl, .int sp, .int nu, .ref mR, .int rm])), (mA, aI E 92 Al), (mK, aI E 92 K), (mH, aI E 552 Hc)]) ⟨hx, hb, hml, hown, hts⟩ (c_X5_in (l := l) (E := E) (sz := _) (v := (nI mm).toInt64) (lo9 := (2 : Int64)) (hi9 := (16 : Int64)) ) (cwS 3 hts gX5_squares_X5_in rfl rfl rfl (by decide +kernel) ⟨by rw [hR]; decide, by rw [hR]; decide⟩) hK hN hP hD hS hA [] [0, 1, 2, 3] rfl (by decide) rfl (by decide) (by decide) rfl hl.1 rfl (Nat.le_of_ble_eq_true rfl) dX5_squares_8 ⟨Nat.zero_le _, Nat.zero_le _⟩ (fun H locs hP hD hS => ?_)
  have hP : va_P E.1 vwCl [(mo, .inr (5, [.ref mA, .ref mK, .ref mH, .int (nI hy), .ref mS, .ref mV, .ref mF, .ref mP, .int pl, .int sp, .int nu, .ref mR, .int rm])), (mA, aI E 92 Al), (mK, aI E 92 K), (mH, aI E 552 Hc)] H := hP
  have hD : va_D A [(mo, .inr (5, [.ref mA, .ref mK, .ref mH, .int (nI hy), .ref mS, .ref mV, .ref mF, .ref mP, .int pl, .int sp, .int nu, .ref mR, .int rm])), (mA, aI E 92 Al), (mK, aI E 92 K), (mH, aI E 552 Hc)] := hD
  refine rk_if_neB (tgt := 17) hx hb dX5_squares_11 (by decide) (fun zc11 => ?_) (fun q => absurd (q.symm.trans (inLn_t (a := 2) (b := 16) (by decide) g1 g2)) (by decide))
  refine lv_iconst (v := nI 0) hx hb dX5_squares_17 (by decide) ?_
  refine lv_istore_n (lv' := [(2, .int (nI 0)), (0, .ref mo), (1, .int (nI mm))]) hx hb dX5_squares_18 rfl hl (by decide) rfl (fun ls hl => ?_)
  have L19 : ∀ (fu : Nat) (i : Nat), (gi : i ≤ k) → k - i < fu → ∀ (H : Heap) (locs : List Loc), va_P E.1 vwCl [(mo, .inr (5, [.ref mA, .ref mK, .ref mH, .int (nI hy), .ref mS, .ref mV, .ref mF, .ref mP, .int pl, .int sp, .int nu, .ref mR, .int rm])), (mA, aI E 92 Al), (mK, aI E 92 K), (mH, aI E 552 Hc)] H → va_D A [(mo, .inr (5, [.ref mA, .ref mK, .ref mH, .int (nI hy), .ref mS, .ref mV, .ref mF, .ref mP, .int pl, .int sp, .int nu, .ref mR, .int rm])), (mA, aI E 92 Al), (mK, aI E 92 K), (mH, aI E 552 Hc)] → va_S A s.heap H locs → ∀ (ls : Array Slot), lv_has ls 3 [(2, .int (nI i)), (0, .ref mo), (1, .int (nI mm))] → W p l e R s m args below meth c H locs 0 0 Q (F0 m 19 ls []) := by
    intro fu
    induction fu with
    | zero => intro i gi hfu; exact absurd hfu (Nat.not_lt_zero _)
    | succ fu ih19 =>
      intro i gi hfu H locs hP hD hS ls hl
      refine lv_iload_n hx hb dX5_squares_19 rfl (lv_at hl 0 rfl) ?_
      refine lv_aload_n hx hb dX5_squares_20 rfl (lv_at hl 1 rfl) ?_
      refine rk_get (ci := 5) (C := RX5) (T := TX5) (N := 13) hx hb hts iw_X5_squares_5 hown hK hP 0 rfl rfl 0 (by decide) fl_X5_squares_7 rfl (v := .ref mA) rfl dX5_squares_21 ?_
      refine lv_iconst (v := nI 1) hx hb dX5_squares_24 (by decide) ?_
      refine rk_iald hx hb hK hP 1 rfl (by omega) (by omega) (v := nI k) (by exact gA1) dX5_squares_25 ?_
      refine rk_geN (tgt := 51) hx hb (by omega) (by omega) dX5_squares_26 (by decide) (fun zc26 => ?_) (fun zc26 => ?_)
      · refine lv_aload_n hx hb dX5_squares_51 rfl (lv_at hl 1 rfl) ?_
        refine kV_v (E := E) (As := []) (rest := []) (wr := [(mH, aI E 552 Hc)]) ⟨hx, hb, hml, hown, hts⟩ (c_X5_keep (l := l) (E := E) (sz := _) (mo := mo) (mA := mA) (mK := mK) (mH := mH) (mS := mS) (mV := mV) (mF := mF) (mP := mP) (mR := mR) (hy := nI hy) (pl := pl) (sp := sp) (nu := nu) (rm := rm) (Al := Al) (K := K) ) (cwV 0 hts gX5_squares_X5_keep rfl rfl rfl (by decide +kernel) ⟨by rw [hR]; decide, by rw [hR]; decide⟩) hK hN hP hD hS hA [0, 1, 2] [3] rfl (by decide) rfl (by decide) (by decide) 0 5 rfl rfl rfl hl.1 rfl (Nat.le_of_ble_eq_true rfl) dX5_squares_52 ⟨Nat.zero_le _, Nat.zero_le _⟩ (fun H locs hP hD hS => ?_)
        have hP : va_P E.1 vwCl [(mH, aI E 552 Hc), (mo, .inr (5, [.ref mA, .ref mK, .ref mH, .int (nI hy), .ref mS, .ref mV, .ref mF, .ref mP, .int pl, .int sp, .int nu, .ref mR, .int rm])), (mA, aI E 92 Al), (mK, aI E 92 (lsf K Al 92))] H := hP
        have hD : va_D A [(mH, aI E 552 Hc), (mo, .inr (5, [.ref mA, .ref mK, .ref mH, .int (nI hy), .ref mS, .ref mV, .ref mF, .ref mP, .int pl, .int sp, .int nu, .ref mR, .int rm])), (mA, aI E 92 Al), (mK, aI E 92 (lsf K Al 92))] := hD
        refine lv_aload_n hx hb dX5_squares_55 rfl (lv_at hl 1 rfl) ?_
        refine rk_get (ci := 5) (C := RX5) (T := TX5) (N := 13) hx hb hts iw_X5_squares_5 hown hK hP 1 rfl rfl 0 (by decide) fl_X5_squares_7 rfl (v := .ref mA) rfl dX5_squares_56 ?_
        refine lv_iconst (v := nI 0) hx hb dX5_squares_59 (by decide) ?_
        refine rk_iald hx hb hK hP 2 rfl (by omega) (by omega) (v := nI n) (by exact gA0) dX5_squares_60 ?_
        refine lv_istore_n (lv' := [(2, .int (nI n)), (0, .ref mo), (1, .int (nI mm))]) hx hb dX5_squares_61 rfl hl (by decide) rfl (fun ls hl => ?_)
        refine lv_aload_n hx hb dX5_squares_62 rfl (lv_at hl 1 rfl) ?_
        refine rk_get (ci := 5) (C := RX5) (T := TX5) (N := 13) hx hb hts iw_X5_squares_5 hown hK hP 1 rfl rfl 0 (by decide) fl_X5_squares_7 rfl (v := .ref mA) rfl dX5_squares_63 ?_
        refine lv_iconst (v := nI 0) hx hb dX5_squares_66 (by decide) ?_
        refine lv_iload_n hx hb dX5_squares_67 rfl (lv_at hl 2 rfl) ?_
        refine rk_iast hx hb hK hP hD hS 2 rfl (by omega) (by omega) (ws' := [(mH, aI E 552 Hc), (mo, .inr (5, [.ref mA, .ref mK, .ref mH, .int (nI hy), .ref mS, .ref mV, .ref mF, .ref mP, .int pl, .int sp, .int nu, .ref mR, .int rm])), (mA, aI E 92 (upd Al 0 (nI mm))), (mK, aI E 92 (lsf K Al 92))]) rfl dX5_squares_68 (fun H locs hP hD hS => ?_)
        refine lv_aload_n hx hb dX5_squares_69 rfl (lv_at hl 1 rfl) ?_
        refine lv_iload_n hx hb dX5_squares_70 rfl (lv_at hl 0 rfl) ?_
        refine kV_i (E := E) (As := [.int (nI n)]) (rest := []) (wr := [(mA, aI E 92 (upd Al 0 (nI mm)))]) ⟨hx, hb, hml, hown, hts⟩ (c_X5_changed_lt (l := l) (E := E) (sz := _) (mo := mo) (mA := mA) (mK := mK) (mH := mH) (mS := mS) (mV := mV) (mF := mF) (mP := mP) (mR := mR) (pl := pl) (sp := sp) (nu := nu) (rm := rm) (hy := hy) (r := nI n) (Hc := Hc) (K := lsf K Al 92) (gh := by first | assumption | omega)) (cwV 1 hts gX5_squares_X5_changed rfl rfl rfl (by decide +kernel) ⟨by rw [hR]; decide, by rw [hR]; decide⟩) hK hN hP hD hS hA [1, 0, 3] [2] rfl (by decide) rfl (by decide) (by decide) 1 5 rfl rfl rfl hl.1 rfl (Nat.le_of_ble_eq_true rfl) dX5_squares_71 ⟨Nat.zero_le _, Nat.zero_le _⟩ (fun H locs hP hD hS => ?_)
        have hP : va_P E.1 vwCl [(mA, aI E 92 (upd Al 0 (nI mm))), (mo, .inr (5, [.ref mA, .ref mK, .ref mH, .int (nI (hy + 1)), .ref mS, .ref mV, .ref mF, .ref mP, .int pl, .int sp, .int nu, .ref mR, .int rm])), (mH, aI E 552 (putH Hc (lsf K Al 92) (92 * hy) 92)), (mK, aI E 92 ((lsf K Al 92)))] H := hP
        have hD : va_D A [(mA, aI E 92 (upd Al 0 (nI mm))), (mo, .inr (5, [.ref mA, .ref mK, .ref mH, .int (nI (hy + 1)), .ref mS, .ref mV, .ref mF, .ref mP, .int pl, .int sp, .int nu, .ref mR, .int rm])), (mH, aI E 552 (putH Hc (lsf K Al 92) (92 * hy) 92)), (mK, aI E 92 ((lsf K Al 92)))] := hD
        exact ret_i hQ hx hb hr hlocks (hP.sub [1, 0, 3, 2] rfl) (hD.sub [1, 0, 3, 2] (by decide) rfl) hS dX5_squares_74 (rfl)
      · refine lv_aload_n hx hb dX5_squares_29 rfl (lv_at hl 1 rfl) ?_
        refine rk_get (ci := 5) (C := RX5) (T := TX5) (N := 13) hx hb hts iw_X5_squares_5 hown hK hP 0 rfl rfl 0 (by decide) fl_X5_squares_7 rfl (v := .ref mA) rfl dX5_squares_30 ?_
        refine lv_bipush (v := nI 32) hx hb dX5_squares_33 (by decide) ?_
        refine lv_iload_n hx hb dX5_squares_35 rfl (lv_at hl 0 rfl) ?_
        refine rk_iaddN hx hb dX5_squares_36 ?_
        refine rk_iald hx hb hK hP 1 rfl (by omega) (by omega) (v := Al (32 + i)) (rfl) dX5_squares_37 ?_
        refine lv_iload_n hx hb dX5_squares_38 rfl (lv_at hl 2 rfl) ?_
        refine lv_icmp_lt (tgt := 45) hx hb dX5_squares_39 (by decide) (fun zc39 => ?_) (fun q => absurd (fitsB_f (hi := mhF Al) zc26 q) (by rw [gf]; decide))
        refine lv_iinc (v := nI (i + 1)) (lv' := [(2, .int (nI (i + 1))), (0, .ref mo), (1, .int (nI mm))]) hx hb dX5_squares_45 hl (k := 0) rfl (by rw [show Int32.ofInt 1 = nI 1 by decide]; exact nI_add _ _) (by decide) rfl (fun ls hl => ?_)
        refine lv_goto (tgt := 19) hx hb dX5_squares_48 (by decide) ?_
        exact ih19 (i + 1) (by first | assumption | omega | rfl) (by omega) _ _ (hP.sub [0, 1, 2, 3] rfl) (hD.sub [0, 1, 2, 3] (by decide) rfl) hS ls (lv_sub hl [0, 1, 2] rfl)
  exact L19 ((k - 0) + 1) 0 (by first | assumption | omega | rfl) (Nat.lt_succ_self _) _ _ (hP.sub [0, 1, 2, 3] rfl) (hD.sub [0, 1, 2, 3] (by decide) rfl) hS ls (lv_sub hl [0, 1, 2] rfl)
theorem cl81_X5_build : Cond.constantLong RX5 81 (99) ∈ wsX5_build := by decide +kernel
theorem iw_X5_build_5 : ∀ w ∈ u_ws RX5 TX5 13, w ∈ wsX5_build := by decide +kernel
theorem fl_X5_build_7 : Cond.fieldLink RX5 7 (TX5 0).1 (TX5 0).2.1 (TX5 0).2.2.1 ∈ wsX5_build := by decide +kernel
set_option maxHeartbeats 400000 in
set_option maxRecDepth 100000 in
theorem c_X5_build_oklt (l : Launch) (E : EE) (sz : Nat) (mo mA mK mH mS mV mF mP mR : Nat) (pl sp nu rm : Int32) (hy : Nat) (n k : Nat) (Al : Nat → Int32) (Hc K : Nat → Int32) (x y z : Nat) (gA0 : Al 0 = nI n) (gn : n ≤ 16) (gA1 : Al 1 = nI k) (gk : k ≤ 30) (gok : okA Al k) (gx : x < n) (gy : y < n) (gne : ¬ x = y) (gz1 : 1 ≤ z) (gz2 : z ≤ 99) (gk2 : k < 30) (gh : hy < 6) : Ci l yX5_build wsX5_build 4 93 E [.ref mo, .int (nI x), .int (nI y), .int (nI z)] [(mo, .inr (5, [.ref mA, .ref mK, .ref mH, .int (nI hy), .ref mS, .ref mV, .ref mF, .ref mP, .int pl, .int sp, .int nu, .ref mR, .int rm])), (mA, aI E 92 Al), (mK, aI E 92 K), (mH, aI E 552 Hc)] sz (nI (piM (adA Al k (nI x) (nI y) (nI z)) (k + 1) n)) [(mo, .inr (5, [.ref mA, .ref mK, .ref mH, .int (nI (hy + 1)), .ref mS, .ref mV, .ref mF, .ref mP, .int pl, .int sp, .int nu, .ref mR, .int rm])), (mA, aI E 92 (adA Al k (nI x) (nI y) (nI z))), (mK, aI E 92 (lsf K Al 92)), (mH, aI E 552 (putH Hc (lsf K Al 92) (92 * hy) 92))] := by
  refine C_of (QQ := QI E (nI (piM (adA Al k (nI x) (nI y) (nI z)) (k + 1) n)) [(mo, .inr (5, [.ref mA, .ref mK, .ref mH, .int (nI (hy + 1)), .ref mS, .ref mV, .ref mF, .ref mP, .int pl, .int sp, .int nu, .ref mR, .int rm])), (mA, aI E 92 (adA Al k (nI x) (nI y) (nI z))), (mK, aI E 92 (lsf K Al 92)), (mH, aI E 552 (putH Hc (lsf K Al 92) (92 * hy) 92))]) (cc := cX5_build) (maxL := 4) (ret := (some .int)) (by decide +kernel) rfl (Nat.le_of_ble_eq_true rfl) ?_
  intro p e s m args below meth c A R Q ls hx hb hr hts hown hml hlocks hA hK hN hP hD hS hl hR hQ
  have hown : s.vm.findClass RX5 = some m.cls := hown
  have hl : lv_has ls 4 [(0, .ref mo), (1, .int (nI x)), (2, .int (nI y)), (3, .int (nI z))] := hl
  refine lv_aload_n hx hb dX5_build_0 rfl (lv_at hl 0 rfl) ?_
  refine lv_iload_n hx hb dX5_build_1 rfl (lv_at hl 1 rfl) ?_
  refine kV_i (E := E) (As := [.int (nI x)]) (rest := []) (wr := [(mK, aI E 92 K), (mH, aI E 552 Hc)]) ⟨hx, hb, hml, hown, hts⟩ (c_X5_isSquare (l := l) (E := E) (sz := _) (mo := mo) (mA := mA) (mK := mK) (mH := mH) (mS := mS) (mV := mV) (mF := mF) (mP := mP) (mR := mR) (hy := nI hy) (pl := pl) (sp := sp) (nu := nu) (rm := rm) (n := n) (k := k) (Al := Al) (x := nI x) (gA0 := by first | assumption | omega) (gn := by first | assumption | omega)) (cwV 1 hts gX5_build_X5_isSquare rfl rfl rfl (by decide +kernel) ⟨by rw [hR]; decide, by rw [hR]; decide⟩) hK hN hP hD hS hA [0, 1] [2, 3] rfl (by decide) rfl (by decide) (by decide) 0 5 rfl rfl rfl hl.1 rfl (Nat.le_of_ble_eq_true rfl) dX5_build_2 ⟨Nat.zero_le _, Nat.zero_le _⟩ (fun H locs hP hD hS => ?_)
  have hP : va_P E.1 vwCl [(mK, aI E 92 K), (mH, aI E 552 Hc), (mo, .inr (5, [.ref mA, .ref mK, .ref mH, .int (nI hy), .ref mS, .ref mV, .ref mF, .ref mP, .int pl, .int sp, .int nu, .ref mR, .int rm])), (mA, aI E 92 Al)] H := hP
  have hD : va_D A [(mK, aI E 92 K), (mH, aI E 552 Hc), (mo, .inr (5, [.ref mA, .ref mK, .ref mH, .int (nI hy), .ref mS, .ref mV, .ref mF, .ref mP, .int pl, .int sp, .int nu, .ref mR, .int rm])), (mA, aI E 92 Al)] := hD
  refine rk_if_eqB (tgt := 16) hx hb dX5_build_5 (by decide) (fun q => absurd q (by rw [inR_ok gx (by omega)]; decide)) (fun zc5 => ?_)
  refine lv_aload_n hx hb dX5_build_8 rfl (lv_at hl 0 rfl) ?_
  refine lv_iload_n hx hb dX5_build_9 rfl (lv_at hl 2 rfl) ?_
  refine kV_i (E := E) (As := [.int (nI y)]) (rest := []) (wr := [(mK, aI E 92 K), (mH, aI E 552 Hc)]) ⟨hx, hb, hml, hown, hts⟩ (c_X5_isSquare (l := l) (E := E) (sz := _) (mo := mo) (mA := mA) (mK := mK) (mH := mH) (mS := mS) (mV := mV) (mF := mF) (mP := mP) (mR := mR) (hy := nI hy) (pl := pl) (sp := sp) (nu := nu) (rm := rm) (n := n) (k := k) (Al := Al) (x := nI y) (gA0 := by first | assumption | omega) (gn := by first | assumption | omega)) (cwV 1 hts gX5_build_X5_isSquare rfl rfl rfl (by decide +kernel) ⟨by rw [hR]; decide, by rw [hR]; decide⟩) hK hN hP hD hS hA [2, 3] [0, 1] rfl (by decide) rfl (by decide) (by decide) 2 5 rfl rfl rfl hl.1 rfl (Nat.le_of_ble_eq_true rfl) dX5_build_10 ⟨Nat.zero_le _, Nat.zero_le _⟩ (fun H locs hP hD hS => ?_)
  have hP : va_P E.1 vwCl [(mK, aI E 92 K), (mH, aI E 552 Hc), (mo, .inr (5, [.ref mA, .ref mK, .ref mH, .int (nI hy), .ref mS, .ref mV, .ref mF, .ref mP, .int pl, .int sp, .int nu, .ref mR, .int rm])), (mA, aI E 92 Al)] H := hP
  have hD : va_D A [(mK, aI E 92 K), (mH, aI E 552 Hc), (mo, .inr (5, [.ref mA, .ref mK, .ref mH, .int (nI hy), .ref mS, .ref mV, .ref mF, .ref mP, .int pl, .int sp, .int nu, .ref mR, .int rm])), (mA, aI E 92 Al)] := hD
  refine rk_if_neB (tgt := 18) hx hb dX5_build_13 (by decide) (fun zc13 => ?_) (fun q => absurd q (by rw [inR_ok gy (by omega)]; decide))
  refine lv_iload_n hx hb dX5_build_18 rfl (lv_at hl 1 rfl) ?_
  refine lv_iload_n hx hb dX5_build_19 rfl (lv_at hl 2 rfl) ?_
  refine rk_eqN (tgt := 35) hx hb (by omega) (by omega) dX5_build_20 (by decide) (fun q => absurd q gne) (fun zc20 => ?_)
  refine lv_iload_n hx hb dX5_build_23 rfl (lv_at hl 3 rfl) ?_
  refine lv_i2l hx hb dX5_build_24 rfl ?_
  refine lv_lconst (v := 1) hx hb dX5_build_25 (by decide) ?_
  refine lv_ldc2 (v := 99) hx hb hown (hts _ cl81_X5_build) dX5_build_26 ?_
  refine kS_i (E := E) (As := [.long ((nI z).toInt64), .long ((1 : Int64)), .long ((99 : Int64))]) (rest := []) (wr := [(mK, aI E 92 K), (mH, aI E 552 Hc), (mo, .inr (5, [.ref mA, .ref mK, .ref mH, .int (nI hy), .ref mS, .ref mV, .ref mF, .ref mP, .int pl, .int sp, .int nu, .ref mR, .int rm])), (mA, aI E 92 Al)]) ⟨hx, hb, hml, hown, hts⟩ (c_X5_in (l := l) (E := E) (sz := _) (v := (nI z).toInt64) (lo9 := (1 : Int64)) (hi9 := (99 : Int64)) ) (cwS 3 hts gX5_build_X5_in rfl rfl rfl (by decide +kernel) ⟨by rw [hR]; decide, by rw [hR]; decide⟩) hK hN hP hD hS hA [] [0, 1, 2, 3] rfl (by decide) rfl (by decide) (by decide) rfl hl.1 rfl (Nat.le_of_ble_eq_true rfl) dX5_build_29 ⟨Nat.zero_le _, Nat.zero_le _⟩ (fun H locs hP hD hS => ?_)
  have hP : va_P E.1 vwCl [(mK, aI E 92 K), (mH, aI E 552 Hc), (mo, .inr (5, [.ref mA, .ref mK, .ref mH, .int (nI hy), .ref mS, .ref mV, .ref mF, .ref mP, .int pl, .int sp, .int nu, .ref mR, .int rm])), (mA, aI E 92 Al)] H := hP
  have hD : va_D A [(mK, aI E 92 K), (mH, aI E 552 Hc), (mo, .inr (5, [.ref mA, .ref mK, .ref mH, .int (nI hy), .ref mS, .ref mV, .ref mF, .ref mP, .int pl, .int sp, .int nu, .ref mR, .int rm])), (mA, aI E 92 Al)] := hD
  refine rk_if_neB (tgt := 38) hx hb dX5_build_32 (by decide) (fun zc32 => ?_) (fun q => absurd (q.symm.trans (inLn_t (a := 1) (b := 99) (by decide) gz1 gz2)) (by decide))
  refine lv_aload_n hx hb dX5_build_38 rfl (lv_at hl 0 rfl) ?_
  refine rk_get (ci := 5) (C := RX5) (T := TX5) (N := 13) hx hb hts iw_X5_build_5 hown hK hP 2 rfl rfl 0 (by decide) fl_X5_build_7 rfl (v := .ref mA) rfl dX5_build_39 ?_
  refine lv_iconst (v := nI 1) hx hb dX5_build_42 (by decide) ?_
  refine rk_iald hx hb hK hP 3 rfl (by omega) (by omega) (v := nI k) (by exact gA1) dX5_build_43 ?_
  refine lv_bipush (v := nI 30) hx hb dX5_build_44 (by decide) ?_
  refine rk_neN (tgt := 52) hx hb (by omega) (by omega) dX5_build_46 (by decide) (fun zc46 => ?_) (fun q => absurd q (by omega))
  refine lv_aload_n hx hb dX5_build_52 rfl (lv_at hl 0 rfl) ?_
  refine kV_v (E := E) (As := []) (rest := []) (wr := [(mH, aI E 552 Hc)]) ⟨hx, hb, hml, hown, hts⟩ (c_X5_keep (l := l) (E := E) (sz := _) (mo := mo) (mA := mA) (mK := mK) (mH := mH) (mS := mS) (mV := mV) (mF := mF) (mP := mP) (mR := mR) (hy := nI hy) (pl := pl) (sp := sp) (nu := nu) (rm := rm) (Al := Al) (K := K) ) (cwV 0 hts gX5_build_X5_keep rfl rfl rfl (by decide +kernel) ⟨by rw [hR]; decide, by rw [hR]; decide⟩) hK hN hP hD hS hA [2, 3, 0] [1] rfl (by decide) rfl (by decide) (by decide) 2 5 rfl rfl rfl hl.1 rfl (Nat.le_of_ble_eq_true rfl) dX5_build_53 ⟨Nat.zero_le _, Nat.zero_le _⟩ (fun H locs hP hD hS => ?_)
  have hP : va_P E.1 vwCl [(mH, aI E 552 Hc), (mo, .inr (5, [.ref mA, .ref mK, .ref mH, .int (nI hy), .ref mS, .ref mV, .ref mF, .ref mP, .int pl, .int sp, .int nu, .ref mR, .int rm])), (mA, aI E 92 Al), (mK, aI E 92 (lsf K Al 92))] H := hP
  have hD : va_D A [(mH, aI E 552 Hc), (mo, .inr (5, [.ref mA, .ref mK, .ref mH, .int (nI hy), .ref mS, .ref mV, .ref mF, .ref mP, .int pl, .int sp, .int nu, .ref mR, .int rm])), (mA, aI E 92 Al), (mK, aI E 92 (lsf K Al 92))] := hD
  refine lv_aload_n hx hb dX5_build_56 rfl (lv_at hl 0 rfl) ?_
  refine lv_iload_n hx hb dX5_build_57 rfl (lv_at hl 1 rfl) ?_
  refine lv_iload_n hx hb dX5_build_58 rfl (lv_at hl 2 rfl) ?_
  refine lv_iload_n hx hb dX5_build_59 rfl (lv_at hl 3 rfl) ?_
  refine kV_v (E := E) (As := [.int (nI x), .int (nI y), .int (nI z)]) (rest := []) (wr := [(mH, aI E 552 Hc), (mK, aI E 92 (lsf K Al 92))]) ⟨hx, hb, hml, hown, hts⟩ (c_X5_adds (l := l) (E := E) (sz := _) (mo := mo) (mA := mA) (mK := mK) (mH := mH) (mS := mS) (mV := mV) (mF := mF) (mP := mP) (mR := mR) (hy := nI hy) (pl := pl) (sp := sp) (nu := nu) (rm := rm) (k := k) (Al := Al) (x := nI x) (y := nI y) (z9 := nI z) (gA1 := by first | assumption | omega) (gk2 := by first | assumption | omega)) (cwV 3 hts gX5_build_X5_adds rfl rfl rfl (by decide +kernel) ⟨by rw [hR]; decide, by rw [hR]; decide⟩) hK hN hP hD hS hA [1, 2] [0, 3] rfl (by decide) rfl (by decide) (by decide) 1 5 rfl rfl rfl hl.1 rfl (Nat.le_of_ble_eq_true rfl) dX5_build_60 ⟨Nat.zero_le _, Nat.zero_le _⟩ (fun H locs hP hD hS => ?_)
  have hP : va_P E.1 vwCl [(mH, aI E 552 Hc), (mK, aI E 92 (lsf K Al 92)), (mo, .inr (5, [.ref mA, .ref mK, .ref mH, .int (nI hy), .ref mS, .ref mV, .ref mF, .ref mP, .int pl, .int sp, .int nu, .ref mR, .int rm])), (mA, aI E 92 (upd (upd (upd (upd Al (2 + k) (if (nI y) ≤ (nI x) then (nI y) else (nI x))) (32 + k) (if (nI y) ≤ (nI x) then (nI x) else (nI y))) (62 + k) (nI z)) 1 (nI (k + 1))))] H := hP
  have hD : va_D A [(mH, aI E 552 Hc), (mK, aI E 92 (lsf K Al 92)), (mo, .inr (5, [.ref mA, .ref mK, .ref mH, .int (nI hy), .ref mS, .ref mV, .ref mF, .ref mP, .int pl, .int sp, .int nu, .ref mR, .int rm])), (mA, aI E 92 (upd (upd (upd (upd Al (2 + k) (if (nI y) ≤ (nI x) then (nI y) else (nI x))) (32 + k) (if (nI y) ≤ (nI x) then (nI x) else (nI y))) (62 + k) (nI z)) 1 (nI (k + 1))))] := hD
  refine lv_aload_n hx hb dX5_build_63 rfl (lv_at hl 0 rfl) ?_
  refine lv_aload_n hx hb dX5_build_64 rfl (lv_at hl 0 rfl) ?_
  have ga9 : okA (adA Al k (nI x) (nI y) (nI z)) (k + 1) := okA_ad gok gk2 ⟨x, by omega, rfl⟩ ⟨y, by omega, rfl⟩
  refine kV_i (E := E) (As := []) (rest := [.ref mo]) (wr := [(mH, aI E 552 Hc), (mK, aI E 92 (lsf K Al 92))]) ⟨hx, hb, hml, hown, hts⟩ (c_X5_pieces (l := l) (E := E) (sz := _) (mo := mo) (mA := mA) (mK := mK) (mH := mH) (mS := mS) (mV := mV) (mF := mF) (mP := mP) (mR := mR) (hy := nI hy) (pl := pl) (sp := sp) (nu := nu) (rm := rm) (n := n) (k := k + 1) (Al := upd (upd (upd (upd Al (2 + k) (if (nI y) ≤ (nI x) then (nI y) else (nI x))) (32 + k) (if (nI y) ≤ (nI x) then (nI x) else (nI y))) (62 + k) (nI z)) 1 (nI (k + 1))) (gA0 := adA_0.trans gA0) (gn := by first | assumption | omega) (gA1 := adA_1) (gk := by omega) (gok := ga9)) (cwV 0 hts gX5_build_X5_pieces rfl rfl rfl (by decide +kernel) ⟨by rw [hR]; decide, by rw [hR]; decide⟩) hK hN hP hD hS hA [2, 3] [0, 1] rfl (by decide) rfl (by decide) (by decide) 2 5 rfl rfl rfl hl.1 rfl (Nat.le_of_ble_eq_true rfl) dX5_build_65 ⟨Nat.zero_le _, Nat.zero_le _⟩ (fun H locs hP hD hS => ?_)
  have hP : va_P E.1 vwCl [(mH, aI E 552 Hc), (mK, aI E 92 (lsf K Al 92)), (mo, .inr (5, [.ref mA, .ref mK, .ref mH, .int (nI hy), .ref mS, .ref mV, .ref mF, .ref mP, .int pl, .int sp, .int nu, .ref mR, .int rm])), (mA, aI E 92 ((upd (upd (upd (upd Al (2 + k) (if (nI y) ≤ (nI x) then (nI y) else (nI x))) (32 + k) (if (nI y) ≤ (nI x) then (nI x) else (nI y))) (62 + k) (nI z)) 1 (nI (k + 1)))))] H := hP
  have hD : va_D A [(mH, aI E 552 Hc), (mK, aI E 92 (lsf K Al 92)), (mo, .inr (5, [.ref mA, .ref mK, .ref mH, .int (nI hy), .ref mS, .ref mV, .ref mF, .ref mP, .int pl, .int sp, .int nu, .ref mR, .int rm])), (mA, aI E 92 ((upd (upd (upd (upd Al (2 + k) (if (nI y) ≤ (nI x) then (nI y) else (nI x))) (32 + k) (if (nI y) ≤ (nI x) then (nI x) else (nI y))) (62 + k) (nI z)) 1 (nI (k + 1)))))] := hD
  refine kV_i (E := E) (As := [.int (nI (piM (upd (upd (upd (upd Al (2 + k) (if (nI y) ≤ (nI x) then (nI y) else (nI x))) (32 + k) (if (nI y) ≤ (nI x) then (nI x) else (nI y))) (62 + k) (nI z)) 1 (nI (k + 1))) (k + 1) n))]) (rest := []) (wr := [(mA, aI E 92 ((upd (upd (upd (upd Al (2 + k) (if (nI y) ≤ (nI x) then (nI y) else (nI x))) (32 + k) (if (nI y) ≤ (nI x) then (nI x) else (nI y))) (62 + k) (nI z)) 1 (nI (k + 1)))))]) ⟨hx, hb, hml, hown, hts⟩ (c_X5_changed_lt (l := l) (E := E) (sz := _) (mo := mo) (mA := mA) (mK := mK) (mH := mH) (mS := mS) (mV := mV) (mF := mF) (mP := mP) (mR := mR) (pl := pl) (sp := sp) (nu := nu) (rm := rm) (hy := hy) (r := nI (piM (upd (upd (upd (upd Al (2 + k) (if (nI y) ≤ (nI x) then (nI y) else (nI x))) (32 + k) (if (nI y) ≤ (nI x) then (nI x) else (nI y))) (62 + k) (nI z)) 1 (nI (k + 1))) (k + 1) n)) (Hc := Hc) (K := lsf K Al 92) (gh := by first | assumption | omega)) (cwV 1 hts gX5_build_X5_changed rfl rfl rfl (by decide +kernel) ⟨by rw [hR]; decide, by rw [hR]; decide⟩) hK hN hP hD hS hA [2, 0, 1] [3] rfl (by decide) rfl (by decide) (by decide) 2 5 rfl rfl rfl hl.1 rfl (Nat.le_of_ble_eq_true rfl) dX5_build_68 ⟨Nat.zero_le _, Nat.zero_le _⟩ (fun H locs hP hD hS => ?_)
  have hP : va_P E.1 vwCl [(mA, aI E 92 ((upd (upd (upd (upd Al (2 + k) (if (nI y) ≤ (nI x) then (nI y) else (nI x))) (32 + k) (if (nI y) ≤ (nI x) then (nI x) else (nI y))) (62 + k) (nI z)) 1 (nI (k + 1))))), (mo, .inr (5, [.ref mA, .ref mK, .ref mH, .int (nI (hy + 1)), .ref mS, .ref mV, .ref mF, .ref mP, .int pl, .int sp, .int nu, .ref mR, .int rm])), (mH, aI E 552 (putH Hc (lsf K Al 92) (92 * hy) 92)), (mK, aI E 92 ((lsf K Al 92)))] H := hP
  have hD : va_D A [(mA, aI E 92 ((upd (upd (upd (upd Al (2 + k) (if (nI y) ≤ (nI x) then (nI y) else (nI x))) (32 + k) (if (nI y) ≤ (nI x) then (nI x) else (nI y))) (62 + k) (nI z)) 1 (nI (k + 1))))), (mo, .inr (5, [.ref mA, .ref mK, .ref mH, .int (nI (hy + 1)), .ref mS, .ref mV, .ref mF, .ref mP, .int pl, .int sp, .int nu, .ref mR, .int rm])), (mH, aI E 552 (putH Hc (lsf K Al 92) (92 * hy) 92)), (mK, aI E 92 ((lsf K Al 92)))] := hD
  exact ret_i hQ hx hb hr hlocks (hP.sub [1, 0, 3, 2] rfl) (hD.sub [1, 0, 3, 2] (by decide) rfl) hS dX5_build_71 (rfl)
theorem iw_X5_lose_5 : ∀ w ∈ u_ws RX5 TX5 13, w ∈ wsX5_lose := by decide +kernel
theorem fl_X5_lose_7 : Cond.fieldLink RX5 7 (TX5 0).1 (TX5 0).2.1 (TX5 0).2.2.1 ∈ wsX5_lose := by decide +kernel
set_option maxHeartbeats 400000 in
set_option maxRecDepth 100000 in
theorem c_X5_lose_oklt (l : Launch) (E : EE) (sz : Nat) (mo mA mK mH mS mV mF mP mR : Nat) (pl sp nu rm : Int32) (hy : Nat) (n k : Nat) (Al : Nat → Int32) (Hc K : Nat → Int32) (r : Nat) (gA0 : Al 0 = nI n) (gn : n ≤ 16) (gA1 : Al 1 = nI k) (gk : k ≤ 30) (gok : okA Al k) (gr : r < k) (gh : hy < 6) : Ci l yX5_lose wsX5_lose 4 93 E [.ref mo, .int (nI r)] [(mo, .inr (5, [.ref mA, .ref mK, .ref mH, .int (nI hy), .ref mS, .ref mV, .ref mF, .ref mP, .int pl, .int sp, .int nu, .ref mR, .int rm])), (mA, aI E 92 Al), (mK, aI E 92 K), (mH, aI E 552 Hc)] sz (nI (piM (loA Al r k) (k - 1) n)) [(mo, .inr (5, [.ref mA, .ref mK, .ref mH, .int (nI (hy + 1)), .ref mS, .ref mV, .ref mF, .ref mP, .int pl, .int sp, .int nu, .ref mR, .int rm])), (mA, aI E 92 (loA Al r k)), (mK, aI E 92 (lsf K Al 92)), (mH, aI E 552 (putH Hc (lsf K Al 92) (92 * hy) 92))] := by
  refine C_of (QQ := QI E (nI (piM (loA Al r k) (k - 1) n)) [(mo, .inr (5, [.ref mA, .ref mK, .ref mH, .int (nI (hy + 1)), .ref mS, .ref mV, .ref mF, .ref mP, .int pl, .int sp, .int nu, .ref mR, .int rm])), (mA, aI E 92 (loA Al r k)), (mK, aI E 92 (lsf K Al 92)), (mH, aI E 552 (putH Hc (lsf K Al 92) (92 * hy) 92))]) (cc := cX5_lose) (maxL := 3) (ret := (some .int)) (by decide +kernel) rfl (Nat.le_of_ble_eq_true rfl) ?_
  intro p e s m args below meth c A R Q ls hx hb hr hts hown hml hlocks hA hK hN hP hD hS hl hR hQ
  have hown : s.vm.findClass RX5 = some m.cls := hown
  have hl : lv_has ls 3 [(0, .ref mo), (1, .int (nI r))] := hl
  refine lv_aload_n hx hb dX5_lose_0 rfl (lv_at hl 0 rfl) ?_
  refine lv_iload_n hx hb dX5_lose_1 rfl (lv_at hl 1 rfl) ?_
  refine kV_i (E := E) (As := [.int (nI r)]) (rest := []) (wr := [(mK, aI E 92 K), (mH, aI E 552 Hc)]) ⟨hx, hb, hml, hown, hts⟩ (c_X5_isRoad (l := l) (E := E) (sz := _) (mo := mo) (mA := mA) (mK := mK) (mH := mH) (mS := mS) (mV := mV) (mF := mF) (mP := mP) (mR := mR) (hy := nI hy) (pl := pl) (sp := sp) (nu := nu) (rm := rm) (n := n) (k := k) (Al := Al) (x := nI r) (gA1 := by first | assumption | omega) (gk := by first | assumption | omega)) (cwV 1 hts gX5_lose_X5_isRoad rfl rfl rfl (by decide +kernel) ⟨by rw [hR]; decide, by rw [hR]; decide⟩) hK hN hP hD hS hA [0, 1] [2, 3] rfl (by decide) rfl (by decide) (by decide) 0 5 rfl rfl rfl hl.1 rfl (Nat.le_of_ble_eq_true rfl) dX5_lose_2 ⟨Nat.zero_le _, Nat.zero_le _⟩ (fun H locs hP hD hS => ?_)
  have hP : va_P E.1 vwCl [(mK, aI E 92 K), (mH, aI E 552 Hc), (mo, .inr (5, [.ref mA, .ref mK, .ref mH, .int (nI hy), .ref mS, .ref mV, .ref mF, .ref mP, .int pl, .int sp, .int nu, .ref mR, .int rm])), (mA, aI E 92 Al)] H := hP
  have hD : va_D A [(mK, aI E 92 K), (mH, aI E 552 Hc), (mo, .inr (5, [.ref mA, .ref mK, .ref mH, .int (nI hy), .ref mS, .ref mV, .ref mF, .ref mP, .int pl, .int sp, .int nu, .ref mR, .int rm])), (mA, aI E 92 Al)] := hD
  refine rk_if_neB (tgt := 10) hx hb dX5_lose_5 (by decide) (fun zc5 => ?_) (fun q => absurd q (by rw [inR_ok gr (by omega)]; decide))
  refine lv_aload_n hx hb dX5_lose_10 rfl (lv_at hl 0 rfl) ?_
  refine kV_v (E := E) (As := []) (rest := []) (wr := [(mH, aI E 552 Hc)]) ⟨hx, hb, hml, hown, hts⟩ (c_X5_keep (l := l) (E := E) (sz := _) (mo := mo) (mA := mA) (mK := mK) (mH := mH) (mS := mS) (mV := mV) (mF := mF) (mP := mP) (mR := mR) (hy := nI hy) (pl := pl) (sp := sp) (nu := nu) (rm := rm) (Al := Al) (K := K) ) (cwV 0 hts gX5_lose_X5_keep rfl rfl rfl (by decide +kernel) ⟨by rw [hR]; decide, by rw [hR]; decide⟩) hK hN hP hD hS hA [2, 3, 0] [1] rfl (by decide) rfl (by decide) (by decide) 2 5 rfl rfl rfl hl.1 rfl (Nat.le_of_ble_eq_true rfl) dX5_lose_11 ⟨Nat.zero_le _, Nat.zero_le _⟩ (fun H locs hP hD hS => ?_)
  have hP : va_P E.1 vwCl [(mH, aI E 552 Hc), (mo, .inr (5, [.ref mA, .ref mK, .ref mH, .int (nI hy), .ref mS, .ref mV, .ref mF, .ref mP, .int pl, .int sp, .int nu, .ref mR, .int rm])), (mA, aI E 92 Al), (mK, aI E 92 (lsf K Al 92))] H := hP
  have hD : va_D A [(mH, aI E 552 Hc), (mo, .inr (5, [.ref mA, .ref mK, .ref mH, .int (nI hy), .ref mS, .ref mV, .ref mF, .ref mP, .int pl, .int sp, .int nu, .ref mR, .int rm])), (mA, aI E 92 Al), (mK, aI E 92 (lsf K Al 92))] := hD
  refine lv_aload_n hx hb dX5_lose_14 rfl (lv_at hl 0 rfl) ?_
  refine rk_get (ci := 5) (C := RX5) (T := TX5) (N := 13) hx hb hts iw_X5_lose_5 hown hK hP 1 rfl rfl 0 (by decide) fl_X5_lose_7 rfl (v := .ref mA) rfl dX5_lose_15 ?_
  refine lv_iconst (v := nI 1) hx hb dX5_lose_18 (by decide) ?_
  refine lv_dup2_11 hx hb dX5_lose_19 rfl rfl ?_
  refine rk_iald hx hb hK hP 2 rfl (by omega) (by omega) (v := nI k) (by exact gA1) dX5_lose_20 ?_
  refine lv_iconst (v := nI 1) hx hb dX5_lose_21 (by decide) ?_
  refine rk_isubN hx hb (by omega) dX5_lose_22 ?_
  refine rk_iast hx hb hK hP hD hS 2 rfl (by omega) (by omega) (ws' := [(mH, aI E 552 Hc), (mo, .inr (5, [.ref mA, .ref mK, .ref mH, .int (nI hy), .ref mS, .ref mV, .ref mF, .ref mP, .int pl, .int sp, .int nu, .ref mR, .int rm])), (mA, aI E 92 (upd Al 1 (nI (k - 1)))), (mK, aI E 92 (lsf K Al 92))]) rfl dX5_lose_23 (fun H locs hP hD hS => ?_)
  refine lv_iload_n hx hb dX5_lose_24 rfl (lv_at hl 1 rfl) ?_
  refine lv_istore_n (lv' := [(2, .int (nI r)), (0, .ref mo), (1, .int (nI r))]) hx hb dX5_lose_25 rfl hl (by decide) rfl (fun ls hl => ?_)
  have L26 : ∀ (fu : Nat) (i : Nat) (f : Nat → Int32), (ef : f = loF Al r k i) → (g1 : r ≤ i) → (g2 : i ≤ k - 1) → k - i < fu → ∀ (H : Heap) (locs : List Loc), va_P E.1 vwCl [(mH, aI E 552 Hc), (mo, .inr (5, [.ref mA, .ref mK, .ref mH, .int (nI hy), .ref mS, .ref mV, .ref mF, .ref mP, .int pl, .int sp, .int nu, .ref mR, .int rm])), (mA, aI E 92 f), (mK, aI E 92 (lsf K Al 92))] H → va_D A [(mH, aI E 552 Hc), (mo, .inr (5, [.ref mA, .ref mK, .ref mH, .int (nI hy), .ref mS, .ref mV, .ref mF, .ref mP, .int pl, .int sp, .int nu, .ref mR, .int rm])), (mA, aI E 92 f), (mK, aI E 92 (lsf K Al 92))] → va_S A s.heap H locs → ∀ (ls : Array Slot), lv_has ls 3 [(2, .int (nI i)), (0, .ref mo), (1, .int (nI r))] → W p l e R s m args below meth c H locs 0 0 Q (F0 m 26 ls []) := by
    intro fu
    induction fu with
    | zero => intro i f ef g1 g2 hfu; exact absurd hfu (Nat.not_lt_zero _)
    | succ fu ih26 =>
      intro i f ef g1 g2 hfu H locs hP hD hS ls hl
      refine lv_iload_n hx hb dX5_lose_26 rfl (lv_at hl 0 rfl) ?_
      refine lv_aload_n hx hb dX5_lose_27 rfl (lv_at hl 1 rfl) ?_
      refine rk_get (ci := 5) (C := RX5) (T := TX5) (N := 13) hx hb hts iw_X5_lose_5 hown hK hP 1 rfl rfl 0 (by decide) fl_X5_lose_7 rfl (v := .ref mA) rfl dX5_lose_28 ?_
      refine lv_iconst (v := nI 1) hx hb dX5_lose_31 (by decide) ?_
      refine rk_iald hx hb hK hP 2 rfl (by omega) (by omega) (v := nI (k - 1)) (by rw [ef]; exact loF_one) dX5_lose_32 ?_
      refine rk_geN (tgt := 100) hx hb (by omega) (by omega) dX5_lose_33 (by decide) (fun zc33 => ?_) (fun zc33 => ?_)
      · have ei9 : i = k - 1 := by omega
        subst ei9
        subst ef
        refine lv_aload_n hx hb dX5_lose_100 rfl (lv_at hl 1 rfl) ?_
        refine lv_aload_n hx hb dX5_lose_101 rfl (lv_at hl 1 rfl) ?_
        have ga9 : okA (loA Al r k) (k - 1) := okA_lo gok gr gk
        refine kV_i (E := E) (As := []) (rest := [.ref mo]) (wr := [(mH, aI E 552 Hc), (mK, aI E 92 (lsf K Al 92))]) ⟨hx, hb, hml, hown, hts⟩ (c_X5_pieces (l := l) (E := E) (sz := _) (mo := mo) (mA := mA) (mK := mK) (mH := mH) (mS := mS) (mV := mV) (mF := mF) (mP := mP) (mR := mR) (hy := nI hy) (pl := pl) (sp := sp) (nu := nu) (rm := rm) (n := n) (k := k - 1) (Al := (loA Al r k)) (gA0 := (loA_0 gk).trans gA0) (gn := by first | assumption | omega) (gA1 := loF_one) (gk := by omega) (gok := ga9)) (cwV 0 hts gX5_lose_X5_pieces rfl rfl rfl (by decide +kernel) ⟨by rw [hR]; decide, by rw [hR]; decide⟩) hK hN hP hD hS hA [1, 2] [0, 3] rfl (by decide) rfl (by decide) (by decide) 1 5 rfl rfl rfl hl.1 rfl (Nat.le_of_ble_eq_true rfl) dX5_lose_102 ⟨Nat.zero_le _, Nat.zero_le _⟩ (fun H locs hP hD hS => ?_)
        have hP : va_P E.1 vwCl [(mH, aI E 552 Hc), (mK, aI E 92 (lsf K Al 92)), (mo, .inr (5, [.ref mA, .ref mK, .ref mH, .int (nI hy), .ref mS, .ref mV, .ref mF, .ref mP, .int pl, .int sp, .int nu, .ref mR, .int rm])), (mA, aI E 92 (((loA Al r k))))] H := hP
        have hD : va_D A [(mH, aI E 552 Hc), (mK, aI E 92 (lsf K Al 92)), (mo, .inr (5, [.ref mA, .ref mK, .ref mH, .int (nI hy), .ref mS, .ref mV, .ref mF, .ref mP, .int pl, .int sp, .int nu, .ref mR, .int rm])), (mA, aI E 92 (((loA Al r k))))] := hD
        refine kV_i (E := E) (As := [.int (nI (piM ((loA Al r k)) (k - 1) n))]) (rest := []) (wr := [(mA, aI E 92 (((loA Al r k))))]) ⟨hx, hb, hml, hown, hts⟩ (c_X5_changed_lt (l := l) (E := E) (sz := _) (mo := mo) (mA := mA) (mK := mK) (mH := mH) (mS := mS) (mV := mV) (mF := mF) (mP := mP) (mR := mR) (pl := pl) (sp := sp) (nu := nu) (rm := rm) (hy := hy) (r := nI (piM ((loA Al r k)) (k - 1) n)) (Hc := Hc) (K := lsf K Al 92) (gh := by first | assumption | omega)) (cwV 1 hts gX5_lose_X5_changed rfl rfl rfl (by decide +kernel) ⟨by rw [hR]; decide, by rw [hR]; decide⟩) hK hN hP hD hS hA [2, 0, 1] [3] rfl (by decide) rfl (by decide) (by decide) 2 5 rfl rfl rfl hl.1 rfl (Nat.le_of_ble_eq_true rfl) dX5_lose_105 ⟨Nat.zero_le _, Nat.zero_le _⟩ (fun H locs hP hD hS => ?_)
        have hP : va_P E.1 vwCl [(mA, aI E 92 (((loA Al r k)))), (mo, .inr (5, [.ref mA, .ref mK, .ref mH, .int (nI (hy + 1)), .ref mS, .ref mV, .ref mF, .ref mP, .int pl, .int sp, .int nu, .ref mR, .int rm])), (mH, aI E 552 (putH Hc (lsf K Al 92) (92 * hy) 92)), (mK, aI E 92 ((lsf K Al 92)))] H := hP
        have hD : va_D A [(mA, aI E 92 (((loA Al r k)))), (mo, .inr (5, [.ref mA, .ref mK, .ref mH, .int (nI (hy + 1)), .ref mS, .ref mV, .ref mF, .ref mP, .int pl, .int sp, .int nu, .ref mR, .int rm])), (mH, aI E 552 (putH Hc (lsf K Al 92) (92 * hy) 92)), (mK, aI E 92 ((lsf K Al 92)))] := hD
        exact ret_i hQ hx hb hr hlocks (hP.sub [1, 0, 3, 2] rfl) (hD.sub [1, 0, 3, 2] (by decide) rfl) hS dX5_lose_108 (rfl)
      · refine lv_aload_n hx hb dX5_lose_36 rfl (lv_at hl 1 rfl) ?_
        refine rk_get (ci := 5) (C := RX5) (T := TX5) (N := 13) hx hb hts iw_X5_lose_5 hown hK hP 1 rfl rfl 0 (by decide) fl_X5_lose_7 rfl (v := .ref mA) rfl dX5_lose_37 ?_
        refine lv_iconst (v := nI 2) hx hb dX5_lose_40 (by decide) ?_
        refine lv_iload_n hx hb dX5_lose_41 rfl (lv_at hl 0 rfl) ?_
        refine rk_iaddN hx hb dX5_lose_42 ?_
        refine lv_aload_n hx hb dX5_lose_43 rfl (lv_at hl 1 rfl) ?_
        refine rk_get (ci := 5) (C := RX5) (T := TX5) (N := 13) hx hb hts iw_X5_lose_5 hown hK hP 1 rfl rfl 0 (by decide) fl_X5_lose_7 rfl (v := .ref mA) rfl dX5_lose_44 ?_
        refine lv_iconst (v := nI 2) hx hb dX5_lose_47 (by decide) ?_
        refine lv_iload_n hx hb dX5_lose_48 rfl (lv_at hl 0 rfl) ?_
        refine rk_iaddN hx hb dX5_lose_49 ?_
        refine lv_iconst (v := nI 1) hx hb dX5_lose_50 (by decide) ?_
        refine rk_iaddN hx hb dX5_lose_51 ?_
        refine rk_iald hx hb hK hP 2 rfl (by omega) (by omega) (v := f ((2 + i) + 1)) (rfl) dX5_lose_52 ?_
        refine rk_iast hx hb hK hP hD hS 2 rfl (by omega) (by omega) (ws' := [(mH, aI E 552 Hc), (mo, .inr (5, [.ref mA, .ref mK, .ref mH, .int (nI hy), .ref mS, .ref mV, .ref mF, .ref mP, .int pl, .int sp, .int nu, .ref mR, .int rm])), (mA, aI E 92 (upd f (2 + i) (f ((2 + i) + 1)))), (mK, aI E 92 (lsf K Al 92))]) rfl dX5_lose_53 (fun H locs hP hD hS => ?_)
        refine lv_aload_n hx hb dX5_lose_54 rfl (lv_at hl 1 rfl) ?_
        refine rk_get (ci := 5) (C := RX5) (T := TX5) (N := 13) hx hb hts iw_X5_lose_5 hown hK hP 1 rfl rfl 0 (by decide) fl_X5_lose_7 rfl (v := .ref mA) rfl dX5_lose_55 ?_
        refine lv_bipush (v := nI 32) hx hb dX5_lose_58 (by decide) ?_
        refine lv_iload_n hx hb dX5_lose_60 rfl (lv_at hl 0 rfl) ?_
        refine rk_iaddN hx hb dX5_lose_61 ?_
        refine lv_aload_n hx hb dX5_lose_62 rfl (lv_at hl 1 rfl) ?_
        refine rk_get (ci := 5) (C := RX5) (T := TX5) (N := 13) hx hb hts iw_X5_lose_5 hown hK hP 1 rfl rfl 0 (by decide) fl_X5_lose_7 rfl (v := .ref mA) rfl dX5_lose_63 ?_
        refine lv_bipush (v := nI 32) hx hb dX5_lose_66 (by decide) ?_
        refine lv_iload_n hx hb dX5_lose_68 rfl (lv_at hl 0 rfl) ?_
        refine rk_iaddN hx hb dX5_lose_69 ?_
        refine lv_iconst (v := nI 1) hx hb dX5_lose_70 (by decide) ?_
        refine rk_iaddN hx hb dX5_lose_71 ?_
        refine rk_iald hx hb hK hP 2 rfl (by omega) (by omega) (v := (upd f (2 + i) (f ((2 + i) + 1))) ((32 + i) + 1)) (rfl) dX5_lose_72 ?_
        refine rk_iast hx hb hK hP hD hS 2 rfl (by omega) (by omega) (ws' := [(mH, aI E 552 Hc), (mo, .inr (5, [.ref mA, .ref mK, .ref mH, .int (nI hy), .ref mS, .ref mV, .ref mF, .ref mP, .int pl, .int sp, .int nu, .ref mR, .int rm])), (mA, aI E 92 (upd (upd f (2 + i) (f ((2 + i) + 1))) (32 + i) ((upd f (2 + i) (f ((2 + i) + 1))) ((32 + i) + 1)))), (mK, aI E 92 (lsf K Al 92))]) rfl dX5_lose_73 (fun H locs hP hD hS => ?_)
        refine lv_aload_n hx hb dX5_lose_74 rfl (lv_at hl 1 rfl) ?_
        refine rk_get (ci := 5) (C := RX5) (T := TX5) (N := 13) hx hb hts iw_X5_lose_5 hown hK hP 1 rfl rfl 0 (by decide) fl_X5_lose_7 rfl (v := .ref mA) rfl dX5_lose_75 ?_
        refine lv_bipush (v := nI 62) hx hb dX5_lose_78 (by decide) ?_
        refine lv_iload_n hx hb dX5_lose_80 rfl (lv_at hl 0 rfl) ?_
        refine rk_iaddN hx hb dX5_lose_81 ?_
        refine lv_aload_n hx hb dX5_lose_82 rfl (lv_at hl 1 rfl) ?_
        refine rk_get (ci := 5) (C := RX5) (T := TX5) (N := 13) hx hb hts iw_X5_lose_5 hown hK hP 1 rfl rfl 0 (by decide) fl_X5_lose_7 rfl (v := .ref mA) rfl dX5_lose_83 ?_
        refine lv_bipush (v := nI 62) hx hb dX5_lose_86 (by decide) ?_
        refine lv_iload_n hx hb dX5_lose_88 rfl (lv_at hl 0 rfl) ?_
        refine rk_iaddN hx hb dX5_lose_89 ?_
        refine lv_iconst (v := nI 1) hx hb dX5_lose_90 (by decide) ?_
        refine rk_iaddN hx hb dX5_lose_91 ?_
        refine rk_iald hx hb hK hP 2 rfl (by omega) (by omega) (v := (upd (upd f (2 + i) (f ((2 + i) + 1))) (32 + i) ((upd f (2 + i) (f ((2 + i) + 1))) ((32 + i) + 1))) ((62 + i) + 1)) (rfl) dX5_lose_92 ?_
        refine rk_iast hx hb hK hP hD hS 2 rfl (by omega) (by omega) (ws' := [(mH, aI E 552 Hc), (mo, .inr (5, [.ref mA, .ref mK, .ref mH, .int (nI hy), .ref mS, .ref mV, .ref mF, .ref mP, .int pl, .int sp, .int nu, .ref mR, .int rm])), (mA, aI E 92 (upd (upd (upd f (2 + i) (f ((2 + i) + 1))) (32 + i) ((upd f (2 + i) (f ((2 + i) + 1))) ((32 + i) + 1))) (62 + i) ((upd (upd f (2 + i) (f ((2 + i) + 1))) (32 + i) ((upd f (2 + i) (f ((2 + i) + 1))) ((32 + i) + 1))) ((62 + i) + 1)))), (mK, aI E 92 (lsf K Al 92))]) rfl dX5_lose_93 (fun H locs hP hD hS => ?_)
        refine lv_iinc (v := nI (i + 1)) (lv' := [(2, .int (nI (i + 1))), (0, .ref mo), (1, .int (nI r))]) hx hb dX5_lose_94 hl (k := 0) rfl (by rw [show Int32.ofInt 1 = nI 1 by decide]; exact nI_add _ _) (by decide) rfl (fun ls hl => ?_)
        refine lv_goto (tgt := 26) hx hb dX5_lose_97 (by decide) ?_
        exact ih26 (i + 1) (upd (upd (upd f (2 + i) (f ((2 + i) + 1))) (32 + i) ((upd f (2 + i) (f ((2 + i) + 1))) ((32 + i) + 1))) (62 + i) ((upd (upd f (2 + i) (f ((2 + i) + 1))) (32 + i) ((upd f (2 + i) (f ((2 + i) + 1))) ((32 + i) + 1))) ((62 + i) + 1))) (by rw [ef]; exact loF_s (by omega) (by omega) (by omega)) (by first | assumption | omega | rfl) (by first | assumption | omega | rfl) (by omega) _ _ (hP.sub [0, 1, 2, 3] rfl) (hD.sub [0, 1, 2, 3] (by decide) rfl) hS ls (lv_sub hl [0, 1, 2] rfl)
  exact L26 ((k - r) + 1) r (upd Al 1 (nI (k - 1))) (by exact loF_0) (by first | assumption | omega | rfl) (by first | assumption | omega | rfl) (Nat.lt_succ_self _) _ _ (hP.sub [0, 1, 2, 3] rfl) (hD.sub [0, 1, 2, 3] (by decide) rfl) hS ls (lv_sub hl [0, 1, 2] rfl)
theorem iw_X5_restore_5 : ∀ w ∈ u_ws RX5 TX5 13, w ∈ wsX5_restore := by decide +kernel
theorem fl_X5_restore_22 : Cond.fieldLink RX5 22 (TX5 5).1 (TX5 5).2.1 (TX5 5).2.2.1 ∈ wsX5_restore := by decide +kernel
theorem fl_X5_restore_7 : Cond.fieldLink RX5 7 (TX5 0).1 (TX5 0).2.1 (TX5 0).2.2.1 ∈ wsX5_restore := by decide +kernel
theorem fl_X5_restore_19 : Cond.fieldLink RX5 19 (TX5 4).1 (TX5 4).2.1 (TX5 4).2.2.1 ∈ wsX5_restore := by decide +kernel
set_option maxHeartbeats 400000 in
set_option maxRecDepth 100000 in
theorem c_X5_restore_oklt (l : Launch) (E : EE) (sz : Nat) (mo mA mK mH mS mV mF mP mR : Nat) (pl sp nu rm : Int32) (hy : Nat) (n k : Nat) (Al : Nat → Int32) (Hc K : Nat → Int32) (j k2 : Nat) (Sl sv : Nat → Int32) (gj : j < 2) (gsv : sv j = nI 1) (gS1 : hsF Sl (92 * j) 1 = nI k2) (gh : hy < 6) : Ci l yX5_restore wsX5_restore 1 25 E [.ref mo, .int (nI j)] [(mo, .inr (5, [.ref mA, .ref mK, .ref mH, .int (nI hy), .ref mS, .ref mV, .ref mF, .ref mP, .int pl, .int sp, .int nu, .ref mR, .int rm])), (mA, aI E 92 Al), (mK, aI E 92 K), (mH, aI E 552 Hc), (mS, aI E 184 Sl), (mV, aI E 2 sv)] sz (nI k2) [(mo, .inr (5, [.ref mA, .ref mK, .ref mH, .int (nI (hy + 1)), .ref mS, .ref mV, .ref mF, .ref mP, .int pl, .int sp, .int nu, .ref mR, .int rm])), (mA, aI E 92 (lsf Al (hsF Sl (92 * j)) 92)), (mK, aI E 92 (lsf K Al 92)), (mH, aI E 552 (putH Hc (lsf K Al 92) (92 * hy) 92)), (mS, aI E 184 Sl), (mV, aI E 2 sv)] := by
  refine C_of (QQ := QI E (nI k2) [(mo, .inr (5, [.ref mA, .ref mK, .ref mH, .int (nI (hy + 1)), .ref mS, .ref mV, .ref mF, .ref mP, .int pl, .int sp, .int nu, .ref mR, .int rm])), (mA, aI E 92 (lsf Al (hsF Sl (92 * j)) 92)), (mK, aI E 92 (lsf K Al 92)), (mH, aI E 552 (putH Hc (lsf K Al 92) (92 * hy) 92)), (mS, aI E 184 Sl), (mV, aI E 2 sv)]) (cc := cX5_restore) (maxL := 3) (ret := (some .int)) (by decide +kernel) rfl (Nat.le_of_ble_eq_true rfl) ?_
  intro p e s m args below meth c A R Q ls hx hb hr hts hown hml hlocks hA hK hN hP hD hS hl hR hQ
  have hown : s.vm.findClass RX5 = some m.cls := hown
  have hl : lv_has ls 3 [(0, .ref mo), (1, .int (nI j))] := hl
  refine lv_iload_n hx hb dX5_restore_0 rfl (lv_at hl 1 rfl) ?_
  refine lv_i2l hx hb dX5_restore_1 rfl ?_
  refine lv_lconst (v := 0) hx hb dX5_restore_2 (by decide) ?_
  refine lv_lconst (v := 1) hx hb dX5_restore_3 (by decide) ?_
  refine kS_i (E := E) (As := [.long ((nI j).toInt64), .long ((0 : Int64)), .long ((1 : Int64))]) (rest := []) (wr := [(mo, .inr (5, [.ref mA, .ref mK, .ref mH, .int (nI hy), .ref mS, .ref mV, .ref mF, .ref mP, .int pl, .int sp, .int nu, .ref mR, .int rm])), (mA, aI E 92 Al), (mK, aI E 92 K), (mH, aI E 552 Hc), (mS, aI E 184 Sl), (mV, aI E 2 sv)]) ⟨hx, hb, hml, hown, hts⟩ (c_X5_in (l := l) (E := E) (sz := _) (v := (nI j).toInt64) (lo9 := (0 : Int64)) (hi9 := (1 : Int64)) ) (cwS 3 hts gX5_restore_X5_in rfl rfl rfl (by decide +kernel) ⟨by rw [hR]; decide, by rw [hR]; decide⟩) hK hN hP hD hS hA [] [0, 1, 2, 3, 4, 5] rfl (by decide) rfl (by decide) (by decide) rfl hl.1 rfl (Nat.le_of_ble_eq_true rfl) dX5_restore_4 ⟨Nat.zero_le _, Nat.zero_le _⟩ (fun H locs hP hD hS => ?_)
  have hP : va_P E.1 vwCl [(mo, .inr (5, [.ref mA, .ref mK, .ref mH, .int (nI hy), .ref mS, .ref mV, .ref mF, .ref mP, .int pl, .int sp, .int nu, .ref mR, .int rm])), (mA, aI E 92 Al), (mK, aI E 92 K), (mH, aI E 552 Hc), (mS, aI E 184 Sl), (mV, aI E 2 sv)] H := hP
  have hD : va_D A [(mo, .inr (5, [.ref mA, .ref mK, .ref mH, .int (nI hy), .ref mS, .ref mV, .ref mF, .ref mP, .int pl, .int sp, .int nu, .ref mR, .int rm])), (mA, aI E 92 Al), (mK, aI E 92 K), (mH, aI E 552 Hc), (mS, aI E 184 Sl), (mV, aI E 2 sv)] := hD
  refine rk_if_neB (tgt := 13) hx hb dX5_restore_7 (by decide) (fun zc7 => ?_) (fun q => absurd (q.symm.trans (inLn_t (a := 0) (b := 1) (by decide) (by omega) (by omega))) (by decide))
  refine lv_aload_n hx hb dX5_restore_13 rfl (lv_at hl 0 rfl) ?_
  refine rk_get (ci := 5) (C := RX5) (T := TX5) (N := 13) hx hb hts iw_X5_restore_5 hown hK hP 0 rfl rfl 5 (by decide) fl_X5_restore_22 rfl (v := .ref mV) rfl dX5_restore_14 ?_
  refine lv_iload_n hx hb dX5_restore_17 rfl (lv_at hl 1 rfl) ?_
  refine rk_iald hx hb hK hP 5 rfl (by omega) (by omega) (v := sv j) (rfl) dX5_restore_18 ?_
  refine lv_if_ne (tgt := 25) hx hb dX5_restore_19 (by decide) (fun zc19 => ?_) (fun q => absurd q (by rw [gsv]; decide))
  refine lv_aload_n hx hb dX5_restore_25 rfl (lv_at hl 0 rfl) ?_
  refine kV_v (E := E) (As := []) (rest := []) (wr := [(mH, aI E 552 Hc), (mS, aI E 184 Sl), (mV, aI E 2 sv)]) ⟨hx, hb, hml, hown, hts⟩ (c_X5_keep (l := l) (E := E) (sz := _) (mo := mo) (mA := mA) (mK := mK) (mH := mH) (mS := mS) (mV := mV) (mF := mF) (mP := mP) (mR := mR) (hy := nI hy) (pl := pl) (sp := sp) (nu := nu) (rm := rm) (Al := Al) (K := K) ) (cwV 0 hts gX5_restore_X5_keep rfl rfl rfl (by decide +kernel) ⟨by rw [hR]; decide, by rw [hR]; decide⟩) hK hN hP hD hS hA [0, 1, 2] [3, 4, 5] rfl (by decide) rfl (by decide) (by decide) 0 5 rfl rfl rfl hl.1 rfl (Nat.le_of_ble_eq_true rfl) dX5_restore_26 ⟨Nat.zero_le _, Nat.zero_le _⟩ (fun H locs hP hD hS => ?_)
  have hP : va_P E.1 vwCl [(mH, aI E 552 Hc), (mS, aI E 184 Sl), (mV, aI E 2 sv), (mo, .inr (5, [.ref mA, .ref mK, .ref mH, .int (nI hy), .ref mS, .ref mV, .ref mF, .ref mP, .int pl, .int sp, .int nu, .ref mR, .int rm])), (mA, aI E 92 Al), (mK, aI E 92 (lsf K Al 92))] H := hP
  have hD : va_D A [(mH, aI E 552 Hc), (mS, aI E 184 Sl), (mV, aI E 2 sv), (mo, .inr (5, [.ref mA, .ref mK, .ref mH, .int (nI hy), .ref mS, .ref mV, .ref mF, .ref mP, .int pl, .int sp, .int nu, .ref mR, .int rm])), (mA, aI E 92 Al), (mK, aI E 92 (lsf K Al 92))] := hD
  refine lv_iconst (v := nI 0) hx hb dX5_restore_29 (by decide) ?_
  refine lv_istore_n (lv' := [(2, .int (nI 0)), (0, .ref mo), (1, .int (nI j))]) hx hb dX5_restore_30 rfl hl (by decide) rfl (fun ls hl => ?_)
  have L31 : ∀ (fu : Nat) (i : Nat) (f : Nat → Int32), (ef : f = lsf Al (hsF Sl (92 * j)) i) → (gi : i ≤ 92) → 92 - i < fu → ∀ (H : Heap) (locs : List Loc), va_P E.1 vwCl [(mH, aI E 552 Hc), (mS, aI E 184 Sl), (mV, aI E 2 sv), (mo, .inr (5, [.ref mA, .ref mK, .ref mH, .int (nI hy), .ref mS, .ref mV, .ref mF, .ref mP, .int pl, .int sp, .int nu, .ref mR, .int rm])), (mA, aI E 92 f), (mK, aI E 92 (lsf K Al 92))] H → va_D A [(mH, aI E 552 Hc), (mS, aI E 184 Sl), (mV, aI E 2 sv), (mo, .inr (5, [.ref mA, .ref mK, .ref mH, .int (nI hy), .ref mS, .ref mV, .ref mF, .ref mP, .int pl, .int sp, .int nu, .ref mR, .int rm])), (mA, aI E 92 f), (mK, aI E 92 (lsf K Al 92))] → va_S A s.heap H locs → ∀ (ls : Array Slot), lv_has ls 3 [(2, .int (nI i)), (0, .ref mo), (1, .int (nI j))] → W p l e R s m args below meth c H locs 0 0 Q (F0 m 31 ls []) := by
    intro fu
    induction fu with
    | zero => intro i f ef gi hfu; exact absurd hfu (Nat.not_lt_zero _)
    | succ fu ih31 =>
      intro i f ef gi hfu H locs hP hD hS ls hl
      refine lv_iload_n hx hb dX5_restore_31 rfl (lv_at hl 0 rfl) ?_
      refine lv_bipush (v := nI 92) hx hb dX5_restore_32 (by decide) ?_
      refine rk_geN (tgt := 60) hx hb (by omega) (by omega) dX5_restore_34 (by decide) (fun zc34 => ?_) (fun zc34 => ?_)
      · obtain rfl : 92 = i := by omega
        subst ef
        refine lv_aload_n hx hb dX5_restore_60 rfl (lv_at hl 1 rfl) ?_
        refine lv_aload_n hx hb dX5_restore_61 rfl (lv_at hl 1 rfl) ?_
        refine rk_get (ci := 5) (C := RX5) (T := TX5) (N := 13) hx hb hts iw_X5_restore_5 hown hK hP 3 rfl rfl 0 (by decide) fl_X5_restore_7 rfl (v := .ref mA) rfl dX5_restore_62 ?_
        refine lv_iconst (v := nI 1) hx hb dX5_restore_65 (by decide) ?_
        refine rk_iald hx hb hK hP 4 rfl (by omega) (by omega) (v := nI k2) (by rw [lsf, if_pos (by decide)]; exact gS1) dX5_restore_66 ?_
        refine kV_i (E := E) (As := [.int (nI k2)]) (rest := []) (wr := [(mS, aI E 184 Sl), (mV, aI E 2 sv), (mA, aI E 92 ((lsf Al (hsF Sl (92 * j)) 92)))]) ⟨hx, hb, hml, hown, hts⟩ (c_X5_changed_lt (l := l) (E := E) (sz := _) (mo := mo) (mA := mA) (mK := mK) (mH := mH) (mS := mS) (mV := mV) (mF := mF) (mP := mP) (mR := mR) (pl := pl) (sp := sp) (nu := nu) (rm := rm) (hy := hy) (r := nI k2) (Hc := Hc) (K := lsf K Al 92) (gh := by first | assumption | omega)) (cwV 1 hts gX5_restore_X5_changed rfl rfl rfl (by decide +kernel) ⟨by rw [hR]; decide, by rw [hR]; decide⟩) hK hN hP hD hS hA [3, 0, 5] [1, 2, 4] rfl (by decide) rfl (by decide) (by decide) 3 5 rfl rfl rfl hl.1 rfl (Nat.le_of_ble_eq_true rfl) dX5_restore_67 ⟨Nat.zero_le _, Nat.zero_le _⟩ (fun H locs hP hD hS => ?_)
        have hP : va_P E.1 vwCl [(mS, aI E 184 Sl), (mV, aI E 2 sv), (mA, aI E 92 ((lsf Al (hsF Sl (92 * j)) 92))), (mo, .inr (5, [.ref mA, .ref mK, .ref mH, .int (nI (hy + 1)), .ref mS, .ref mV, .ref mF, .ref mP, .int pl, .int sp, .int nu, .ref mR, .int rm])), (mH, aI E 552 (putH Hc (lsf K Al 92) (92 * hy) 92)), (mK, aI E 92 ((lsf K Al 92)))] H := hP
        have hD : va_D A [(mS, aI E 184 Sl), (mV, aI E 2 sv), (mA, aI E 92 ((lsf Al (hsF Sl (92 * j)) 92))), (mo, .inr (5, [.ref mA, .ref mK, .ref mH, .int (nI (hy + 1)), .ref mS, .ref mV, .ref mF, .ref mP, .int pl, .int sp, .int nu, .ref mR, .int rm])), (mH, aI E 552 (putH Hc (lsf K Al 92) (92 * hy) 92)), (mK, aI E 92 ((lsf K Al 92)))] := hD
        exact ret_i hQ hx hb hr hlocks (hP.sub [3, 2, 5, 4, 0, 1] rfl) (hD.sub [3, 2, 5, 4, 0, 1] (by decide) rfl) hS dX5_restore_70 (rfl)
      · refine lv_aload_n hx hb dX5_restore_37 rfl (lv_at hl 1 rfl) ?_
        refine rk_get (ci := 5) (C := RX5) (T := TX5) (N := 13) hx hb hts iw_X5_restore_5 hown hK hP 3 rfl rfl 0 (by decide) fl_X5_restore_7 rfl (v := .ref mA) rfl dX5_restore_38 ?_
        refine lv_iload_n hx hb dX5_restore_41 rfl (lv_at hl 0 rfl) ?_
        refine lv_aload_n hx hb dX5_restore_42 rfl (lv_at hl 1 rfl) ?_
        refine rk_get (ci := 5) (C := RX5) (T := TX5) (N := 13) hx hb hts iw_X5_restore_5 hown hK hP 3 rfl rfl 4 (by decide) fl_X5_restore_19 rfl (v := .ref mS) rfl dX5_restore_43 ?_
        refine lv_bipush (v := nI 92) hx hb dX5_restore_46 (by decide) ?_
        refine lv_iload_n hx hb dX5_restore_48 rfl (lv_at hl 2 rfl) ?_
        refine rk_imulN hx hb dX5_restore_49 ?_
        refine lv_iload_n hx hb dX5_restore_50 rfl (lv_at hl 0 rfl) ?_
        refine rk_iaddN hx hb dX5_restore_51 ?_
        refine rk_iald hx hb hK hP 1 rfl (by omega) (by omega) (v := Sl ((92 * j) + i)) (rfl) dX5_restore_52 ?_
        refine rk_iast hx hb hK hP hD hS 4 rfl (by omega) (by omega) (ws' := [(mH, aI E 552 Hc), (mS, aI E 184 Sl), (mV, aI E 2 sv), (mo, .inr (5, [.ref mA, .ref mK, .ref mH, .int (nI hy), .ref mS, .ref mV, .ref mF, .ref mP, .int pl, .int sp, .int nu, .ref mR, .int rm])), (mA, aI E 92 (upd f i (Sl ((92 * j) + i)))), (mK, aI E 92 (lsf K Al 92))]) rfl dX5_restore_53 (fun H locs hP hD hS => ?_)
        refine lv_iinc (v := nI (i + 1)) (lv' := [(2, .int (nI (i + 1))), (0, .ref mo), (1, .int (nI j))]) hx hb dX5_restore_54 hl (k := 0) rfl (by rw [show Int32.ofInt 1 = nI 1 by decide]; exact nI_add _ _) (by decide) rfl (fun ls hl => ?_)
        refine lv_goto (tgt := 31) hx hb dX5_restore_57 (by decide) ?_
        exact ih31 (i + 1) (upd f i (Sl ((92 * j) + i))) (by rw [ef]; exact lsf_1 Al (hsF Sl (92 * j)) i) (by first | assumption | omega | rfl) (by omega) _ _ (hP.sub [0, 1, 2, 3, 4, 5] rfl) (hD.sub [0, 1, 2, 3, 4, 5] (by decide) rfl) hS ls (lv_sub hl [0, 1, 2] rfl)
  exact L31 ((92 - 0) + 1) 0 Al (by exact (lsf_0 _ _).symm) (by first | assumption | omega | rfl) (Nat.lt_succ_self _) _ _ (hP.sub [0, 1, 2, 3, 4, 5] rfl) (hD.sub [0, 1, 2, 3, 4, 5] (by decide) rfl) hS ls (lv_sub hl [0, 1, 2] rfl)
theorem iw_X5_read_5 : ∀ w ∈ u_ws RX5 TX5 13, w ∈ wsX5_read := by decide +kernel
theorem fl_X5_read_7 : Cond.fieldLink RX5 7 (TX5 0).1 (TX5 0).2.1 (TX5 0).2.2.1 ∈ wsX5_read := by decide +kernel
theorem fl_X5_read_172 : Cond.fieldLink RX5 172 (TX5 12).1 (TX5 12).2.1 (TX5 12).2.2.1 ∈ wsX5_read := by decide +kernel
theorem fl_X5_read_141 : Cond.fieldLink RX5 141 (TX5 8).1 (TX5 8).2.1 (TX5 8).2.2.1 ∈ wsX5_read := by decide +kernel
theorem fl_X5_read_31 : Cond.fieldLink RX5 31 (TX5 11).1 (TX5 11).2.1 (TX5 11).2.2.1 ∈ wsX5_read := by decide +kernel
set_option maxHeartbeats 400000 in
set_option maxRecDepth 100000 in
theorem c_X5_read_oklt (l : Launch) (E : EE) (sz : Nat) (mo mA mK mH mS mV mF mP mR : Nat) (sp0 nu0 rm0 : Int32) (hy : Nat) (n k : Nat) (Al : Nat → Int32) (Hc K : Nat → Int32) (L : Nat) (P f0 : Nat → Int32) (gA0 : Al 0 = nI n) (gn : n ≤ 16) (gA1 : Al 1 = nI k) (gk : k ≤ 30) (gok : okA Al k) (gL : L ≤ 80) (gF : (fgM P L (L + 1) 0 nu0 0 f0).1 = -6) (g3 : 3 * (fgM P L (L + 1) 0 nu0 0 f0).2.2.2.1 ≤ 58) (ge1 : anyB (eP1 ((fgM P L (L + 1) 0 nu0 0 f0).2.2.2.2) (nI n)) (fgM P L (L + 1) 0 nu0 0 f0).2.2.2.1 = false) (ge2 : anyB (eP2 ((fgM P L (L + 1) 0 nu0 0 f0).2.2.2.2)) (fgM P L (L + 1) 0 nu0 0 f0).2.2.2.1 = false) (gkr : k + (fgM P L (L + 1) 0 nu0 0 f0).2.2.2.1 ≤ 30) (gh : hy < 6) : Ci l yX5_read wsX5_read 5 112 E [.ref mo] [(mo, .inr (5, [.ref mA, .ref mK, .ref mH, .int (nI hy), .ref mS, .ref mV, .ref mF, .ref mP, .int (nI L), .int sp0, .int nu0, .ref mR, .int rm0])), (mA, aI E 92 Al), (mK, aI E 92 K), (mH, aI E 552 Hc), (mP, aI E 80 P), (mR, aI E 60 f0)] sz (nI (k + (fgM P L (L + 1) 0 nu0 0 f0).2.2.2.1)) [(mo, .inr (5, [.ref mA, .ref mK, .ref mH, .int (nI (hy + 1)), .ref mS, .ref mV, .ref mF, .ref mP, .int (nI 0), .int (nI ((fgM P L (L + 1) 0 nu0 0 f0).2.1)), .int ((fgM P L (L + 1) 0 nu0 0 f0).2.2.1), .ref mR, .int (nI ((fgM P L (L + 1) 0 nu0 0 f0).2.2.2.1))])), (mA, aI E 92 (adM Al k ((fgM P L (L + 1) 0 nu0 0 f0).2.2.2.2) (fgM P L (L + 1) 0 nu0 0 f0).2.2.2.1)), (mK, aI E 92 (lsf K Al 92)), (mH, aI E 552 (putH Hc (lsf K Al 92) (92 * hy) 92)), (mP, aI E 80 P), (mR, aI E 60 ((fgM P L (L + 1) 0 nu0 0 f0).2.2.2.2))] := by
  refine C_of (QQ := QI E (nI (k + (fgM P L (L + 1) 0 nu0 0 f0).2.2.2.1)) [(mo, .inr (5, [.ref mA, .ref mK, .ref mH, .int (nI (hy + 1)), .ref mS, .ref mV, .ref mF, .ref mP, .int (nI 0), .int (nI ((fgM P L (L + 1) 0 nu0 0 f0).2.1)), .int ((fgM P L (L + 1) 0 nu0 0 f0).2.2.1), .ref mR, .int (nI ((fgM P L (L + 1) 0 nu0 0 f0).2.2.2.1))])), (mA, aI E 92 (adM Al k ((fgM P L (L + 1) 0 nu0 0 f0).2.2.2.2) (fgM P L (L + 1) 0 nu0 0 f0).2.2.2.1)), (mK, aI E 92 (lsf K Al 92)), (mH, aI E 552 (putH Hc (lsf K Al 92) (92 * hy) 92)), (mP, aI E 80 P), (mR, aI E 60 ((fgM P L (L + 1) 0 nu0 0 f0).2.2.2.2))]) (cc := cX5_read) (maxL := 2) (ret := (some .int)) (by decide +kernel) rfl (Nat.le_of_ble_eq_true rfl) ?_
  intro p e s m args below meth c A R Q ls hx hb hr hts hown hml hlocks hA hK hN hP hD hS hl hR hQ
  have hown : s.vm.findClass RX5 = some m.cls := hown
  have hl : lv_has ls 2 [(0, .ref mo)] := hl
  refine lv_aload_n hx hb dX5_read_0 rfl (lv_at hl 0 rfl) ?_
  refine kV_i (E := E) (As := []) (rest := []) (wr := [(mA, aI E 92 Al), (mK, aI E 92 K), (mH, aI E 552 Hc)]) ⟨hx, hb, hml, hown, hts⟩ (c_X5_fault (l := l) (E := E) (sz := _) (mo := mo) (mA := mA) (mK := mK) (mH := mH) (mS := mS) (mV := mV) (mF := mF) (mP := mP) (mR := mR) (hy := nI hy) (sp0 := sp0) (nu0 := nu0) (rm0 := rm0) (L := L) (P := P) (f0 := f0) (gL := by first | assumption | omega)) (cwV 0 hts gX5_read_X5_fault rfl rfl rfl (by decide +kernel) ⟨by rw [hR]; decide, by rw [hR]; decide⟩) hK hN hP hD hS hA [0, 4, 5] [1, 2, 3] rfl (by decide) rfl (by decide) (by decide) 0 5 rfl rfl rfl hl.1 rfl (Nat.le_of_ble_eq_true rfl) dX5_read_1 ⟨Nat.zero_le _, Nat.zero_le _⟩ (fun H locs hP hD hS => ?_)
  have hP : va_P E.1 vwCl [(mA, aI E 92 Al), (mK, aI E 92 K), (mH, aI E 552 Hc), (mo, .inr (5, [.ref mA, .ref mK, .ref mH, .int (nI hy), .ref mS, .ref mV, .ref mF, .ref mP, .int (nI L), .int (nI ((fgM P L (L + 1) 0 nu0 0 f0).2.1)), .int ((fgM P L (L + 1) 0 nu0 0 f0).2.2.1), .ref mR, .int (nI ((fgM P L (L + 1) 0 nu0 0 f0).2.2.2.1))])), (mP, aI E 80 P), (mR, aI E 60 ((fgM P L (L + 1) 0 nu0 0 f0).2.2.2.2))] H := hP
  have hD : va_D A [(mA, aI E 92 Al), (mK, aI E 92 K), (mH, aI E 552 Hc), (mo, .inr (5, [.ref mA, .ref mK, .ref mH, .int (nI hy), .ref mS, .ref mV, .ref mF, .ref mP, .int (nI L), .int (nI ((fgM P L (L + 1) 0 nu0 0 f0).2.1)), .int ((fgM P L (L + 1) 0 nu0 0 f0).2.2.1), .ref mR, .int (nI ((fgM P L (L + 1) 0 nu0 0 f0).2.2.2.1))])), (mP, aI E 80 P), (mR, aI E 60 ((fgM P L (L + 1) 0 nu0 0 f0).2.2.2.2))] := hD
  refine lv_bipush (v := (-6)) hx hb dX5_read_4 (by decide) ?_
  refine lv_icmp_eq (tgt := 12) hx hb dX5_read_6 (by decide) (fun zc6 => ?_) (fun q => absurd gF q)
  refine lv_aload_n hx hb dX5_read_12 rfl (lv_at hl 0 rfl) ?_
  refine kV_i (E := E) (As := []) (rest := []) (wr := [(mK, aI E 92 K), (mH, aI E 552 Hc), (mP, aI E 80 P)]) ⟨hx, hb, hml, hown, hts⟩ (c_X5_haveAllSquares (l := l) (E := E) (sz := _) (mo := mo) (mA := mA) (mK := mK) (mH := mH) (mS := mS) (mV := mV) (mF := mF) (mP := mP) (mR := mR) (hy := nI hy) (pl := nI L) (sp := nI ((fgM P L (L + 1) 0 nu0 0 f0).2.1)) (nu := (fgM P L (L + 1) 0 nu0 0 f0).2.2.1) (n := n) (rm := (fgM P L (L + 1) 0 nu0 0 f0).2.2.2.1) (f := (fgM P L (L + 1) 0 nu0 0 f0).2.2.2.2) (Al := Al) (gA0 := by first | assumption | omega) (gn := by first | assumption | omega) (gr := by first | assumption | omega)) (cwV 0 hts gX5_read_X5_haveAllSquares rfl rfl rfl (by decide +kernel) ⟨by rw [hR]; decide, by rw [hR]; decide⟩) hK hN hP hD hS hA [3, 0, 5] [1, 2, 4] rfl (by decide) rfl (by decide) (by decide) 3 5 rfl rfl rfl hl.1 rfl (Nat.le_of_ble_eq_true rfl) dX5_read_13 ⟨Nat.zero_le _, Nat.zero_le _⟩ (fun H locs hP hD hS => ?_)
  have hP : va_P E.1 vwCl [(mK, aI E 92 K), (mH, aI E 552 Hc), (mP, aI E 80 P), (mo, .inr (5, [.ref mA, .ref mK, .ref mH, .int (nI hy), .ref mS, .ref mV, .ref mF, .ref mP, .int (nI L), .int (nI ((fgM P L (L + 1) 0 nu0 0 f0).2.1)), .int ((fgM P L (L + 1) 0 nu0 0 f0).2.2.1), .ref mR, .int (nI ((fgM P L (L + 1) 0 nu0 0 f0).2.2.2.1))])), (mA, aI E 92 Al), (mR, aI E 60 (((fgM P L (L + 1) 0 nu0 0 f0).2.2.2.2)))] H := hP
  have hD : va_D A [(mK, aI E 92 K), (mH, aI E 552 Hc), (mP, aI E 80 P), (mo, .inr (5, [.ref mA, .ref mK, .ref mH, .int (nI hy), .ref mS, .ref mV, .ref mF, .ref mP, .int (nI L), .int (nI ((fgM P L (L + 1) 0 nu0 0 f0).2.1)), .int ((fgM P L (L + 1) 0 nu0 0 f0).2.2.1), .ref mR, .int (nI ((fgM P L (L + 1) 0 nu0 0 f0).2.2.2.1))])), (mA, aI E 92 Al), (mR, aI E 60 (((fgM P L (L + 1) 0 nu0 0 f0).2.2.2.2)))] := hD
  refine rk_if_neB (tgt := 21) hx hb dX5_read_16 (by decide) (fun zc16 => ?_) (fun q => absurd q (by rw [ge1]; decide))
  refine lv_aload_n hx hb dX5_read_21 rfl (lv_at hl 0 rfl) ?_
  refine kV_i (E := E) (As := []) (rest := []) (wr := [(mK, aI E 92 K), (mH, aI E 552 Hc), (mP, aI E 80 P), (mA, aI E 92 Al)]) ⟨hx, hb, hml, hown, hts⟩ (c_X5_areDifferent (l := l) (E := E) (sz := _) (mo := mo) (mA := mA) (mK := mK) (mH := mH) (mS := mS) (mV := mV) (mF := mF) (mP := mP) (mR := mR) (hy := nI hy) (pl := nI L) (sp := nI ((fgM P L (L + 1) 0 nu0 0 f0).2.1)) (nu := (fgM P L (L + 1) 0 nu0 0 f0).2.2.1) (n := n) (rm := ((fgM P L (L + 1) 0 nu0 0 f0).2.2.2.1)) (f := ((fgM P L (L + 1) 0 nu0 0 f0).2.2.2.2)) (Al := Al) (gr := by first | assumption | omega)) (cwV 0 hts gX5_read_X5_areDifferent rfl rfl rfl (by decide +kernel) ⟨by rw [hR]; decide, by rw [hR]; decide⟩) hK hN hP hD hS hA [3, 5] [0, 1, 2, 4] rfl (by decide) rfl (by decide) (by decide) 3 5 rfl rfl rfl hl.1 rfl (Nat.le_of_ble_eq_true rfl) dX5_read_22 ⟨Nat.zero_le _, Nat.zero_le _⟩ (fun H locs hP hD hS => ?_)
  have hP : va_P E.1 vwCl [(mK, aI E 92 K), (mH, aI E 552 Hc), (mP, aI E 80 P), (mA, aI E 92 Al), (mo, .inr (5, [.ref mA, .ref mK, .ref mH, .int (nI hy), .ref mS, .ref mV, .ref mF, .ref mP, .int (nI L), .int (nI ((fgM P L (L + 1) 0 nu0 0 f0).2.1)), .int ((fgM P L (L + 1) 0 nu0 0 f0).2.2.1), .ref mR, .int (nI (((fgM P L (L + 1) 0 nu0 0 f0).2.2.2.1)))])), (mR, aI E 60 ((((fgM P L (L + 1) 0 nu0 0 f0).2.2.2.2))))] H := hP
  have hD : va_D A [(mK, aI E 92 K), (mH, aI E 552 Hc), (mP, aI E 80 P), (mA, aI E 92 Al), (mo, .inr (5, [.ref mA, .ref mK, .ref mH, .int (nI hy), .ref mS, .ref mV, .ref mF, .ref mP, .int (nI L), .int (nI ((fgM P L (L + 1) 0 nu0 0 f0).2.1)), .int ((fgM P L (L + 1) 0 nu0 0 f0).2.2.1), .ref mR, .int (nI (((fgM P L (L + 1) 0 nu0 0 f0).2.2.2.1)))])), (mR, aI E 60 ((((fgM P L (L + 1) 0 nu0 0 f0).2.2.2.2))))] := hD
  refine rk_if_neB (tgt := 31) hx hb dX5_read_25 (by decide) (fun zc25 => ?_) (fun q => absurd q (by rw [ge2]; decide))
  refine lv_aload_n hx hb dX5_read_31 rfl (lv_at hl 0 rfl) ?_
  refine rk_get (ci := 5) (C := RX5) (T := TX5) (N := 13) hx hb hts iw_X5_read_5 hown hK hP 4 rfl rfl 0 (by decide) fl_X5_read_7 rfl (v := .ref mA) rfl dX5_read_32 ?_
  refine lv_iconst (v := nI 1) hx hb dX5_read_35 (by decide) ?_
  refine rk_iald hx hb hK hP 3 rfl (by omega) (by omega) (v := nI k) (by exact gA1) dX5_read_36 ?_
  refine lv_aload_n hx hb dX5_read_37 rfl (lv_at hl 0 rfl) ?_
  refine rk_get (ci := 5) (C := RX5) (T := TX5) (N := 13) hx hb hts iw_X5_read_5 hown hK hP 4 rfl rfl 12 (by decide) fl_X5_read_172 rfl (v := .int (nI (((fgM P L (L + 1) 0 nu0 0 f0).2.2.2.1)))) rfl dX5_read_38 ?_
  refine rk_iaddN hx hb dX5_read_41 ?_
  refine lv_bipush (v := nI 30) hx hb dX5_read_42 (by decide) ?_
  refine rk_leN (tgt := 50) hx hb (by omega) (by omega) dX5_read_44 (by decide) (fun zc44 => ?_) (fun q => absurd q (by omega))
  refine lv_aload_n hx hb dX5_read_50 rfl (lv_at hl 0 rfl) ?_
  refine kV_v (E := E) (As := []) (rest := []) (wr := [(mH, aI E 552 Hc), (mP, aI E 80 P), (mR, aI E 60 ((((fgM P L (L + 1) 0 nu0 0 f0).2.2.2.2))))]) ⟨hx, hb, hml, hown, hts⟩ (c_X5_keep (l := l) (E := E) (sz := _) (mo := mo) (mA := mA) (mK := mK) (mH := mH) (mS := mS) (mV := mV) (mF := mF) (mP := mP) (mR := mR) (hy := nI hy) (pl := nI L) (sp := nI ((fgM P L (L + 1) 0 nu0 0 f0).2.1)) (nu := (fgM P L (L + 1) 0 nu0 0 f0).2.2.1) (rm := nI (((fgM P L (L + 1) 0 nu0 0 f0).2.2.2.1))) (Al := Al) (K := K) ) (cwV 0 hts gX5_read_X5_keep rfl rfl rfl (by decide +kernel) ⟨by rw [hR]; decide, by rw [hR]; decide⟩) hK hN hP hD hS hA [4, 3, 0] [1, 2, 5] rfl (by decide) rfl (by decide) (by decide) 4 5 rfl rfl rfl hl.1 rfl (Nat.le_of_ble_eq_true rfl) dX5_read_51 ⟨Nat.zero_le _, Nat.zero_le _⟩ (fun H locs hP hD hS => ?_)
  have hP : va_P E.1 vwCl [(mH, aI E 552 Hc), (mP, aI E 80 P), (mR, aI E 60 ((((fgM P L (L + 1) 0 nu0 0 f0).2.2.2.2)))), (mo, .inr (5, [.ref mA, .ref mK, .ref mH, .int (nI hy), .ref mS, .ref mV, .ref mF, .ref mP, .int (nI L), .int (nI ((fgM P L (L + 1) 0 nu0 0 f0).2.1)), .int ((fgM P L (L + 1) 0 nu0 0 f0).2.2.1), .ref mR, .int (nI (((fgM P L (L + 1) 0 nu0 0 f0).2.2.2.1)))])), (mA, aI E 92 Al), (mK, aI E 92 (lsf K Al 92))] H := hP
  have hD : va_D A [(mH, aI E 552 Hc), (mP, aI E 80 P), (mR, aI E 60 ((((fgM P L (L + 1) 0 nu0 0 f0).2.2.2.2)))), (mo, .inr (5, [.ref mA, .ref mK, .ref mH, .int (nI hy), .ref mS, .ref mV, .ref mF, .ref mP, .int (nI L), .int (nI ((fgM P L (L + 1) 0 nu0 0 f0).2.1)), .int ((fgM P L (L + 1) 0 nu0 0 f0).2.2.1), .ref mR, .int (nI (((fgM P L (L + 1) 0 nu0 0 f0).2.2.2.1)))])), (mA, aI E 92 Al), (mK, aI E 92 (lsf K Al 92))] := hD
  refine lv_iconst (v := nI 0) hx hb dX5_read_54 (by decide) ?_
  refine lv_istore_n (lv' := [(1, .int (nI 0)), (0, .ref mo)]) hx hb dX5_read_55 rfl hl (by decide) rfl (fun ls hl => ?_)
  have L56 : ∀ (fu : Nat) (i : Nat) (f9 : Nat → Int32), (ef : f9 = adM Al k ((fgM P L (L + 1) 0 nu0 0 f0).2.2.2.2) i) → (gi : i ≤ (fgM P L (L + 1) 0 nu0 0 f0).2.2.2.1) → (fgM P L (L + 1) 0 nu0 0 f0).2.2.2.1 - i < fu → ∀ (H : Heap) (locs : List Loc), va_P E.1 vwCl [(mH, aI E 552 Hc), (mP, aI E 80 P), (mR, aI E 60 ((((fgM P L (L + 1) 0 nu0 0 f0).2.2.2.2)))), (mo, .inr (5, [.ref mA, .ref mK, .ref mH, .int (nI hy), .ref mS, .ref mV, .ref mF, .ref mP, .int (nI L), .int (nI ((fgM P L (L + 1) 0 nu0 0 f0).2.1)), .int ((fgM P L (L + 1) 0 nu0 0 f0).2.2.1), .ref mR, .int (nI (((fgM P L (L + 1) 0 nu0 0 f0).2.2.2.1)))])), (mA, aI E 92 f9), (mK, aI E 92 (lsf K Al 92))] H → va_D A [(mH, aI E 552 Hc), (mP, aI E 80 P), (mR, aI E 60 ((((fgM P L (L + 1) 0 nu0 0 f0).2.2.2.2)))), (mo, .inr (5, [.ref mA, .ref mK, .ref mH, .int (nI hy), .ref mS, .ref mV, .ref mF, .ref mP, .int (nI L), .int (nI ((fgM P L (L + 1) 0 nu0 0 f0).2.1)), .int ((fgM P L (L + 1) 0 nu0 0 f0).2.2.1), .ref mR, .int (nI (((fgM P L (L + 1) 0 nu0 0 f0).2.2.2.1)))])), (mA, aI E 92 f9), (mK, aI E 92 (lsf K Al 92))] → va_S A s.heap H locs → ∀ (ls : Array Slot), lv_has ls 2 [(1, .int (nI i)), (0, .ref mo)] → W p l e R s m args below meth c H locs 0 0 Q (F0 m 56 ls []) := by
    intro fu
    induction fu with
    | zero => intro i f9 ef gi hfu; exact absurd hfu (Nat.not_lt_zero _)
    | succ fu ih56 =>
      intro i f9 ef gi hfu H locs hP hD hS ls hl
      refine lv_iload_n hx hb dX5_read_56 rfl (lv_at hl 0 rfl) ?_
      refine lv_aload_n hx hb dX5_read_57 rfl (lv_at hl 1 rfl) ?_
      refine rk_get (ci := 5) (C := RX5) (T := TX5) (N := 13) hx hb hts iw_X5_read_5 hown hK hP 3 rfl rfl 12 (by decide) fl_X5_read_172 rfl (v := .int (nI (((fgM P L (L + 1) 0 nu0 0 f0).2.2.2.1)))) rfl dX5_read_58 ?_
      refine rk_geN (tgt := 102) hx hb (by omega) (by omega) dX5_read_61 (by decide) (fun zc61 => ?_) (fun zc61 => ?_)
      · have ei9 : i = (fgM P L (L + 1) 0 nu0 0 f0).2.2.2.1 := by omega
        subst ei9
        subst ef
        refine lv_aload_n hx hb dX5_read_102 rfl (lv_at hl 1 rfl) ?_
        refine lv_iconst (v := nI 0) hx hb dX5_read_103 (by decide) ?_
        refine rk_put (ci := 5) (C := RX5) (T := TX5) (N := 13) hx hb hts iw_X5_read_5 tyX5 tyX5_ok nmX5 hown hK hP hD hS 3 rfl rfl 8 (by decide) fl_X5_read_141 rfl rfl (tyX5_ok 8 (by decide)) rfl rfl (Nat.le_of_ble_eq_true rfl) (ws' := [(mH, aI E 552 Hc), (mP, aI E 80 P), (mR, aI E 60 ((((fgM P L (L + 1) 0 nu0 0 f0).2.2.2.2)))), (mo, .inr (5, [.ref mA, .ref mK, .ref mH, .int (nI hy), .ref mS, .ref mV, .ref mF, .ref mP, .int (nI 0), .int (nI ((fgM P L (L + 1) 0 nu0 0 f0).2.1)), .int ((fgM P L (L + 1) 0 nu0 0 f0).2.2.1), .ref mR, .int (nI (((fgM P L (L + 1) 0 nu0 0 f0).2.2.2.1)))])), (mA, aI E 92 ((adM Al k ((fgM P L (L + 1) 0 nu0 0 f0).2.2.2.2) (fgM P L (L + 1) 0 nu0 0 f0).2.2.2.1))), (mK, aI E 92 (lsf K Al 92))]) rfl dX5_read_104 (fun H locs hP hD hS => ?_)
        refine lv_aload_n hx hb dX5_read_107 rfl (lv_at hl 1 rfl) ?_
        refine lv_aload_n hx hb dX5_read_108 rfl (lv_at hl 1 rfl) ?_
        refine rk_get (ci := 5) (C := RX5) (T := TX5) (N := 13) hx hb hts iw_X5_read_5 hown hK hP 3 rfl rfl 0 (by decide) fl_X5_read_7 rfl (v := .ref mA) rfl dX5_read_109 ?_
        refine lv_iconst (v := nI 1) hx hb dX5_read_112 (by decide) ?_
        refine rk_iald hx hb hK hP 4 rfl (by omega) (by omega) (v := nI (k + (fgM P L (L + 1) 0 nu0 0 f0).2.2.2.1)) (adM_1 gA1 ((fgM P L (L + 1) 0 nu0 0 f0).2.2.2.1)) dX5_read_113 ?_
        refine kV_i (E := E) (As := [.int (nI (k + (fgM P L (L + 1) 0 nu0 0 f0).2.2.2.1))]) (rest := []) (wr := [(mP, aI E 80 P), (mR, aI E 60 ((((fgM P L (L + 1) 0 nu0 0 f0).2.2.2.2)))), (mA, aI E 92 ((adM Al k ((fgM P L (L + 1) 0 nu0 0 f0).2.2.2.2) (fgM P L (L + 1) 0 nu0 0 f0).2.2.2.1)))]) ⟨hx, hb, hml, hown, hts⟩ (c_X5_changed_lt (l := l) (E := E) (sz := _) (mo := mo) (mA := mA) (mK := mK) (mH := mH) (mS := mS) (mV := mV) (mF := mF) (mP := mP) (mR := mR) (pl := nI 0) (sp := nI ((fgM P L (L + 1) 0 nu0 0 f0).2.1)) (nu := (fgM P L (L + 1) 0 nu0 0 f0).2.2.1) (rm := nI (((fgM P L (L + 1) 0 nu0 0 f0).2.2.2.1))) (hy := hy) (r := nI (k + (fgM P L (L + 1) 0 nu0 0 f0).2.2.2.1)) (Hc := Hc) (K := lsf K Al 92) (gh := by first | assumption | omega)) (cwV 1 hts gX5_read_X5_changed rfl rfl rfl (by decide +kernel) ⟨by rw [hR]; decide, by rw [hR]; decide⟩) hK hN hP hD hS hA [3, 0, 5] [1, 2, 4] rfl (by decide) rfl (by decide) (by decide) 3 5 rfl rfl rfl hl.1 rfl (Nat.le_of_ble_eq_true rfl) dX5_read_114 ⟨Nat.zero_le _, Nat.zero_le _⟩ (fun H locs hP hD hS => ?_)
        have hP : va_P E.1 vwCl [(mP, aI E 80 P), (mR, aI E 60 ((((fgM P L (L + 1) 0 nu0 0 f0).2.2.2.2)))), (mA, aI E 92 ((adM Al k ((fgM P L (L + 1) 0 nu0 0 f0).2.2.2.2) (fgM P L (L + 1) 0 nu0 0 f0).2.2.2.1))), (mo, .inr (5, [.ref mA, .ref mK, .ref mH, .int (nI (hy + 1)), .ref mS, .ref mV, .ref mF, .ref mP, .int (nI 0), .int (nI ((fgM P L (L + 1) 0 nu0 0 f0).2.1)), .int ((fgM P L (L + 1) 0 nu0 0 f0).2.2.1), .ref mR, .int (nI (((fgM P L (L + 1) 0 nu0 0 f0).2.2.2.1)))])), (mH, aI E 552 (putH Hc (lsf K Al 92) (92 * hy) 92)), (mK, aI E 92 ((lsf K Al 92)))] H := hP
        have hD : va_D A [(mP, aI E 80 P), (mR, aI E 60 ((((fgM P L (L + 1) 0 nu0 0 f0).2.2.2.2)))), (mA, aI E 92 ((adM Al k ((fgM P L (L + 1) 0 nu0 0 f0).2.2.2.2) (fgM P L (L + 1) 0 nu0 0 f0).2.2.2.1))), (mo, .inr (5, [.ref mA, .ref mK, .ref mH, .int (nI (hy + 1)), .ref mS, .ref mV, .ref mF, .ref mP, .int (nI 0), .int (nI ((fgM P L (L + 1) 0 nu0 0 f0).2.1)), .int ((fgM P L (L + 1) 0 nu0 0 f0).2.2.1), .ref mR, .int (nI (((fgM P L (L + 1) 0 nu0 0 f0).2.2.2.1)))])), (mH, aI E 552 (putH Hc (lsf K Al 92) (92 * hy) 92)), (mK, aI E 92 ((lsf K Al 92)))] := hD
        exact ret_i hQ hx hb hr hlocks (hP.sub [3, 2, 5, 4, 0, 1] rfl) (hD.sub [3, 2, 5, 4, 0, 1] (by decide) rfl) hS dX5_read_117 (rfl)
      · refine lv_aload_n hx hb dX5_read_64 rfl (lv_at hl 1 rfl) ?_
        refine lv_aload_n hx hb dX5_read_65 rfl (lv_at hl 1 rfl) ?_
        refine rk_get (ci := 5) (C := RX5) (T := TX5) (N := 13) hx hb hts iw_X5_read_5 hown hK hP 3 rfl rfl 11 (by decide) fl_X5_read_31 rfl (v := .ref mR) rfl dX5_read_66 ?_
        refine lv_iconst (v := nI 3) hx hb dX5_read_69 (by decide) ?_
        refine lv_iload_n hx hb dX5_read_70 rfl (lv_at hl 0 rfl) ?_
        refine rk_imulN hx hb dX5_read_71 ?_
        refine rk_iald hx hb hK hP 2 rfl (by omega) (by omega) (v := ((((fgM P L (L + 1) 0 nu0 0 f0).2.2.2.2))) (3 * i)) (rfl) dX5_read_72 ?_
        refine lv_aload_n hx hb dX5_read_73 rfl (lv_at hl 1 rfl) ?_
        refine rk_get (ci := 5) (C := RX5) (T := TX5) (N := 13) hx hb hts iw_X5_read_5 hown hK hP 3 rfl rfl 11 (by decide) fl_X5_read_31 rfl (v := .ref mR) rfl dX5_read_74 ?_
        refine lv_iconst (v := nI 3) hx hb dX5_read_77 (by decide) ?_
        refine lv_iload_n hx hb dX5_read_78 rfl (lv_at hl 0 rfl) ?_
        refine rk_imulN hx hb dX5_read_79 ?_
        refine lv_iconst (v := nI 1) hx hb dX5_read_80 (by decide) ?_
        refine rk_iaddN hx hb dX5_read_81 ?_
        refine rk_iald hx hb hK hP 2 rfl (by omega) (by omega) (v := ((((fgM P L (L + 1) 0 nu0 0 f0).2.2.2.2))) ((3 * i) + 1)) (rfl) dX5_read_82 ?_
        refine lv_aload_n hx hb dX5_read_83 rfl (lv_at hl 1 rfl) ?_
        refine rk_get (ci := 5) (C := RX5) (T := TX5) (N := 13) hx hb hts iw_X5_read_5 hown hK hP 3 rfl rfl 11 (by decide) fl_X5_read_31 rfl (v := .ref mR) rfl dX5_read_84 ?_
        refine lv_iconst (v := nI 3) hx hb dX5_read_87 (by decide) ?_
        refine lv_iload_n hx hb dX5_read_88 rfl (lv_at hl 0 rfl) ?_
        refine rk_imulN hx hb dX5_read_89 ?_
        refine lv_iconst (v := nI 2) hx hb dX5_read_90 (by decide) ?_
        refine rk_iaddN hx hb dX5_read_91 ?_
        refine rk_iald hx hb hK hP 2 rfl (by omega) (by omega) (v := ((((fgM P L (L + 1) 0 nu0 0 f0).2.2.2.2))) ((3 * i) + 2)) (rfl) dX5_read_92 ?_
        refine kV_v (E := E) (As := [.int (((((fgM P L (L + 1) 0 nu0 0 f0).2.2.2.2))) (3 * i)), .int (((((fgM P L (L + 1) 0 nu0 0 f0).2.2.2.2))) ((3 * i) + 1)), .int (((((fgM P L (L + 1) 0 nu0 0 f0).2.2.2.2))) ((3 * i) + 2))]) (rest := []) (wr := [(mH, aI E 552 Hc), (mP, aI E 80 P), (mR, aI E 60 ((((fgM P L (L + 1) 0 nu0 0 f0).2.2.2.2)))), (mK, aI E 92 (lsf K Al 92))]) ⟨hx, hb, hml, hown, hts⟩ (c_X5_adds (l := l) (E := E) (sz := _) (mo := mo) (mA := mA) (mK := mK) (mH := mH) (mS := mS) (mV := mV) (mF := mF) (mP := mP) (mR := mR) (hy := nI hy) (pl := nI L) (sp := nI ((fgM P L (L + 1) 0 nu0 0 f0).2.1)) (nu := (fgM P L (L + 1) 0 nu0 0 f0).2.2.1) (rm := nI (((fgM P L (L + 1) 0 nu0 0 f0).2.2.2.1))) (k := k + i) (Al := f9) (x := ((((fgM P L (L + 1) 0 nu0 0 f0).2.2.2.2))) (3 * i)) (y := ((((fgM P L (L + 1) 0 nu0 0 f0).2.2.2.2))) ((3 * i) + 1)) (z9 := ((((fgM P L (L + 1) 0 nu0 0 f0).2.2.2.2))) ((3 * i) + 2)) (gA1 := by rw [ef]; exact adM_1 gA1 i) (gk2 := by omega)) (cwV 3 hts gX5_read_X5_adds rfl rfl rfl (by decide +kernel) ⟨by rw [hR]; decide, by rw [hR]; decide⟩) hK hN hP hD hS hA [3, 4] [0, 1, 2, 5] rfl (by decide) rfl (by decide) (by decide) 3 5 rfl rfl rfl hl.1 rfl (Nat.le_of_ble_eq_true rfl) dX5_read_93 ⟨Nat.zero_le _, Nat.zero_le _⟩ (fun H locs hP hD hS => ?_)
        have hP : va_P E.1 vwCl [(mH, aI E 552 Hc), (mP, aI E 80 P), (mR, aI E 60 ((((fgM P L (L + 1) 0 nu0 0 f0).2.2.2.2)))), (mK, aI E 92 (lsf K Al 92)), (mo, .inr (5, [.ref mA, .ref mK, .ref mH, .int (nI hy), .ref mS, .ref mV, .ref mF, .ref mP, .int (nI L), .int (nI ((fgM P L (L + 1) 0 nu0 0 f0).2.1)), .int ((fgM P L (L + 1) 0 nu0 0 f0).2.2.1), .ref mR, .int (nI (((fgM P L (L + 1) 0 nu0 0 f0).2.2.2.1)))])), (mA, aI E 92 (upd (upd (upd (upd f9 (2 + (k + i)) (if (((((fgM P L (L + 1) 0 nu0 0 f0).2.2.2.2))) ((3 * i) + 1)) ≤ (((((fgM P L (L + 1) 0 nu0 0 f0).2.2.2.2))) (3 * i)) then (((((fgM P L (L + 1) 0 nu0 0 f0).2.2.2.2))) ((3 * i) + 1)) else (((((fgM P L (L + 1) 0 nu0 0 f0).2.2.2.2))) (3 * i)))) (32 + (k + i)) (if (((((fgM P L (L + 1) 0 nu0 0 f0).2.2.2.2))) ((3 * i) + 1)) ≤ (((((fgM P L (L + 1) 0 nu0 0 f0).2.2.2.2))) (3 * i)) then (((((fgM P L (L + 1) 0 nu0 0 f0).2.2.2.2))) (3 * i)) else (((((fgM P L (L + 1) 0 nu0 0 f0).2.2.2.2))) ((3 * i) + 1)))) (62 + (k + i)) (((((fgM P L (L + 1) 0 nu0 0 f0).2.2.2.2))) ((3 * i) + 2))) 1 (nI ((k + i) + 1))))] H := hP
        have hD : va_D A [(mH, aI E 552 Hc), (mP, aI E 80 P), (mR, aI E 60 ((((fgM P L (L + 1) 0 nu0 0 f0).2.2.2.2)))), (mK, aI E 92 (lsf K Al 92)), (mo, .inr (5, [.ref mA, .ref mK, .ref mH, .int (nI hy), .ref mS, .ref mV, .ref mF, .ref mP, .int (nI L), .int (nI ((fgM P L (L + 1) 0 nu0 0 f0).2.1)), .int ((fgM P L (L + 1) 0 nu0 0 f0).2.2.1), .ref mR, .int (nI (((fgM P L (L + 1) 0 nu0 0 f0).2.2.2.1)))])), (mA, aI E 92 (upd (upd (upd (upd f9 (2 + (k + i)) (if (((((fgM P L (L + 1) 0 nu0 0 f0).2.2.2.2))) ((3 * i) + 1)) ≤ (((((fgM P L (L + 1) 0 nu0 0 f0).2.2.2.2))) (3 * i)) then (((((fgM P L (L + 1) 0 nu0 0 f0).2.2.2.2))) ((3 * i) + 1)) else (((((fgM P L (L + 1) 0 nu0 0 f0).2.2.2.2))) (3 * i)))) (32 + (k + i)) (if (((((fgM P L (L + 1) 0 nu0 0 f0).2.2.2.2))) ((3 * i) + 1)) ≤ (((((fgM P L (L + 1) 0 nu0 0 f0).2.2.2.2))) (3 * i)) then (((((fgM P L (L + 1) 0 nu0 0 f0).2.2.2.2))) (3 * i)) else (((((fgM P L (L + 1) 0 nu0 0 f0).2.2.2.2))) ((3 * i) + 1)))) (62 + (k + i)) (((((fgM P L (L + 1) 0 nu0 0 f0).2.2.2.2))) ((3 * i) + 2))) 1 (nI ((k + i) + 1))))] := hD
        refine lv_iinc (v := nI (i + 1)) (lv' := [(1, .int (nI (i + 1))), (0, .ref mo)]) hx hb dX5_read_96 hl (k := 0) rfl (by rw [show Int32.ofInt 1 = nI 1 by decide]; exact nI_add _ _) (by decide) rfl (fun ls hl => ?_)
        refine lv_goto (tgt := 56) hx hb dX5_read_99 (by decide) ?_
        exact ih56 (i + 1) (upd (upd (upd (upd f9 (2 + (k + i)) (if (((((fgM P L (L + 1) 0 nu0 0 f0).2.2.2.2))) ((3 * i) + 1)) ≤ (((((fgM P L (L + 1) 0 nu0 0 f0).2.2.2.2))) (3 * i)) then (((((fgM P L (L + 1) 0 nu0 0 f0).2.2.2.2))) ((3 * i) + 1)) else (((((fgM P L (L + 1) 0 nu0 0 f0).2.2.2.2))) (3 * i)))) (32 + (k + i)) (if (((((fgM P L (L + 1) 0 nu0 0 f0).2.2.2.2))) ((3 * i) + 1)) ≤ (((((fgM P L (L + 1) 0 nu0 0 f0).2.2.2.2))) (3 * i)) then (((((fgM P L (L + 1) 0 nu0 0 f0).2.2.2.2))) (3 * i)) else (((((fgM P L (L + 1) 0 nu0 0 f0).2.2.2.2))) ((3 * i) + 1)))) (62 + (k + i)) (((((fgM P L (L + 1) 0 nu0 0 f0).2.2.2.2))) ((3 * i) + 2))) 1 (nI ((k + i) + 1))) (by rw [ef]; rfl) (by first | assumption | omega | rfl) (by omega) _ _ (hP.sub [0, 1, 2, 4, 5, 3] rfl) (hD.sub [0, 1, 2, 4, 5, 3] (by decide) rfl) hS ls (lv_sub hl [0, 1] rfl)
  exact L56 (((fgM P L (L + 1) 0 nu0 0 f0).2.2.2.1 - 0) + 1) 0 Al (rfl) (by first | assumption | omega | rfl) (Nat.lt_succ_self _) _ _ (hP.sub [0, 1, 2, 3, 4, 5] rfl) (hD.sub [0, 1, 2, 3, 4, 5] (by decide) rfl) hS ls (lv_sub hl [0, 1] rfl)
set_option maxHeartbeats 400000 in
set_option maxRecDepth 100000 in
theorem c_X5_squares_okge (l : Launch) (E : EE) (sz : Nat) (mo mA mK mH mS mV mF mP mR : Nat) (pl sp nu rm : Int32) (n k : Nat) (Al : Nat → Int32) (Hc K : Nat → Int32) (mm : Nat) (gA0 : Al 0 = nI n) (gn : n ≤ 16) (gA1 : Al 1 = nI k) (gk : k ≤ 30) (g1 : 2 ≤ mm) (g2 : mm ≤ 16) (gf : fitsB (mhF Al) k (nI mm) = true) : Ci l yX5_squares wsX5_squares 1 25 E [.ref mo, .int (nI mm)] [(mo, .inr (5, [.ref mA, .ref mK, .ref mH, .int (nI 6), .ref mS, .ref mV, .ref mF, .ref mP, .int pl, .int sp, .int nu, .ref mR, .int rm])), (mA, aI E 92 Al), (mK, aI E 92 K), (mH, aI E 552 Hc)] sz (nI n) [(mo, .inr (5, [.ref mA, .ref mK, .ref mH, .int (nI 6), .ref mS, .ref mV, .ref mF, .ref mP, .int pl, .int sp, .int nu, .ref mR, .int rm])), (mA, aI E 92 (upd Al 0 (nI mm))), (mK, aI E 92 (lsf K Al 92)), (mH, aI E 552 (putH (lsf Hc (shH Hc) 460) (lsf K Al 92) (92 * 5) 92))] := by
  refine C_of (QQ := QI E (nI n) [(mo, .inr (5, [.ref mA, .ref mK, .ref mH, .int (nI 6), .ref mS, .ref mV, .ref mF, .ref mP, .int pl, .int sp, .int nu, .ref mR, .int rm])), (mA, aI E 92 (upd Al 0 (nI mm))), (mK, aI E 92 (lsf K Al 92)), (mH, aI E 552 (putH (lsf Hc (shH Hc) 460) (lsf K Al 92) (92 * 5) 92))]) (cc := cX5_squares) (maxL := 3) (ret := (some .int)) (by decide +kernel) rfl (Nat.le_of_ble_eq_true rfl) ?_
  intro p e s m args below meth c A R Q ls hx hb hr hts hown hml hlocks hA hK hN hP hD hS hl hR hQ
  have hown : s.vm.findClass RX5 = some m.cls := hown
  have hl : lv_has ls 3 [(0, .ref mo), (1, .int (nI mm))] := hl
  refine lv_iload_n hx hb dX5_squares_0 rfl (lv_at hl 1 rfl) ?_
  refine lv_i2l hx hb dX5_squares_1 rfl ?_
  refine lv_ldc2 (v := 2) hx hb hown (hts _ cl68_X5_squares) dX5_squares_2 ?_
  refine lv_ldc2 (v := 16) hx hb hown (hts _ cl70_X5_squares) dX5_squares_5 ?_
  refine kS_i (E := E) (As := [.long ((nI mm).toInt64), .long ((2 : Int64)), .long ((16 : Int64))]) (rest := []) (wr := [(mo, .inr (5, [.ref mA, .ref mK, .ref mH, .int (nI 6), .ref mS, .ref mV, .ref mF, .ref mP, .int pl, .int sp, .int nu, .ref mR, .int rm])), (mA, aI E 92 Al), (mK, aI E 92 K), (mH, aI E 552 Hc)]) ⟨hx, hb, hml, hown, hts⟩ (c_X5_in (l := l) (E := E) (sz := _) (v := (nI mm).toInt64) (lo9 := (2 : Int64)) (hi9 := (16 : Int64)) ) (cwS 3 hts gX5_squares_X5_in rfl rfl rfl (by decide +kernel) ⟨by rw [hR]; decide, by rw [hR]; decide⟩) hK hN hP hD hS hA [] [0, 1, 2, 3] rfl (by decide) rfl (by decide) (by decide) rfl hl.1 rfl (Nat.le_of_ble_eq_true rfl) dX5_squares_8 ⟨Nat.zero_le _, Nat.zero_le _⟩ (fun H locs hP hD hS => ?_)
  have hP : va_P E.1 vwCl [(mo, .inr (5, [.ref mA, .ref mK, .ref mH, .int (nI 6), .ref mS, .ref mV, .ref mF, .ref mP, .int pl, .int sp, .int nu, .ref mR, .int rm])), (mA, aI E 92 Al), (mK, aI E 92 K), (mH, aI E 552 Hc)] H := hP
  have hD : va_D A [(mo, .inr (5, [.ref mA, .ref mK, .ref mH, .int (nI 6), .ref mS, .ref mV, .ref mF, .ref mP, .int pl, .int sp, .int nu, .ref mR, .int rm])), (mA, aI E 92 Al), (mK, aI E 92 K), (mH, aI E 552 Hc)] := hD
  refine rk_if_neB (tgt := 17) hx hb dX5_squares_11 (by decide) (fun zc11 => ?_) (fun q => absurd (q.symm.trans (inLn_t (a := 2) (b := 16) (by decide) g1 g2)) (by decide))
  refine lv_iconst (v := nI 0) hx hb dX5_squares_17 (by decide) ?_
  refine lv_istore_n (lv' := [(2, .int (nI 0)), (0, .ref mo), (1, .int (nI mm))]) hx hb dX5_squares_18 rfl hl (by decide) rfl (fun ls hl => ?_)
  have L19 : ∀ (fu : Nat) (i : Nat), (gi : i ≤ k) → k - i < fu → ∀ (H : Heap) (locs : List Loc), va_P E.1 vwCl [(mo, .inr (5, [.ref mA, .ref mK, .ref mH, .int (nI 6), .ref mS, .ref mV, .ref mF, .ref mP, .int pl, .int sp, .int nu, .ref mR, .int rm])), (mA, aI E 92 Al), (mK, aI E 92 K), (mH, aI E 552 Hc)] H → va_D A [(mo, .inr (5, [.ref mA, .ref mK, .ref mH, .int (nI 6), .ref mS, .ref mV, .ref mF, .ref mP, .int pl, .int sp, .int nu, .ref mR, .int rm])), (mA, aI E 92 Al), (mK, aI E 92 K), (mH, aI E 552 Hc)] → va_S A s.heap H locs → ∀ (ls : Array Slot), lv_has ls 3 [(2, .int (nI i)), (0, .ref mo), (1, .int (nI mm))] → W p l e R s m args below meth c H locs 0 0 Q (F0 m 19 ls []) := by
    intro fu
    induction fu with
    | zero => intro i gi hfu; exact absurd hfu (Nat.not_lt_zero _)
    | succ fu ih19 =>
      intro i gi hfu H locs hP hD hS ls hl
      refine lv_iload_n hx hb dX5_squares_19 rfl (lv_at hl 0 rfl) ?_
      refine lv_aload_n hx hb dX5_squares_20 rfl (lv_at hl 1 rfl) ?_
      refine rk_get (ci := 5) (C := RX5) (T := TX5) (N := 13) hx hb hts iw_X5_squares_5 hown hK hP 0 rfl rfl 0 (by decide) fl_X5_squares_7 rfl (v := .ref mA) rfl dX5_squares_21 ?_
      refine lv_iconst (v := nI 1) hx hb dX5_squares_24 (by decide) ?_
      refine rk_iald hx hb hK hP 1 rfl (by omega) (by omega) (v := nI k) (by exact gA1) dX5_squares_25 ?_
      refine rk_geN (tgt := 51) hx hb (by omega) (by omega) dX5_squares_26 (by decide) (fun zc26 => ?_) (fun zc26 => ?_)
      · refine lv_aload_n hx hb dX5_squares_51 rfl (lv_at hl 1 rfl) ?_
        refine kV_v (E := E) (As := []) (rest := []) (wr := [(mH, aI E 552 Hc)]) ⟨hx, hb, hml, hown, hts⟩ (c_X5_keep (l := l) (E := E) (sz := _) (mo := mo) (mA := mA) (mK := mK) (mH := mH) (mS := mS) (mV := mV) (mF := mF) (mP := mP) (mR := mR) (hy := nI 6) (pl := pl) (sp := sp) (nu := nu) (rm := rm) (Al := Al) (K := K) ) (cwV 0 hts gX5_squares_X5_keep rfl rfl rfl (by decide +kernel) ⟨by rw [hR]; decide, by rw [hR]; decide⟩) hK hN hP hD hS hA [0, 1, 2] [3] rfl (by decide) rfl (by decide) (by decide) 0 5 rfl rfl rfl hl.1 rfl (Nat.le_of_ble_eq_true rfl) dX5_squares_52 ⟨Nat.zero_le _, Nat.zero_le _⟩ (fun H locs hP hD hS => ?_)
        have hP : va_P E.1 vwCl [(mH, aI E 552 Hc), (mo, .inr (5, [.ref mA, .ref mK, .ref mH, .int (nI 6), .ref mS, .ref mV, .ref mF, .ref mP, .int pl, .int sp, .int nu, .ref mR, .int rm])), (mA, aI E 92 Al), (mK, aI E 92 (lsf K Al 92))] H := hP
        have hD : va_D A [(mH, aI E 552 Hc), (mo, .inr (5, [.ref mA, .ref mK, .ref mH, .int (nI 6), .ref mS, .ref mV, .ref mF, .ref mP, .int pl, .int sp, .int nu, .ref mR, .int rm])), (mA, aI E 92 Al), (mK, aI E 92 (lsf K Al 92))] := hD
        refine lv_aload_n hx hb dX5_squares_55 rfl (lv_at hl 1 rfl) ?_
        refine rk_get (ci := 5) (C := RX5) (T := TX5) (N := 13) hx hb hts iw_X5_squares_5 hown hK hP 1 rfl rfl 0 (by decide) fl_X5_squares_7 rfl (v := .ref mA) rfl dX5_squares_56 ?_
        refine lv_iconst (v := nI 0) hx hb dX5_squares_59 (by decide) ?_
        refine rk_iald hx hb hK hP 2 rfl (by omega) (by omega) (v := nI n) (by exact gA0) dX5_squares_60 ?_
        refine lv_istore_n (lv' := [(2, .int (nI n)), (0, .ref mo), (1, .int (nI mm))]) hx hb dX5_squares_61 rfl hl (by decide) rfl (fun ls hl => ?_)
        refine lv_aload_n hx hb dX5_squares_62 rfl (lv_at hl 1 rfl) ?_
        refine rk_get (ci := 5) (C := RX5) (T := TX5) (N := 13) hx hb hts iw_X5_squares_5 hown hK hP 1 rfl rfl 0 (by decide) fl_X5_squares_7 rfl (v := .ref mA) rfl dX5_squares_63 ?_
        refine lv_iconst (v := nI 0) hx hb dX5_squares_66 (by decide) ?_
        refine lv_iload_n hx hb dX5_squares_67 rfl (lv_at hl 2 rfl) ?_
        refine rk_iast hx hb hK hP hD hS 2 rfl (by omega) (by omega) (ws' := [(mH, aI E 552 Hc), (mo, .inr (5, [.ref mA, .ref mK, .ref mH, .int (nI 6), .ref mS, .ref mV, .ref mF, .ref mP, .int pl, .int sp, .int nu, .ref mR, .int rm])), (mA, aI E 92 (upd Al 0 (nI mm))), (mK, aI E 92 (lsf K Al 92))]) rfl dX5_squares_68 (fun H locs hP hD hS => ?_)
        refine lv_aload_n hx hb dX5_squares_69 rfl (lv_at hl 1 rfl) ?_
        refine lv_iload_n hx hb dX5_squares_70 rfl (lv_at hl 0 rfl) ?_
        refine kV_i (E := E) (As := [.int (nI n)]) (rest := []) (wr := [(mA, aI E 92 (upd Al 0 (nI mm)))]) ⟨hx, hb, hml, hown, hts⟩ (c_X5_changed_ge (l := l) (E := E) (sz := _) (mo := mo) (mA := mA) (mK := mK) (mH := mH) (mS := mS) (mV := mV) (mF := mF) (mP := mP) (mR := mR) (pl := pl) (sp := sp) (nu := nu) (rm := rm) (r := nI n) (Hc := Hc) (K := lsf K Al 92) ) (cwV 1 hts gX5_squares_X5_changed rfl rfl rfl (by decide +kernel) ⟨by rw [hR]; decide, by rw [hR]; decide⟩) hK hN hP hD hS hA [1, 0, 3] [2] rfl (by decide) rfl (by decide) (by decide) 1 5 rfl rfl rfl hl.1 rfl (Nat.le_of_ble_eq_true rfl) dX5_squares_71 ⟨Nat.zero_le _, Nat.zero_le _⟩ (fun H locs hP hD hS => ?_)
        have hP : va_P E.1 vwCl [(mA, aI E 92 (upd Al 0 (nI mm))), (mo, .inr (5, [.ref mA, .ref mK, .ref mH, .int (nI 6), .ref mS, .ref mV, .ref mF, .ref mP, .int pl, .int sp, .int nu, .ref mR, .int rm])), (mH, aI E 552 (putH (lsf Hc (shH Hc) 460) (lsf K Al 92) (92 * 5) 92)), (mK, aI E 92 ((lsf K Al 92)))] H := hP
        have hD : va_D A [(mA, aI E 92 (upd Al 0 (nI mm))), (mo, .inr (5, [.ref mA, .ref mK, .ref mH, .int (nI 6), .ref mS, .ref mV, .ref mF, .ref mP, .int pl, .int sp, .int nu, .ref mR, .int rm])), (mH, aI E 552 (putH (lsf Hc (shH Hc) 460) (lsf K Al 92) (92 * 5) 92)), (mK, aI E 92 ((lsf K Al 92)))] := hD
        exact ret_i hQ hx hb hr hlocks (hP.sub [1, 0, 3, 2] rfl) (hD.sub [1, 0, 3, 2] (by decide) rfl) hS dX5_squares_74 (rfl)
      · refine lv_aload_n hx hb dX5_squares_29 rfl (lv_at hl 1 rfl) ?_
        refine rk_get (ci := 5) (C := RX5) (T := TX5) (N := 13) hx hb hts iw_X5_squares_5 hown hK hP 0 rfl rfl 0 (by decide) fl_X5_squares_7 rfl (v := .ref mA) rfl dX5_squares_30 ?_
        refine lv_bipush (v := nI 32) hx hb dX5_squares_33 (by decide) ?_
        refine lv_iload_n hx hb dX5_squares_35 rfl (lv_at hl 0 rfl) ?_
        refine rk_iaddN hx hb dX5_squares_36 ?_
        refine rk_iald hx hb hK hP 1 rfl (by omega) (by omega) (v := Al (32 + i)) (rfl) dX5_squares_37 ?_
        refine lv_iload_n hx hb dX5_squares_38 rfl (lv_at hl 2 rfl) ?_
        refine lv_icmp_lt (tgt := 45) hx hb dX5_squares_39 (by decide) (fun zc39 => ?_) (fun q => absurd (fitsB_f (hi := mhF Al) zc26 q) (by rw [gf]; decide))
        refine lv_iinc (v := nI (i + 1)) (lv' := [(2, .int (nI (i + 1))), (0, .ref mo), (1, .int (nI mm))]) hx hb dX5_squares_45 hl (k := 0) rfl (by rw [show Int32.ofInt 1 = nI 1 by decide]; exact nI_add _ _) (by decide) rfl (fun ls hl => ?_)
        refine lv_goto (tgt := 19) hx hb dX5_squares_48 (by decide) ?_
        exact ih19 (i + 1) (by first | assumption | omega | rfl) (by omega) _ _ (hP.sub [0, 1, 2, 3] rfl) (hD.sub [0, 1, 2, 3] (by decide) rfl) hS ls (lv_sub hl [0, 1, 2] rfl)
  exact L19 ((k - 0) + 1) 0 (by first | assumption | omega | rfl) (Nat.lt_succ_self _) _ _ (hP.sub [0, 1, 2, 3] rfl) (hD.sub [0, 1, 2, 3] (by decide) rfl) hS ls (lv_sub hl [0, 1, 2] rfl)
set_option maxHeartbeats 400000 in
set_option maxRecDepth 100000 in
theorem c_X5_build_okge (l : Launch) (E : EE) (sz : Nat) (mo mA mK mH mS mV mF mP mR : Nat) (pl sp nu rm : Int32) (n k : Nat) (Al : Nat → Int32) (Hc K : Nat → Int32) (x y z : Nat) (gA0 : Al 0 = nI n) (gn : n ≤ 16) (gA1 : Al 1 = nI k) (gk : k ≤ 30) (gok : okA Al k) (gx : x < n) (gy : y < n) (gne : ¬ x = y) (gz1 : 1 ≤ z) (gz2 : z ≤ 99) (gk2 : k < 30) : Ci l yX5_build wsX5_build 4 93 E [.ref mo, .int (nI x), .int (nI y), .int (nI z)] [(mo, .inr (5, [.ref mA, .ref mK, .ref mH, .int (nI 6), .ref mS, .ref mV, .ref mF, .ref mP, .int pl, .int sp, .int nu, .ref mR, .int rm])), (mA, aI E 92 Al), (mK, aI E 92 K), (mH, aI E 552 Hc)] sz (nI (piM (adA Al k (nI x) (nI y) (nI z)) (k + 1) n)) [(mo, .inr (5, [.ref mA, .ref mK, .ref mH, .int (nI 6), .ref mS, .ref mV, .ref mF, .ref mP, .int pl, .int sp, .int nu, .ref mR, .int rm])), (mA, aI E 92 (adA Al k (nI x) (nI y) (nI z))), (mK, aI E 92 (lsf K Al 92)), (mH, aI E 552 (putH (lsf Hc (shH Hc) 460) (lsf K Al 92) (92 * 5) 92))] := by
  refine C_of (QQ := QI E (nI (piM (adA Al k (nI x) (nI y) (nI z)) (k + 1) n)) [(mo, .inr (5, [.ref mA, .ref mK, .ref mH, .int (nI 6), .ref mS, .ref mV, .ref mF, .ref mP, .int pl, .int sp, .int nu, .ref mR, .int rm])), (mA, aI E 92 (adA Al k (nI x) (nI y) (nI z))), (mK, aI E 92 (lsf K Al 92)), (mH, aI E 552 (putH (lsf Hc (shH Hc) 460) (lsf K Al 92) (92 * 5) 92))]) (cc := cX5_build) (maxL := 4) (ret := (some .int)) (by decide +kernel) rfl (Nat.le_of_ble_eq_true rfl) ?_
  intro p e s m args below meth c A R Q ls hx hb hr hts hown hml hlocks hA hK hN hP hD hS hl hR hQ
  have hown : s.vm.findClass RX5 = some m.cls := hown
  have hl : lv_has ls 4 [(0, .ref mo), (1, .int (nI x)), (2, .int (nI y)), (3, .int (nI z))] := hl
  refine lv_aload_n hx hb dX5_build_0 rfl (lv_at hl 0 rfl) ?_
  refine lv_iload_n hx hb dX5_build_1 rfl (lv_at hl 1 rfl) ?_
  refine kV_i (E := E) (As := [.int (nI x)]) (rest := []) (wr := [(mK, aI E 92 K), (mH, aI E 552 Hc)]) ⟨hx, hb, hml, hown, hts⟩ (c_X5_isSquare (l := l) (E := E) (sz := _) (mo := mo) (mA := mA) (mK := mK) (mH := mH) (mS := mS) (mV := mV) (mF := mF) (mP := mP) (mR := mR) (hy := nI 6) (pl := pl) (sp := sp) (nu := nu) (rm := rm) (n := n) (k := k) (Al := Al) (x := nI x) (gA0 := by first | assumption | omega) (gn := by first | assumption | omega)) (cwV 1 hts gX5_build_X5_isSquare rfl rfl rfl (by decide +kernel) ⟨by rw [hR]; decide, by rw [hR]; decide⟩) hK hN hP hD hS hA [0, 1] [2, 3] rfl (by decide) rfl (by decide) (by decide) 0 5 rfl rfl rfl hl.1 rfl (Nat.le_of_ble_eq_true rfl) dX5_build_2 ⟨Nat.zero_le _, Nat.zero_le _⟩ (fun H locs hP hD hS => ?_)
  have hP : va_P E.1 vwCl [(mK, aI E 92 K), (mH, aI E 552 Hc), (mo, .inr (5, [.ref mA, .ref mK, .ref mH, .int (nI 6), .ref mS, .ref mV, .ref mF, .ref mP, .int pl, .int sp, .int nu, .ref mR, .int rm])), (mA, aI E 92 Al)] H := hP
  have hD : va_D A [(mK, aI E 92 K), (mH, aI E 552 Hc), (mo, .inr (5, [.ref mA, .ref mK, .ref mH, .int (nI 6), .ref mS, .ref mV, .ref mF, .ref mP, .int pl, .int sp, .int nu, .ref mR, .int rm])), (mA, aI E 92 Al)] := hD
  refine rk_if_eqB (tgt := 16) hx hb dX5_build_5 (by decide) (fun q => absurd q (by rw [inR_ok gx (by omega)]; decide)) (fun zc5 => ?_)
  refine lv_aload_n hx hb dX5_build_8 rfl (lv_at hl 0 rfl) ?_
  refine lv_iload_n hx hb dX5_build_9 rfl (lv_at hl 2 rfl) ?_
  refine kV_i (E := E) (As := [.int (nI y)]) (rest := []) (wr := [(mK, aI E 92 K), (mH, aI E 552 Hc)]) ⟨hx, hb, hml, hown, hts⟩ (c_X5_isSquare (l := l) (E := E) (sz := _) (mo := mo) (mA := mA) (mK := mK) (mH := mH) (mS := mS) (mV := mV) (mF := mF) (mP := mP) (mR := mR) (hy := nI 6) (pl := pl) (sp := sp) (nu := nu) (rm := rm) (n := n) (k := k) (Al := Al) (x := nI y) (gA0 := by first | assumption | omega) (gn := by first | assumption | omega)) (cwV 1 hts gX5_build_X5_isSquare rfl rfl rfl (by decide +kernel) ⟨by rw [hR]; decide, by rw [hR]; decide⟩) hK hN hP hD hS hA [2, 3] [0, 1] rfl (by decide) rfl (by decide) (by decide) 2 5 rfl rfl rfl hl.1 rfl (Nat.le_of_ble_eq_true rfl) dX5_build_10 ⟨Nat.zero_le _, Nat.zero_le _⟩ (fun H locs hP hD hS => ?_)
  have hP : va_P E.1 vwCl [(mK, aI E 92 K), (mH, aI E 552 Hc), (mo, .inr (5, [.ref mA, .ref mK, .ref mH, .int (nI 6), .ref mS, .ref mV, .ref mF, .ref mP, .int pl, .int sp, .int nu, .ref mR, .int rm])), (mA, aI E 92 Al)] H := hP
  have hD : va_D A [(mK, aI E 92 K), (mH, aI E 552 Hc), (mo, .inr (5, [.ref mA, .ref mK, .ref mH, .int (nI 6), .ref mS, .ref mV, .ref mF, .ref mP, .int pl, .int sp, .int nu, .ref mR, .int rm])), (mA, aI E 92 Al)] := hD
  refine rk_if_neB (tgt := 18) hx hb dX5_build_13 (by decide) (fun zc13 => ?_) (fun q => absurd q (by rw [inR_ok gy (by omega)]; decide))
  refine lv_iload_n hx hb dX5_build_18 rfl (lv_at hl 1 rfl) ?_
  refine lv_iload_n hx hb dX5_build_19 rfl (lv_at hl 2 rfl) ?_
  refine rk_eqN (tgt := 35) hx hb (by omega) (by omega) dX5_build_20 (by decide) (fun q => absurd q gne) (fun zc20 => ?_)
  refine lv_iload_n hx hb dX5_build_23 rfl (lv_at hl 3 rfl) ?_
  refine lv_i2l hx hb dX5_build_24 rfl ?_
  refine lv_lconst (v := 1) hx hb dX5_build_25 (by decide) ?_
  refine lv_ldc2 (v := 99) hx hb hown (hts _ cl81_X5_build) dX5_build_26 ?_
  refine kS_i (E := E) (As := [.long ((nI z).toInt64), .long ((1 : Int64)), .long ((99 : Int64))]) (rest := []) (wr := [(mK, aI E 92 K), (mH, aI E 552 Hc), (mo, .inr (5, [.ref mA, .ref mK, .ref mH, .int (nI 6), .ref mS, .ref mV, .ref mF, .ref mP, .int pl, .int sp, .int nu, .ref mR, .int rm])), (mA, aI E 92 Al)]) ⟨hx, hb, hml, hown, hts⟩ (c_X5_in (l := l) (E := E) (sz := _) (v := (nI z).toInt64) (lo9 := (1 : Int64)) (hi9 := (99 : Int64)) ) (cwS 3 hts gX5_build_X5_in rfl rfl rfl (by decide +kernel) ⟨by rw [hR]; decide, by rw [hR]; decide⟩) hK hN hP hD hS hA [] [0, 1, 2, 3] rfl (by decide) rfl (by decide) (by decide) rfl hl.1 rfl (Nat.le_of_ble_eq_true rfl) dX5_build_29 ⟨Nat.zero_le _, Nat.zero_le _⟩ (fun H locs hP hD hS => ?_)
  have hP : va_P E.1 vwCl [(mK, aI E 92 K), (mH, aI E 552 Hc), (mo, .inr (5, [.ref mA, .ref mK, .ref mH, .int (nI 6), .ref mS, .ref mV, .ref mF, .ref mP, .int pl, .int sp, .int nu, .ref mR, .int rm])), (mA, aI E 92 Al)] H := hP
  have hD : va_D A [(mK, aI E 92 K), (mH, aI E 552 Hc), (mo, .inr (5, [.ref mA, .ref mK, .ref mH, .int (nI 6), .ref mS, .ref mV, .ref mF, .ref mP, .int pl, .int sp, .int nu, .ref mR, .int rm])), (mA, aI E 92 Al)] := hD
  refine rk_if_neB (tgt := 38) hx hb dX5_build_32 (by decide) (fun zc32 => ?_) (fun q => absurd (q.symm.trans (inLn_t (a := 1) (b := 99) (by decide) gz1 gz2)) (by decide))
  refine lv_aload_n hx hb dX5_build_38 rfl (lv_at hl 0 rfl) ?_
  refine rk_get (ci := 5) (C := RX5) (T := TX5) (N := 13) hx hb hts iw_X5_build_5 hown hK hP 2 rfl rfl 0 (by decide) fl_X5_build_7 rfl (v := .ref mA) rfl dX5_build_39 ?_
  refine lv_iconst (v := nI 1) hx hb dX5_build_42 (by decide) ?_
  refine rk_iald hx hb hK hP 3 rfl (by omega) (by omega) (v := nI k) (by exact gA1) dX5_build_43 ?_
  refine lv_bipush (v := nI 30) hx hb dX5_build_44 (by decide) ?_
  refine rk_neN (tgt := 52) hx hb (by omega) (by omega) dX5_build_46 (by decide) (fun zc46 => ?_) (fun q => absurd q (by omega))
  refine lv_aload_n hx hb dX5_build_52 rfl (lv_at hl 0 rfl) ?_
  refine kV_v (E := E) (As := []) (rest := []) (wr := [(mH, aI E 552 Hc)]) ⟨hx, hb, hml, hown, hts⟩ (c_X5_keep (l := l) (E := E) (sz := _) (mo := mo) (mA := mA) (mK := mK) (mH := mH) (mS := mS) (mV := mV) (mF := mF) (mP := mP) (mR := mR) (hy := nI 6) (pl := pl) (sp := sp) (nu := nu) (rm := rm) (Al := Al) (K := K) ) (cwV 0 hts gX5_build_X5_keep rfl rfl rfl (by decide +kernel) ⟨by rw [hR]; decide, by rw [hR]; decide⟩) hK hN hP hD hS hA [2, 3, 0] [1] rfl (by decide) rfl (by decide) (by decide) 2 5 rfl rfl rfl hl.1 rfl (Nat.le_of_ble_eq_true rfl) dX5_build_53 ⟨Nat.zero_le _, Nat.zero_le _⟩ (fun H locs hP hD hS => ?_)
  have hP : va_P E.1 vwCl [(mH, aI E 552 Hc), (mo, .inr (5, [.ref mA, .ref mK, .ref mH, .int (nI 6), .ref mS, .ref mV, .ref mF, .ref mP, .int pl, .int sp, .int nu, .ref mR, .int rm])), (mA, aI E 92 Al), (mK, aI E 92 (lsf K Al 92))] H := hP
  have hD : va_D A [(mH, aI E 552 Hc), (mo, .inr (5, [.ref mA, .ref mK, .ref mH, .int (nI 6), .ref mS, .ref mV, .ref mF, .ref mP, .int pl, .int sp, .int nu, .ref mR, .int rm])), (mA, aI E 92 Al), (mK, aI E 92 (lsf K Al 92))] := hD
  refine lv_aload_n hx hb dX5_build_56 rfl (lv_at hl 0 rfl) ?_
  refine lv_iload_n hx hb dX5_build_57 rfl (lv_at hl 1 rfl) ?_
  refine lv_iload_n hx hb dX5_build_58 rfl (lv_at hl 2 rfl) ?_
  refine lv_iload_n hx hb dX5_build_59 rfl (lv_at hl 3 rfl) ?_
  refine kV_v (E := E) (As := [.int (nI x), .int (nI y), .int (nI z)]) (rest := []) (wr := [(mH, aI E 552 Hc), (mK, aI E 92 (lsf K Al 92))]) ⟨hx, hb, hml, hown, hts⟩ (c_X5_adds (l := l) (E := E) (sz := _) (mo := mo) (mA := mA) (mK := mK) (mH := mH) (mS := mS) (mV := mV) (mF := mF) (mP := mP) (mR := mR) (hy := nI 6) (pl := pl) (sp := sp) (nu := nu) (rm := rm) (k := k) (Al := Al) (x := nI x) (y := nI y) (z9 := nI z) (gA1 := by first | assumption | omega) (gk2 := by first | assumption | omega)) (cwV 3 hts gX5_build_X5_adds rfl rfl rfl (by decide +kernel) ⟨by rw [hR]; decide, by rw [hR]; decide⟩) hK hN hP hD hS hA [1, 2] [0, 3] rfl (by decide) rfl (by decide) (by decide) 1 5 rfl rfl rfl hl.1 rfl (Nat.le_of_ble_eq_true rfl) dX5_build_60 ⟨Nat.zero_le _, Nat.zero_le _⟩ (fun H locs hP hD hS => ?_)
  have hP : va_P E.1 vwCl [(mH, aI E 552 Hc), (mK, aI E 92 (lsf K Al 92)), (mo, .inr (5, [.ref mA, .ref mK, .ref mH, .int (nI 6), .ref mS, .ref mV, .ref mF, .ref mP, .int pl, .int sp, .int nu, .ref mR, .int rm])), (mA, aI E 92 (upd (upd (upd (upd Al (2 + k) (if (nI y) ≤ (nI x) then (nI y) else (nI x))) (32 + k) (if (nI y) ≤ (nI x) then (nI x) else (nI y))) (62 + k) (nI z)) 1 (nI (k + 1))))] H := hP
  have hD : va_D A [(mH, aI E 552 Hc), (mK, aI E 92 (lsf K Al 92)), (mo, .inr (5, [.ref mA, .ref mK, .ref mH, .int (nI 6), .ref mS, .ref mV, .ref mF, .ref mP, .int pl, .int sp, .int nu, .ref mR, .int rm])), (mA, aI E 92 (upd (upd (upd (upd Al (2 + k) (if (nI y) ≤ (nI x) then (nI y) else (nI x))) (32 + k) (if (nI y) ≤ (nI x) then (nI x) else (nI y))) (62 + k) (nI z)) 1 (nI (k + 1))))] := hD
  refine lv_aload_n hx hb dX5_build_63 rfl (lv_at hl 0 rfl) ?_
  refine lv_aload_n hx hb dX5_build_64 rfl (lv_at hl 0 rfl) ?_
  have ga9 : okA (adA Al k (nI x) (nI y) (nI z)) (k + 1) := okA_ad gok gk2 ⟨x, by omega, rfl⟩ ⟨y, by omega, rfl⟩
  refine kV_i (E := E) (As := []) (rest := [.ref mo]) (wr := [(mH, aI E 552 Hc), (mK, aI E 92 (lsf K Al 92))]) ⟨hx, hb, hml, hown, hts⟩ (c_X5_pieces (l := l) (E := E) (sz := _) (mo := mo) (mA := mA) (mK := mK) (mH := mH) (mS := mS) (mV := mV) (mF := mF) (mP := mP) (mR := mR) (hy := nI 6) (pl := pl) (sp := sp) (nu := nu) (rm := rm) (n := n) (k := k + 1) (Al := upd (upd (upd (upd Al (2 + k) (if (nI y) ≤ (nI x) then (nI y) else (nI x))) (32 + k) (if (nI y) ≤ (nI x) then (nI x) else (nI y))) (62 + k) (nI z)) 1 (nI (k + 1))) (gA0 := adA_0.trans gA0) (gn := by first | assumption | omega) (gA1 := adA_1) (gk := by omega) (gok := ga9)) (cwV 0 hts gX5_build_X5_pieces rfl rfl rfl (by decide +kernel) ⟨by rw [hR]; decide, by rw [hR]; decide⟩) hK hN hP hD hS hA [2, 3] [0, 1] rfl (by decide) rfl (by decide) (by decide) 2 5 rfl rfl rfl hl.1 rfl (Nat.le_of_ble_eq_true rfl) dX5_build_65 ⟨Nat.zero_le _, Nat.zero_le _⟩ (fun H locs hP hD hS => ?_)
  have hP : va_P E.1 vwCl [(mH, aI E 552 Hc), (mK, aI E 92 (lsf K Al 92)), (mo, .inr (5, [.ref mA, .ref mK, .ref mH, .int (nI 6), .ref mS, .ref mV, .ref mF, .ref mP, .int pl, .int sp, .int nu, .ref mR, .int rm])), (mA, aI E 92 ((upd (upd (upd (upd Al (2 + k) (if (nI y) ≤ (nI x) then (nI y) else (nI x))) (32 + k) (if (nI y) ≤ (nI x) then (nI x) else (nI y))) (62 + k) (nI z)) 1 (nI (k + 1)))))] H := hP
  have hD : va_D A [(mH, aI E 552 Hc), (mK, aI E 92 (lsf K Al 92)), (mo, .inr (5, [.ref mA, .ref mK, .ref mH, .int (nI 6), .ref mS, .ref mV, .ref mF, .ref mP, .int pl, .int sp, .int nu, .ref mR, .int rm])), (mA, aI E 92 ((upd (upd (upd (upd Al (2 + k) (if (nI y) ≤ (nI x) then (nI y) else (nI x))) (32 + k) (if (nI y) ≤ (nI x) then (nI x) else (nI y))) (62 + k) (nI z)) 1 (nI (k + 1)))))] := hD
  refine kV_i (E := E) (As := [.int (nI (piM (upd (upd (upd (upd Al (2 + k) (if (nI y) ≤ (nI x) then (nI y) else (nI x))) (32 + k) (if (nI y) ≤ (nI x) then (nI x) else (nI y))) (62 + k) (nI z)) 1 (nI (k + 1))) (k + 1) n))]) (rest := []) (wr := [(mA, aI E 92 ((upd (upd (upd (upd Al (2 + k) (if (nI y) ≤ (nI x) then (nI y) else (nI x))) (32 + k) (if (nI y) ≤ (nI x) then (nI x) else (nI y))) (62 + k) (nI z)) 1 (nI (k + 1)))))]) ⟨hx, hb, hml, hown, hts⟩ (c_X5_changed_ge (l := l) (E := E) (sz := _) (mo := mo) (mA := mA) (mK := mK) (mH := mH) (mS := mS) (mV := mV) (mF := mF) (mP := mP) (mR := mR) (pl := pl) (sp := sp) (nu := nu) (rm := rm) (r := nI (piM (upd (upd (upd (upd Al (2 + k) (if (nI y) ≤ (nI x) then (nI y) else (nI x))) (32 + k) (if (nI y) ≤ (nI x) then (nI x) else (nI y))) (62 + k) (nI z)) 1 (nI (k + 1))) (k + 1) n)) (Hc := Hc) (K := lsf K Al 92) ) (cwV 1 hts gX5_build_X5_changed rfl rfl rfl (by decide +kernel) ⟨by rw [hR]; decide, by rw [hR]; decide⟩) hK hN hP hD hS hA [2, 0, 1] [3] rfl (by decide) rfl (by decide) (by decide) 2 5 rfl rfl rfl hl.1 rfl (Nat.le_of_ble_eq_true rfl) dX5_build_68 ⟨Nat.zero_le _, Nat.zero_le _⟩ (fun H locs hP hD hS => ?_)
  have hP : va_P E.1 vwCl [(mA, aI E 92 ((upd (upd (upd (upd Al (2 + k) (if (nI y) ≤ (nI x) then (nI y) else (nI x))) (32 + k) (if (nI y) ≤ (nI x) then (nI x) else (nI y))) (62 + k) (nI z)) 1 (nI (k + 1))))), (mo, .inr (5, [.ref mA, .ref mK, .ref mH, .int (nI 6), .ref mS, .ref mV, .ref mF, .ref mP, .int pl, .int sp, .int nu, .ref mR, .int rm])), (mH, aI E 552 (putH (lsf Hc (shH Hc) 460) (lsf K Al 92) (92 * 5) 92)), (mK, aI E 92 ((lsf K Al 92)))] H := hP
  have hD : va_D A [(mA, aI E 92 ((upd (upd (upd (upd Al (2 + k) (if (nI y) ≤ (nI x) then (nI y) else (nI x))) (32 + k) (if (nI y) ≤ (nI x) then (nI x) else (nI y))) (62 + k) (nI z)) 1 (nI (k + 1))))), (mo, .inr (5, [.ref mA, .ref mK, .ref mH, .int (nI 6), .ref mS, .ref mV, .ref mF, .ref mP, .int pl, .int sp, .int nu, .ref mR, .int rm])), (mH, aI E 552 (putH (lsf Hc (shH Hc) 460) (lsf K Al 92) (92 * 5) 92)), (mK, aI E 92 ((lsf K Al 92)))] := hD
  exact ret_i hQ hx hb hr hlocks (hP.sub [1, 0, 3, 2] rfl) (hD.sub [1, 0, 3, 2] (by decide) rfl) hS dX5_build_71 (rfl)
set_option maxHeartbeats 400000 in
set_option maxRecDepth 100000 in
theorem c_X5_lose_okge (l : Launch) (E : EE) (sz : Nat) (mo mA mK mH mS mV mF mP mR : Nat) (pl sp nu rm : Int32) (n k : Nat) (Al : Nat → Int32) (Hc K : Nat → Int32) (r : Nat) (gA0 : Al 0 = nI n) (gn : n ≤ 16) (gA1 : Al 1 = nI k) (gk : k ≤ 30) (gok : okA Al k) (gr : r < k) : Ci l yX5_lose wsX5_lose 4 93 E [.ref mo, .int (nI r)] [(mo, .inr (5, [.ref mA, .ref mK, .ref mH, .int (nI 6), .ref mS, .ref mV, .ref mF, .ref mP, .int pl, .int sp, .int nu, .ref mR, .int rm])), (mA, aI E 92 Al), (mK, aI E 92 K), (mH, aI E 552 Hc)] sz (nI (piM (loA Al r k) (k - 1) n)) [(mo, .inr (5, [.ref mA, .ref mK, .ref mH, .int (nI 6), .ref mS, .ref mV, .ref mF, .ref mP, .int pl, .int sp, .int nu, .ref mR, .int rm])), (mA, aI E 92 (loA Al r k)), (mK, aI E 92 (lsf K Al 92)), (mH, aI E 552 (putH (lsf Hc (shH Hc) 460) (lsf K Al 92) (92 * 5) 92))] := by
  refine C_of (QQ := QI E (nI (piM (loA Al r k) (k - 1) n)) [(mo, .inr (5, [.ref mA, .ref mK, .ref mH, .int (nI 6), .ref mS, .ref mV, .ref mF, .ref mP, .int pl, .int sp, .int nu, .ref mR, .int rm])), (mA, aI E 92 (loA Al r k)), (mK, aI E 92 (lsf K Al 92)), (mH, aI E 552 (putH (lsf Hc (shH Hc) 460) (lsf K Al 92) (92 * 5) 92))]) (cc := cX5_lose) (maxL := 3) (ret := (some .int)) (by decide +kernel) rfl (Nat.le_of_ble_eq_true rfl) ?_
  intro p e s m args below meth c A R Q ls hx hb hr hts hown hml hlocks hA hK hN hP hD hS hl hR hQ
  have hown : s.vm.findClass RX5 = some m.cls := hown
  have hl : lv_has ls 3 [(0, .ref mo), (1, .int (nI r))] := hl
  refine lv_aload_n hx hb dX5_lose_0 rfl (lv_at hl 0 rfl) ?_
  refine lv_iload_n hx hb dX5_lose_1 rfl (lv_at hl 1 rfl) ?_
  refine kV_i (E := E) (As := [.int (nI r)]) (rest := []) (wr := [(mK, aI E 92 K), (mH, aI E 552 Hc)]) ⟨hx, hb, hml, hown, hts⟩ (c_X5_isRoad (l := l) (E := E) (sz := _) (mo := mo) (mA := mA) (mK := mK) (mH := mH) (mS := mS) (mV := mV) (mF := mF) (mP := mP) (mR := mR) (hy := nI 6) (pl := pl) (sp := sp) (nu := nu) (rm := rm) (n := n) (k := k) (Al := Al) (x := nI r) (gA1 := by first | assumption | omega) (gk := by first | assumption | omega)) (cwV 1 hts gX5_lose_X5_isRoad rfl rfl rfl (by decide +kernel) ⟨by rw [hR]; decide, by rw [hR]; decide⟩) hK hN hP hD hS hA [0, 1] [2, 3] rfl (by decide) rfl (by decide) (by decide) 0 5 rfl rfl rfl hl.1 rfl (Nat.le_of_ble_eq_true rfl) dX5_lose_2 ⟨Nat.zero_le _, Nat.zero_le _⟩ (fun H locs hP hD hS => ?_)
  have hP : va_P E.1 vwCl [(mK, aI E 92 K), (mH, aI E 552 Hc), (mo, .inr (5, [.ref mA, .ref mK, .ref mH, .int (nI 6), .ref mS, .ref mV, .ref mF, .ref mP, .int pl, .int sp, .int nu, .ref mR, .int rm])), (mA, aI E 92 Al)] H := hP
  have hD : va_D A [(mK, aI E 92 K), (mH, aI E 552 Hc), (mo, .inr (5, [.ref mA, .ref mK, .ref mH, .int (nI 6), .ref mS, .ref mV, .ref mF, .ref mP, .int pl, .int sp, .int nu, .ref mR, .int rm])), (mA, aI E 92 Al)] := hD
  refine rk_if_neB (tgt := 10) hx hb dX5_lose_5 (by decide) (fun zc5 => ?_) (fun q => absurd q (by rw [inR_ok gr (by omega)]; decide))
  refine lv_aload_n hx hb dX5_lose_10 rfl (lv_at hl 0 rfl) ?_
  refine kV_v (E := E) (As := []) (rest := []) (wr := [(mH, aI E 552 Hc)]) ⟨hx, hb, hml, hown, hts⟩ (c_X5_keep (l := l) (E := E) (sz := _) (mo := mo) (mA := mA) (mK := mK) (mH := mH) (mS := mS) (mV := mV) (mF := mF) (mP := mP) (mR := mR) (hy := nI 6) (pl := pl) (sp := sp) (nu := nu) (rm := rm) (Al := Al) (K := K) ) (cwV 0 hts gX5_lose_X5_keep rfl rfl rfl (by decide +kernel) ⟨by rw [hR]; decide, by rw [hR]; decide⟩) hK hN hP hD hS hA [2, 3, 0] [1] rfl (by decide) rfl (by decide) (by decide) 2 5 rfl rfl rfl hl.1 rfl (Nat.le_of_ble_eq_true rfl) dX5_lose_11 ⟨Nat.zero_le _, Nat.zero_le _⟩ (fun H locs hP hD hS => ?_)
  have hP : va_P E.1 vwCl [(mH, aI E 552 Hc), (mo, .inr (5, [.ref mA, .ref mK, .ref mH, .int (nI 6), .ref mS, .ref mV, .ref mF, .ref mP, .int pl, .int sp, .int nu, .ref mR, .int rm])), (mA, aI E 92 Al), (mK, aI E 92 (lsf K Al 92))] H := hP
  have hD : va_D A [(mH, aI E 552 Hc), (mo, .inr (5, [.ref mA, .ref mK, .ref mH, .int (nI 6), .ref mS, .ref mV, .ref mF, .ref mP, .int pl, .int sp, .int nu, .ref mR, .int rm])), (mA, aI E 92 Al), (mK, aI E 92 (lsf K Al 92))] := hD
  refine lv_aload_n hx hb dX5_lose_14 rfl (lv_at hl 0 rfl) ?_
  refine rk_get (ci := 5) (C := RX5) (T := TX5) (N := 13) hx hb hts iw_X5_lose_5 hown hK hP 1 rfl rfl 0 (by decide) fl_X5_lose_7 rfl (v := .ref mA) rfl dX5_lose_15 ?_
  refine lv_iconst (v := nI 1) hx hb dX5_lose_18 (by decide) ?_
  refine lv_dup2_11 hx hb dX5_lose_19 rfl rfl ?_
  refine rk_iald hx hb hK hP 2 rfl (by omega) (by omega) (v := nI k) (by exact gA1) dX5_lose_20 ?_
  refine lv_iconst (v := nI 1) hx hb dX5_lose_21 (by decide) ?_
  refine rk_isubN hx hb (by omega) dX5_lose_22 ?_
  refine rk_iast hx hb hK hP hD hS 2 rfl (by omega) (by omega) (ws' := [(mH, aI E 552 Hc), (mo, .inr (5, [.ref mA, .ref mK, .ref mH, .int (nI 6), .ref mS, .ref mV, .ref mF, .ref mP, .int pl, .int sp, .int nu, .ref mR, .int rm])), (mA, aI E 92 (upd Al 1 (nI (k - 1)))), (mK, aI E 92 (lsf K Al 92))]) rfl dX5_lose_23 (fun H locs hP hD hS => ?_)
  refine lv_iload_n hx hb dX5_lose_24 rfl (lv_at hl 1 rfl) ?_
  refine lv_istore_n (lv' := [(2, .int (nI r)), (0, .ref mo), (1, .int (nI r))]) hx hb dX5_lose_25 rfl hl (by decide) rfl (fun ls hl => ?_)
  have L26 : ∀ (fu : Nat) (i : Nat) (f : Nat → Int32), (ef : f = loF Al r k i) → (g1 : r ≤ i) → (g2 : i ≤ k - 1) → k - i < fu → ∀ (H : Heap) (locs : List Loc), va_P E.1 vwCl [(mH, aI E 552 Hc), (mo, .inr (5, [.ref mA, .ref mK, .ref mH, .int (nI 6), .ref mS, .ref mV, .ref mF, .ref mP, .int pl, .int sp, .int nu, .ref mR, .int rm])), (mA, aI E 92 f), (mK, aI E 92 (lsf K Al 92))] H → va_D A [(mH, aI E 552 Hc), (mo, .inr (5, [.ref mA, .ref mK, .ref mH, .int (nI 6), .ref mS, .ref mV, .ref mF, .ref mP, .int pl, .int sp, .int nu, .ref mR, .int rm])), (mA, aI E 92 f), (mK, aI E 92 (lsf K Al 92))] → va_S A s.heap H locs → ∀ (ls : Array Slot), lv_has ls 3 [(2, .int (nI i)), (0, .ref mo), (1, .int (nI r))] → W p l e R s m args below meth c H locs 0 0 Q (F0 m 26 ls []) := by
    intro fu
    induction fu with
    | zero => intro i f ef g1 g2 hfu; exact absurd hfu (Nat.not_lt_zero _)
    | succ fu ih26 =>
      intro i f ef g1 g2 hfu H locs hP hD hS ls hl
      refine lv_iload_n hx hb dX5_lose_26 rfl (lv_at hl 0 rfl) ?_
      refine lv_aload_n hx hb dX5_lose_27 rfl (lv_at hl 1 rfl) ?_
      refine rk_get (ci := 5) (C := RX5) (T := TX5) (N := 13) hx hb hts iw_X5_lose_5 hown hK hP 1 rfl rfl 0 (by decide) fl_X5_lose_7 rfl (v := .ref mA) rfl dX5_lose_28 ?_
      refine lv_iconst (v := nI 1) hx hb dX5_lose_31 (by decide) ?_
      refine rk_iald hx hb hK hP 2 rfl (by omega) (by omega) (v := nI (k - 1)) (by rw [ef]; exact loF_one) dX5_lose_32 ?_
      refine rk_geN (tgt := 100) hx hb (by omega) (by omega) dX5_lose_33 (by decide) (fun zc33 => ?_) (fun zc33 => ?_)
      · have ei9 : i = k - 1 := by omega
        subst ei9
        subst ef
        refine lv_aload_n hx hb dX5_lose_100 rfl (lv_at hl 1 rfl) ?_
        refine lv_aload_n hx hb dX5_lose_101 rfl (lv_at hl 1 rfl) ?_
        have ga9 : okA (loA Al r k) (k - 1) := okA_lo gok gr gk
        refine kV_i (E := E) (As := []) (rest := [.ref mo]) (wr := [(mH, aI E 552 Hc), (mK, aI E 92 (lsf K Al 92))]) ⟨hx, hb, hml, hown, hts⟩ (c_X5_pieces (l := l) (E := E) (sz := _) (mo := mo) (mA := mA) (mK := mK) (mH := mH) (mS := mS) (mV := mV) (mF := mF) (mP := mP) (mR := mR) (hy := nI 6) (pl := pl) (sp := sp) (nu := nu) (rm := rm) (n := n) (k := k - 1) (Al := (loA Al r k)) (gA0 := (loA_0 gk).trans gA0) (gn := by first | assumption | omega) (gA1 := loF_one) (gk := by omega) (gok := ga9)) (cwV 0 hts gX5_lose_X5_pieces rfl rfl rfl (by decide +kernel) ⟨by rw [hR]; decide, by rw [hR]; decide⟩) hK hN hP hD hS hA [1, 2] [0, 3] rfl (by decide) rfl (by decide) (by decide) 1 5 rfl rfl rfl hl.1 rfl (Nat.le_of_ble_eq_true rfl) dX5_lose_102 ⟨Nat.zero_le _, Nat.zero_le _⟩ (fun H locs hP hD hS => ?_)
        have hP : va_P E.1 vwCl [(mH, aI E 552 Hc), (mK, aI E 92 (lsf K Al 92)), (mo, .inr (5, [.ref mA, .ref mK, .ref mH, .int (nI 6), .ref mS, .ref mV, .ref mF, .ref mP, .int pl, .int sp, .int nu, .ref mR, .int rm])), (mA, aI E 92 (((loA Al r k))))] H := hP
        have hD : va_D A [(mH, aI E 552 Hc), (mK, aI E 92 (lsf K Al 92)), (mo, .inr (5, [.ref mA, .ref mK, .ref mH, .int (nI 6), .ref mS, .ref mV, .ref mF, .ref mP, .int pl, .int sp, .int nu, .ref mR, .int rm])), (mA, aI E 92 (((loA Al r k))))] := hD
        refine kV_i (E := E) (As := [.int (nI (piM ((loA Al r k)) (k - 1) n))]) (rest := []) (wr := [(mA, aI E 92 (((loA Al r k))))]) ⟨hx, hb, hml, hown, hts⟩ (c_X5_changed_ge (l := l) (E := E) (sz := _) (mo := mo) (mA := mA) (mK := mK) (mH := mH) (mS := mS) (mV := mV) (mF := mF) (mP := mP) (mR := mR) (pl := pl) (sp := sp) (nu := nu) (rm := rm) (r := nI (piM ((loA Al r k)) (k - 1) n)) (Hc := Hc) (K := lsf K Al 92) ) (cwV 1 hts gX5_lose_X5_changed rfl rfl rfl (by decide +kernel) ⟨by rw [hR]; decide, by rw [hR]; decide⟩) hK hN hP hD hS hA [2, 0, 1] [3] rfl (by decide) rfl (by decide) (by decide) 2 5 rfl rfl rfl hl.1 rfl (Nat.le_of_ble_eq_true rfl) dX5_lose_105 ⟨Nat.zero_le _, Nat.zero_le _⟩ (fun H locs hP hD hS => ?_)
        have hP : va_P E.1 vwCl [(mA, aI E 92 (((loA Al r k)))), (mo, .inr (5, [.ref mA, .ref mK, .ref mH, .int (nI 6), .ref mS, .ref mV, .ref mF, .ref mP, .int pl, .int sp, .int nu, .ref mR, .int rm])), (mH, aI E 552 (putH (lsf Hc (shH Hc) 460) (lsf K Al 92) (92 * 5) 92)), (mK, aI E 92 ((lsf K Al 92)))] H := hP
        have hD : va_D A [(mA, aI E 92 (((loA Al r k)))), (mo, .inr (5, [.ref mA, .ref mK, .ref mH, .int (nI 6), .ref mS, .ref mV, .ref mF, .ref mP, .int pl, .int sp, .int nu, .ref mR, .int rm])), (mH, aI E 552 (putH (lsf Hc (shH Hc) 460) (lsf K Al 92) (92 * 5) 92)), (mK, aI E 92 ((lsf K Al 92)))] := hD
        exact ret_i hQ hx hb hr hlocks (hP.sub [1, 0, 3, 2] rfl) (hD.sub [1, 0, 3, 2] (by decide) rfl) hS dX5_lose_108 (rfl)
      · refine lv_aload_n hx hb dX5_lose_36 rfl (lv_at hl 1 rfl) ?_
        refine rk_get (ci := 5) (C := RX5) (T := TX5) (N := 13) hx hb hts iw_X5_lose_5 hown hK hP 1 rfl rfl 0 (by decide) fl_X5_lose_7 rfl (v := .ref mA) rfl dX5_lose_37 ?_
        refine lv_iconst (v := nI 2) hx hb dX5_lose_40 (by decide) ?_
        refine lv_iload_n hx hb dX5_lose_41 rfl (lv_at hl 0 rfl) ?_
        refine rk_iaddN hx hb dX5_lose_42 ?_
        refine lv_aload_n hx hb dX5_lose_43 rfl (lv_at hl 1 rfl) ?_
        refine rk_get (ci := 5) (C := RX5) (T := TX5) (N := 13) hx hb hts iw_X5_lose_5 hown hK hP 1 rfl rfl 0 (by decide) fl_X5_lose_7 rfl (v := .ref mA) rfl dX5_lose_44 ?_
        refine lv_iconst (v := nI 2) hx hb dX5_lose_47 (by decide) ?_
        refine lv_iload_n hx hb dX5_lose_48 rfl (lv_at hl 0 rfl) ?_
        refine rk_iaddN hx hb dX5_lose_49 ?_
        refine lv_iconst (v := nI 1) hx hb dX5_lose_50 (by decide) ?_
        refine rk_iaddN hx hb dX5_lose_51 ?_
        refine rk_iald hx hb hK hP 2 rfl (by omega) (by omega) (v := f ((2 + i) + 1)) (rfl) dX5_lose_52 ?_
        refine rk_iast hx hb hK hP hD hS 2 rfl (by omega) (by omega) (ws' := [(mH, aI E 552 Hc), (mo, .inr (5, [.ref mA, .ref mK, .ref mH, .int (nI 6), .ref mS, .ref mV, .ref mF, .ref mP, .int pl, .int sp, .int nu, .ref mR, .int rm])), (mA, aI E 92 (upd f (2 + i) (f ((2 + i) + 1)))), (mK, aI E 92 (lsf K Al 92))]) rfl dX5_lose_53 (fun H locs hP hD hS => ?_)
        refine lv_aload_n hx hb dX5_lose_54 rfl (lv_at hl 1 rfl) ?_
        refine rk_get (ci := 5) (C := RX5) (T := TX5) (N := 13) hx hb hts iw_X5_lose_5 hown hK hP 1 rfl rfl 0 (by decide) fl_X5_lose_7 rfl (v := .ref mA) rfl dX5_lose_55 ?_
        refine lv_bipush (v := nI 32) hx hb dX5_lose_58 (by decide) ?_
        refine lv_iload_n hx hb dX5_lose_60 rfl (lv_at hl 0 rfl) ?_
        refine rk_iaddN hx hb dX5_lose_61 ?_
        refine lv_aload_n hx hb dX5_lose_62 rfl (lv_at hl 1 rfl) ?_
        refine rk_get (ci := 5) (C := RX5) (T := TX5) (N := 13) hx hb hts iw_X5_lose_5 hown hK hP 1 rfl rfl 0 (by decide) fl_X5_lose_7 rfl (v := .ref mA) rfl dX5_lose_63 ?_
        refine lv_bipush (v := nI 32) hx hb dX5_lose_66 (by decide) ?_
        refine lv_iload_n hx hb dX5_lose_68 rfl (lv_at hl 0 rfl) ?_
        refine rk_iaddN hx hb dX5_lose_69 ?_
        refine lv_iconst (v := nI 1) hx hb dX5_lose_70 (by decide) ?_
        refine rk_iaddN hx hb dX5_lose_71 ?_
        refine rk_iald hx hb hK hP 2 rfl (by omega) (by omega) (v := (upd f (2 + i) (f ((2 + i) + 1))) ((32 + i) + 1)) (rfl) dX5_lose_72 ?_
        refine rk_iast hx hb hK hP hD hS 2 rfl (by omega) (by omega) (ws' := [(mH, aI E 552 Hc), (mo, .inr (5, [.ref mA, .ref mK, .ref mH, .int (nI 6), .ref mS, .ref mV, .ref mF, .ref mP, .int pl, .int sp, .int nu, .ref mR, .int rm])), (mA, aI E 92 (upd (upd f (2 + i) (f ((2 + i) + 1))) (32 + i) ((upd f (2 + i) (f ((2 + i) + 1))) ((32 + i) + 1)))), (mK, aI E 92 (lsf K Al 92))]) rfl dX5_lose_73 (fun H locs hP hD hS => ?_)
        refine lv_aload_n hx hb dX5_lose_74 rfl (lv_at hl 1 rfl) ?_
        refine rk_get (ci := 5) (C := RX5) (T := TX5) (N := 13) hx hb hts iw_X5_lose_5 hown hK hP 1 rfl rfl 0 (by decide) fl_X5_lose_7 rfl (v := .ref mA) rfl dX5_lose_75 ?_
        refine lv_bipush (v := nI 62) hx hb dX5_lose_78 (by decide) ?_
        refine lv_iload_n hx hb dX5_lose_80 rfl (lv_at hl 0 rfl) ?_
        refine rk_iaddN hx hb dX5_lose_81 ?_
        refine lv_aload_n hx hb dX5_lose_82 rfl (lv_at hl 1 rfl) ?_
        refine rk_get (ci := 5) (C := RX5) (T := TX5) (N := 13) hx hb hts iw_X5_lose_5 hown hK hP 1 rfl rfl 0 (by decide) fl_X5_lose_7 rfl (v := .ref mA) rfl dX5_lose_83 ?_
        refine lv_bipush (v := nI 62) hx hb dX5_lose_86 (by decide) ?_
        refine lv_iload_n hx hb dX5_lose_88 rfl (lv_at hl 0 rfl) ?_
        refine rk_iaddN hx hb dX5_lose_89 ?_
        refine lv_iconst (v := nI 1) hx hb dX5_lose_90 (by decide) ?_
        refine rk_iaddN hx hb dX5_lose_91 ?_
        refine rk_iald hx hb hK hP 2 rfl (by omega) (by omega) (v := (upd (upd f (2 + i) (f ((2 + i) + 1))) (32 + i) ((upd f (2 + i) (f ((2 + i) + 1))) ((32 + i) + 1))) ((62 + i) + 1)) (rfl) dX5_lose_92 ?_
        refine rk_iast hx hb hK hP hD hS 2 rfl (by omega) (by omega) (ws' := [(mH, aI E 552 Hc), (mo, .inr (5, [.ref mA, .ref mK, .ref mH, .int (nI 6), .ref mS, .ref mV, .ref mF, .ref mP, .int pl, .int sp, .int nu, .ref mR, .int rm])), (mA, aI E 92 (upd (upd (upd f (2 + i) (f ((2 + i) + 1))) (32 + i) ((upd f (2 + i) (f ((2 + i) + 1))) ((32 + i) + 1))) (62 + i) ((upd (upd f (2 + i) (f ((2 + i) + 1))) (32 + i) ((upd f (2 + i) (f ((2 + i) + 1))) ((32 + i) + 1))) ((62 + i) + 1)))), (mK, aI E 92 (lsf K Al 92))]) rfl dX5_lose_93 (fun H locs hP hD hS => ?_)
        refine lv_iinc (v := nI (i + 1)) (lv' := [(2, .int (nI (i + 1))), (0, .ref mo), (1, .int (nI r))]) hx hb dX5_lose_94 hl (k := 0) rfl (by rw [show Int32.ofInt 1 = nI 1 by decide]; exact nI_add _ _) (by decide) rfl (fun ls hl => ?_)
        refine lv_goto (tgt := 26) hx hb dX5_lose_97 (by decide) ?_
        exact ih26 (i + 1) (upd (upd (upd f (2 + i) (f ((2 + i) + 1))) (32 + i) ((upd f (2 + i) (f ((2 + i) + 1))) ((32 + i) + 1))) (62 + i) ((upd (upd f (2 + i) (f ((2 + i) + 1))) (32 + i) ((upd f (2 + i) (f ((2 + i) + 1))) ((32 + i) + 1))) ((62 + i) + 1))) (by rw [ef]; exact loF_s (by omega) (by omega) (by omega)) (by first | assumption | omega | rfl) (by first | assumption | omega | rfl) (by omega) _ _ (hP.sub [0, 1, 2, 3] rfl) (hD.sub [0, 1, 2, 3] (by decide) rfl) hS ls (lv_sub hl [0, 1, 2] rfl)
  exact L26 ((k - r) + 1) r (upd Al 1 (nI (k - 1))) (by exact loF_0) (by first | assumption | omega | rfl) (by first | assumption | omega | rfl) (Nat.lt_succ_self _) _ _ (hP.sub [0, 1, 2, 3] rfl) (hD.sub [0, 1, 2, 3] (by decide) rfl) hS ls (lv_sub hl [0, 1, 2] rfl)
set_option maxHeartbeats 400000 in
set_option maxRecDepth 100000 in
theorem c_X5_restore_okge (l : Launch) (E : EE) (sz : Nat) (mo mA mK mH mS mV mF mP mR : Nat) (pl sp nu rm : Int32) (n k : Nat) (Al : Nat → Int32) (Hc K : Nat → Int32) (j k2 : Nat) (Sl sv : Nat → Int32) (gj : j < 2) (gsv : sv j = nI 1) (gS1 : hsF Sl (92 * j) 1 = nI k2) : Ci l yX5_restore wsX5_restore 1 25 E [.ref mo, .int (nI j)] [(mo, .inr (5, [.ref mA, .ref mK, .ref mH, .int (nI 6), .ref mS, .ref mV, .ref mF, .ref mP, .int pl, .int sp, .int nu, .ref mR, .int rm])), (mA, aI E 92 Al), (mK, aI E 92 K), (mH, aI E 552 Hc), (mS, aI E 184 Sl), (mV, aI E 2 sv)] sz (nI k2) [(mo, .inr (5, [.ref mA, .ref mK, .ref mH, .int (nI 6), .ref mS, .ref mV, .ref mF, .ref mP, .int pl, .int sp, .int nu, .ref mR, .int rm])), (mA, aI E 92 (lsf Al (hsF Sl (92 * j)) 92)), (mK, aI E 92 (lsf K Al 92)), (mH, aI E 552 (putH (lsf Hc (shH Hc) 460) (lsf K Al 92) (92 * 5) 92)), (mS, aI E 184 Sl), (mV, aI E 2 sv)] := by
  refine C_of (QQ := QI E (nI k2) [(mo, .inr (5, [.ref mA, .ref mK, .ref mH, .int (nI 6), .ref mS, .ref mV, .ref mF, .ref mP, .int pl, .int sp, .int nu, .ref mR, .int rm])), (mA, aI E 92 (lsf Al (hsF Sl (92 * j)) 92)), (mK, aI E 92 (lsf K Al 92)), (mH, aI E 552 (putH (lsf Hc (shH Hc) 460) (lsf K Al 92) (92 * 5) 92)), (mS, aI E 184 Sl), (mV, aI E 2 sv)]) (cc := cX5_restore) (maxL := 3) (ret := (some .int)) (by decide +kernel) rfl (Nat.le_of_ble_eq_true rfl) ?_
  intro p e s m args below meth c A R Q ls hx hb hr hts hown hml hlocks hA hK hN hP hD hS hl hR hQ
  have hown : s.vm.findClass RX5 = some m.cls := hown
  have hl : lv_has ls 3 [(0, .ref mo), (1, .int (nI j))] := hl
  refine lv_iload_n hx hb dX5_restore_0 rfl (lv_at hl 1 rfl) ?_
  refine lv_i2l hx hb dX5_restore_1 rfl ?_
  refine lv_lconst (v := 0) hx hb dX5_restore_2 (by decide) ?_
  refine lv_lconst (v := 1) hx hb dX5_restore_3 (by decide) ?_
  refine kS_i (E := E) (As := [.long ((nI j).toInt64), .long ((0 : Int64)), .long ((1 : Int64))]) (rest := []) (wr := [(mo, .inr (5, [.ref mA, .ref mK, .ref mH, .int (nI 6), .ref mS, .ref mV, .ref mF, .ref mP, .int pl, .int sp, .int nu, .ref mR, .int rm])), (mA, aI E 92 Al), (mK, aI E 92 K), (mH, aI E 552 Hc), (mS, aI E 184 Sl), (mV, aI E 2 sv)]) ⟨hx, hb, hml, hown, hts⟩ (c_X5_in (l := l) (E := E) (sz := _) (v := (nI j).toInt64) (lo9 := (0 : Int64)) (hi9 := (1 : Int64)) ) (cwS 3 hts gX5_restore_X5_in rfl rfl rfl (by decide +kernel) ⟨by rw [hR]; decide, by rw [hR]; decide⟩) hK hN hP hD hS hA [] [0, 1, 2, 3, 4, 5] rfl (by decide) rfl (by decide) (by decide) rfl hl.1 rfl (Nat.le_of_ble_eq_true rfl) dX5_restore_4 ⟨Nat.zero_le _, Nat.zero_le _⟩ (fun H locs hP hD hS => ?_)
  have hP : va_P E.1 vwCl [(mo, .inr (5, [.ref mA, .ref mK, .ref mH, .int (nI 6), .ref mS, .ref mV, .ref mF, .ref mP, .int pl, .int sp, .int nu, .ref mR, .int rm])), (mA, aI E 92 Al), (mK, aI E 92 K), (mH, aI E 552 Hc), (mS, aI E 184 Sl), (mV, aI E 2 sv)] H := hP
  have hD : va_D A [(mo, .inr (5, [.ref mA, .ref mK, .ref mH, .int (nI 6), .ref mS, .ref mV, .ref mF, .ref mP, .int pl, .int sp, .int nu, .ref mR, .int rm])), (mA, aI E 92 Al), (mK, aI E 92 K), (mH, aI E 552 Hc), (mS, aI E 184 Sl), (mV, aI E 2 sv)] := hD
  refine rk_if_neB (tgt := 13) hx hb dX5_restore_7 (by decide) (fun zc7 => ?_) (fun q => absurd (q.symm.trans (inLn_t (a := 0) (b := 1) (by decide) (by omega) (by omega))) (by decide))
  refine lv_aload_n hx hb dX5_restore_13 rfl (lv_at hl 0 rfl) ?_
  refine rk_get (ci := 5) (C := RX5) (T := TX5) (N := 13) hx hb hts iw_X5_restore_5 hown hK hP 0 rfl rfl 5 (by decide) fl_X5_restore_22 rfl (v := .ref mV) rfl dX5_restore_14 ?_
  refine lv_iload_n hx hb dX5_restore_17 rfl (lv_at hl 1 rfl) ?_
  refine rk_iald hx hb hK hP 5 rfl (by omega) (by omega) (v := sv j) (rfl) dX5_restore_18 ?_
  refine lv_if_ne (tgt := 25) hx hb dX5_restore_19 (by decide) (fun zc19 => ?_) (fun q => absurd q (by rw [gsv]; decide))
  refine lv_aload_n hx hb dX5_restore_25 rfl (lv_at hl 0 rfl) ?_
  refine kV_v (E := E) (As := []) (rest := []) (wr := [(mH, aI E 552 Hc), (mS, aI E 184 Sl), (mV, aI E 2 sv)]) ⟨hx, hb, hml, hown, hts⟩ (c_X5_keep (l := l) (E := E) (sz := _) (mo := mo) (mA := mA) (mK := mK) (mH := mH) (mS := mS) (mV := mV) (mF := mF) (mP := mP) (mR := mR) (hy := nI 6) (pl := pl) (sp := sp) (nu := nu) (rm := rm) (Al := Al) (K := K) ) (cwV 0 hts gX5_restore_X5_keep rfl rfl rfl (by decide +kernel) ⟨by rw [hR]; decide, by rw [hR]; decide⟩) hK hN hP hD hS hA [0, 1, 2] [3, 4, 5] rfl (by decide) rfl (by decide) (by decide) 0 5 rfl rfl rfl hl.1 rfl (Nat.le_of_ble_eq_true rfl) dX5_restore_26 ⟨Nat.zero_le _, Nat.zero_le _⟩ (fun H locs hP hD hS => ?_)
  have hP : va_P E.1 vwCl [(mH, aI E 552 Hc), (mS, aI E 184 Sl), (mV, aI E 2 sv), (mo, .inr (5, [.ref mA, .ref mK, .ref mH, .int (nI 6), .ref mS, .ref mV, .ref mF, .ref mP, .int pl, .int sp, .int nu, .ref mR, .int rm])), (mA, aI E 92 Al), (mK, aI E 92 (lsf K Al 92))] H := hP
  have hD : va_D A [(mH, aI E 552 Hc), (mS, aI E 184 Sl), (mV, aI E 2 sv), (mo, .inr (5, [.ref mA, .ref mK, .ref mH, .int (nI 6), .ref mS, .ref mV, .ref mF, .ref mP, .int pl, .int sp, .int nu, .ref mR, .int rm])), (mA, aI E 92 Al), (mK, aI E 92 (lsf K Al 92))] := hD
  refine lv_iconst (v := nI 0) hx hb dX5_restore_29 (by decide) ?_
  refine lv_istore_n (lv' := [(2, .int (nI 0)), (0, .ref mo), (1, .int (nI j))]) hx hb dX5_restore_30 rfl hl (by decide) rfl (fun ls hl => ?_)
  have L31 : ∀ (fu : Nat) (i : Nat) (f : Nat → Int32), (ef : f = lsf Al (hsF Sl (92 * j)) i) → (gi : i ≤ 92) → 92 - i < fu → ∀ (H : Heap) (locs : List Loc), va_P E.1 vwCl [(mH, aI E 552 Hc), (mS, aI E 184 Sl), (mV, aI E 2 sv), (mo, .inr (5, [.ref mA, .ref mK, .ref mH, .int (nI 6), .ref mS, .ref mV, .ref mF, .ref mP, .int pl, .int sp, .int nu, .ref mR, .int rm])), (mA, aI E 92 f), (mK, aI E 92 (lsf K Al 92))] H → va_D A [(mH, aI E 552 Hc), (mS, aI E 184 Sl), (mV, aI E 2 sv), (mo, .inr (5, [.ref mA, .ref mK, .ref mH, .int (nI 6), .ref mS, .ref mV, .ref mF, .ref mP, .int pl, .int sp, .int nu, .ref mR, .int rm])), (mA, aI E 92 f), (mK, aI E 92 (lsf K Al 92))] → va_S A s.heap H locs → ∀ (ls : Array Slot), lv_has ls 3 [(2, .int (nI i)), (0, .ref mo), (1, .int (nI j))] → W p l e R s m args below meth c H locs 0 0 Q (F0 m 31 ls []) := by
    intro fu
    induction fu with
    | zero => intro i f ef gi hfu; exact absurd hfu (Nat.not_lt_zero _)
    | succ fu ih31 =>
      intro i f ef gi hfu H locs hP hD hS ls hl
      refine lv_iload_n hx hb dX5_restore_31 rfl (lv_at hl 0 rfl) ?_
      refine lv_bipush (v := nI 92) hx hb dX5_restore_32 (by decide) ?_
      refine rk_geN (tgt := 60) hx hb (by omega) (by omega) dX5_restore_34 (by decide) (fun zc34 => ?_) (fun zc34 => ?_)
      · obtain rfl : 92 = i := by omega
        subst ef
        refine lv_aload_n hx hb dX5_restore_60 rfl (lv_at hl 1 rfl) ?_
        refine lv_aload_n hx hb dX5_restore_61 rfl (lv_at hl 1 rfl) ?_
        refine rk_get (ci := 5) (C := RX5) (T := TX5) (N := 13) hx hb hts iw_X5_restore_5 hown hK hP 3 rfl rfl 0 (by decide) fl_X5_restore_7 rfl (v := .ref mA) rfl dX5_restore_62 ?_
        refine lv_iconst (v := nI 1) hx hb dX5_restore_65 (by decide) ?_
        refine rk_iald hx hb hK hP 4 rfl (by omega) (by omega) (v := nI k2) (by rw [lsf, if_pos (by decide)]; exact gS1) dX5_restore_66 ?_
        refine kV_i (E := E) (As := [.int (nI k2)]) (rest := []) (wr := [(mS, aI E 184 Sl), (mV, aI E 2 sv), (mA, aI E 92 ((lsf Al (hsF Sl (92 * j)) 92)))]) ⟨hx, hb, hml, hown, hts⟩ (c_X5_changed_ge (l := l) (E := E) (sz := _) (mo := mo) (mA := mA) (mK := mK) (mH := mH) (mS := mS) (mV := mV) (mF := mF) (mP := mP) (mR := mR) (pl := pl) (sp := sp) (nu := nu) (rm := rm) (r := nI k2) (Hc := Hc) (K := lsf K Al 92) ) (cwV 1 hts gX5_restore_X5_changed rfl rfl rfl (by decide +kernel) ⟨by rw [hR]; decide, by rw [hR]; decide⟩) hK hN hP hD hS hA [3, 0, 5] [1, 2, 4] rfl (by decide) rfl (by decide) (by decide) 3 5 rfl rfl rfl hl.1 rfl (Nat.le_of_ble_eq_true rfl) dX5_restore_67 ⟨Nat.zero_le _, Nat.zero_le _⟩ (fun H locs hP hD hS => ?_)
        have hP : va_P E.1 vwCl [(mS, aI E 184 Sl), (mV, aI E 2 sv), (mA, aI E 92 ((lsf Al (hsF Sl (92 * j)) 92))), (mo, .inr (5, [.ref mA, .ref mK, .ref mH, .int (nI 6), .ref mS, .ref mV, .ref mF, .ref mP, .int pl, .int sp, .int nu, .ref mR, .int rm])), (mH, aI E 552 (putH (lsf Hc (shH Hc) 460) (lsf K Al 92) (92 * 5) 92)), (mK, aI E 92 ((lsf K Al 92)))] H := hP
        have hD : va_D A [(mS, aI E 184 Sl), (mV, aI E 2 sv), (mA, aI E 92 ((lsf Al (hsF Sl (92 * j)) 92))), (mo, .inr (5, [.ref mA, .ref mK, .ref mH, .int (nI 6), .ref mS, .ref mV, .ref mF, .ref mP, .int pl, .int sp, .int nu, .ref mR, .int rm])), (mH, aI E 552 (putH (lsf Hc (shH Hc) 460) (lsf K Al 92) (92 * 5) 92)), (mK, aI E 92 ((lsf K Al 92)))] := hD
        exact ret_i hQ hx hb hr hlocks (hP.sub [3, 2, 5, 4, 0, 1] rfl) (hD.sub [3, 2, 5, 4, 0, 1] (by decide) rfl) hS dX5_restore_70 (rfl)
      · refine lv_aload_n hx hb dX5_restore_37 rfl (lv_at hl 1 rfl) ?_
        refine rk_get (ci := 5) (C := RX5) (T := TX5) (N := 13) hx hb hts iw_X5_restore_5 hown hK hP 3 rfl rfl 0 (by decide) fl_X5_restore_7 rfl (v := .ref mA) rfl dX5_restore_38 ?_
        refine lv_iload_n hx hb dX5_restore_41 rfl (lv_at hl 0 rfl) ?_
        refine lv_aload_n hx hb dX5_restore_42 rfl (lv_at hl 1 rfl) ?_
        refine rk_get (ci := 5) (C := RX5) (T := TX5) (N := 13) hx hb hts iw_X5_restore_5 hown hK hP 3 rfl rfl 4 (by decide) fl_X5_restore_19 rfl (v := .ref mS) rfl dX5_restore_43 ?_
        refine lv_bipush (v := nI 92) hx hb dX5_restore_46 (by decide) ?_
        refine lv_iload_n hx hb dX5_restore_48 rfl (lv_at hl 2 rfl) ?_
        refine rk_imulN hx hb dX5_restore_49 ?_
        refine lv_iload_n hx hb dX5_restore_50 rfl (lv_at hl 0 rfl) ?_
        refine rk_iaddN hx hb dX5_restore_51 ?_
        refine rk_iald hx hb hK hP 1 rfl (by omega) (by omega) (v := Sl ((92 * j) + i)) (rfl) dX5_restore_52 ?_
        refine rk_iast hx hb hK hP hD hS 4 rfl (by omega) (by omega) (ws' := [(mH, aI E 552 Hc), (mS, aI E 184 Sl), (mV, aI E 2 sv), (mo, .inr (5, [.ref mA, .ref mK, .ref mH, .int (nI 6), .ref mS, .ref mV, .ref mF, .ref mP, .int pl, .int sp, .int nu, .ref mR, .int rm])), (mA, aI E 92 (upd f i (Sl ((92 * j) + i)))), (mK, aI E 92 (lsf K Al 92))]) rfl dX5_restore_53 (fun H locs hP hD hS => ?_)
        refine lv_iinc (v := nI (i + 1)) (lv' := [(2, .int (nI (i + 1))), (0, .ref mo), (1, .int (nI j))]) hx hb dX5_restore_54 hl (k := 0) rfl (by rw [show Int32.ofInt 1 = nI 1 by decide]; exact nI_add _ _) (by decide) rfl (fun ls hl => ?_)
        refine lv_goto (tgt := 31) hx hb dX5_restore_57 (by decide) ?_
        exact ih31 (i + 1) (upd f i (Sl ((92 * j) + i))) (by rw [ef]; exact lsf_1 Al (hsF Sl (92 * j)) i) (by first | assumption | omega | rfl) (by omega) _ _ (hP.sub [0, 1, 2, 3, 4, 5] rfl) (hD.sub [0, 1, 2, 3, 4, 5] (by decide) rfl) hS ls (lv_sub hl [0, 1, 2] rfl)
  exact L31 ((92 - 0) + 1) 0 Al (by exact (lsf_0 _ _).symm) (by first | assumption | omega | rfl) (Nat.lt_succ_self _) _ _ (hP.sub [0, 1, 2, 3, 4, 5] rfl) (hD.sub [0, 1, 2, 3, 4, 5] (by decide) rfl) hS ls (lv_sub hl [0, 1, 2] rfl)
set_option maxHeartbeats 400000 in
set_option maxRecDepth 100000 in
theorem c_X5_read_okge (l : Launch) (E : EE) (sz : Nat) (mo mA mK mH mS mV mF mP mR : Nat) (sp0 nu0 rm0 : Int32) (n k : Nat) (Al : Nat → Int32) (Hc K : Nat → Int32) (L : Nat) (P f0 : Nat → Int32) (gA0 : Al 0 = nI n) (gn : n ≤ 16) (gA1 : Al 1 = nI k) (gk : k ≤ 30) (gok : okA Al k) (gL : L ≤ 80) (gF : (fgM P L (L + 1) 0 nu0 0 f0).1 = -6) (g3 : 3 * (fgM P L (L + 1) 0 nu0 0 f0).2.2.2.1 ≤ 58) (ge1 : anyB (eP1 ((fgM P L (L + 1) 0 nu0 0 f0).2.2.2.2) (nI n)) (fgM P L (L + 1) 0 nu0 0 f0).2.2.2.1 = false) (ge2 : anyB (eP2 ((fgM P L (L + 1) 0 nu0 0 f0).2.2.2.2)) (fgM P L (L + 1) 0 nu0 0 f0).2.2.2.1 = false) (gkr : k + (fgM P L (L + 1) 0 nu0 0 f0).2.2.2.1 ≤ 30) : Ci l yX5_read wsX5_read 5 112 E [.ref mo] [(mo, .inr (5, [.ref mA, .ref mK, .ref mH, .int (nI 6), .ref mS, .ref mV, .ref mF, .ref mP, .int (nI L), .int sp0, .int nu0, .ref mR, .int rm0])), (mA, aI E 92 Al), (mK, aI E 92 K), (mH, aI E 552 Hc), (mP, aI E 80 P), (mR, aI E 60 f0)] sz (nI (k + (fgM P L (L + 1) 0 nu0 0 f0).2.2.2.1)) [(mo, .inr (5, [.ref mA, .ref mK, .ref mH, .int (nI 6), .ref mS, .ref mV, .ref mF, .ref mP, .int (nI 0), .int (nI ((fgM P L (L + 1) 0 nu0 0 f0).2.1)), .int ((fgM P L (L + 1) 0 nu0 0 f0).2.2.1), .ref mR, .int (nI ((fgM P L (L + 1) 0 nu0 0 f0).2.2.2.1))])), (mA, aI E 92 (adM Al k ((fgM P L (L + 1) 0 nu0 0 f0).2.2.2.2) (fgM P L (L + 1) 0 nu0 0 f0).2.2.2.1)), (mK, aI E 92 (lsf K Al 92)), (mH, aI E 552 (putH (lsf Hc (shH Hc) 460) (lsf K Al 92) (92 * 5) 92)), (mP, aI E 80 P), (mR, aI E 60 ((fgM P L (L + 1) 0 nu0 0 f0).2.2.2.2))] := by
  refine C_of (QQ := QI E (nI (k + (fgM P L (L + 1) 0 nu0 0 f0).2.2.2.1)) [(mo, .inr (5, [.ref mA, .ref mK, .ref mH, .int (nI 6), .ref mS, .ref mV, .ref mF, .ref mP, .int (nI 0), .int (nI ((fgM P L (L + 1) 0 nu0 0 f0).2.1)), .int ((fgM P L (L + 1) 0 nu0 0 f0).2.2.1), .ref mR, .int (nI ((fgM P L (L + 1) 0 nu0 0 f0).2.2.2.1))])), (mA, aI E 92 (adM Al k ((fgM P L (L + 1) 0 nu0 0 f0).2.2.2.2) (fgM P L (L + 1) 0 nu0 0 f0).2.2.2.1)), (mK, aI E 92 (lsf K Al 92)), (mH, aI E 552 (putH (lsf Hc (shH Hc) 460) (lsf K Al 92) (92 * 5) 92)), (mP, aI E 80 P), (mR, aI E 60 ((fgM P L (L + 1) 0 nu0 0 f0).2.2.2.2))]) (cc := cX5_read) (maxL := 2) (ret := (some .int)) (by decide +kernel) rfl (Nat.le_of_ble_eq_true rfl) ?_
  intro p e s m args below meth c A R Q ls hx hb hr hts hown hml hlocks hA hK hN hP hD hS hl hR hQ
  have hown : s.vm.findClass RX5 = some m.cls := hown
  have hl : lv_has ls 2 [(0, .ref mo)] := hl
  refine lv_aload_n hx hb dX5_read_0 rfl (lv_at hl 0 rfl) ?_
  refine kV_i (E := E) (As := []) (rest := []) (wr := [(mA, aI E 92 Al), (mK, aI E 92 K), (mH, aI E 552 Hc)]) ⟨hx, hb, hml, hown, hts⟩ (c_X5_fault (l := l) (E := E) (sz := _) (mo := mo) (mA := mA) (mK := mK) (mH := mH) (mS := mS) (mV := mV) (mF := mF) (mP := mP) (mR := mR) (hy := nI 6) (sp0 := sp0) (nu0 := nu0) (rm0 := rm0) (L := L) (P := P) (f0 := f0) (gL := by first | assumption | omega)) (cwV 0 hts gX5_read_X5_fault rfl rfl rfl (by decide +kernel) ⟨by rw [hR]; decide, by rw [hR]; decide⟩) hK hN hP hD hS hA [0, 4, 5] [1, 2, 3] rfl (by decide) rfl (by decide) (by decide) 0 5 rfl rfl rfl hl.1 rfl (Nat.le_of_ble_eq_true rfl) dX5_read_1 ⟨Nat.zero_le _, Nat.zero_le _⟩ (fun H locs hP hD hS => ?_)
  have hP : va_P E.1 vwCl [(mA, aI E 92 Al), (mK, aI E 92 K), (mH, aI E 552 Hc), (mo, .inr (5, [.ref mA, .ref mK, .ref mH, .int (nI 6), .ref mS, .ref mV, .ref mF, .ref mP, .int (nI L), .int (nI ((fgM P L (L + 1) 0 nu0 0 f0).2.1)), .int ((fgM P L (L + 1) 0 nu0 0 f0).2.2.1), .ref mR, .int (nI ((fgM P L (L + 1) 0 nu0 0 f0).2.2.2.1))])), (mP, aI E 80 P), (mR, aI E 60 ((fgM P L (L + 1) 0 nu0 0 f0).2.2.2.2))] H := hP
  have hD : va_D A [(mA, aI E 92 Al), (mK, aI E 92 K), (mH, aI E 552 Hc), (mo, .inr (5, [.ref mA, .ref mK, .ref mH, .int (nI 6), .ref mS, .ref mV, .ref mF, .ref mP, .int (nI L), .int (nI ((fgM P L (L + 1) 0 nu0 0 f0).2.1)), .int ((fgM P L (L + 1) 0 nu0 0 f0).2.2.1), .ref mR, .int (nI ((fgM P L (L + 1) 0 nu0 0 f0).2.2.2.1))])), (mP, aI E 80 P), (mR, aI E 60 ((fgM P L (L + 1) 0 nu0 0 f0).2.2.2.2))] := hD
  refine lv_bipush (v := (-6)) hx hb dX5_read_4 (by decide) ?_
  refine lv_icmp_eq (tgt := 12) hx hb dX5_read_6 (by decide) (fun zc6 => ?_) (fun q => absurd gF q)
  refine lv_aload_n hx hb dX5_read_12 rfl (lv_at hl 0 rfl) ?_
  refine kV_i (E := E) (As := []) (rest := []) (wr := [(mK, aI E 92 K), (mH, aI E 552 Hc), (mP, aI E 80 P)]) ⟨hx, hb, hml, hown, hts⟩ (c_X5_haveAllSquares (l := l) (E := E) (sz := _) (mo := mo) (mA := mA) (mK := mK) (mH := mH) (mS := mS) (mV := mV) (mF := mF) (mP := mP) (mR := mR) (hy := nI 6) (pl := nI L) (sp := nI ((fgM P L (L + 1) 0 nu0 0 f0).2.1)) (nu := (fgM P L (L + 1) 0 nu0 0 f0).2.2.1) (n := n) (rm := (fgM P L (L + 1) 0 nu0 0 f0).2.2.2.1) (f := (fgM P L (L + 1) 0 nu0 0 f0).2.2.2.2) (Al := Al) (gA0 := by first | assumption | omega) (gn := by first | assumption | omega) (gr := by first | assumption | omega)) (cwV 0 hts gX5_read_X5_haveAllSquares rfl rfl rfl (by decide +kernel) ⟨by rw [hR]; decide, by rw [hR]; decide⟩) hK hN hP hD hS hA [3, 0, 5] [1, 2, 4] rfl (by decide) rfl (by decide) (by decide) 3 5 rfl rfl rfl hl.1 rfl (Nat.le_of_ble_eq_true rfl) dX5_read_13 ⟨Nat.zero_le _, Nat.zero_le _⟩ (fun H locs hP hD hS => ?_)
  have hP : va_P E.1 vwCl [(mK, aI E 92 K), (mH, aI E 552 Hc), (mP, aI E 80 P), (mo, .inr (5, [.ref mA, .ref mK, .ref mH, .int (nI 6), .ref mS, .ref mV, .ref mF, .ref mP, .int (nI L), .int (nI ((fgM P L (L + 1) 0 nu0 0 f0).2.1)), .int ((fgM P L (L + 1) 0 nu0 0 f0).2.2.1), .ref mR, .int (nI ((fgM P L (L + 1) 0 nu0 0 f0).2.2.2.1))])), (mA, aI E 92 Al), (mR, aI E 60 (((fgM P L (L + 1) 0 nu0 0 f0).2.2.2.2)))] H := hP
  have hD : va_D A [(mK, aI E 92 K), (mH, aI E 552 Hc), (mP, aI E 80 P), (mo, .inr (5, [.ref mA, .ref mK, .ref mH, .int (nI 6), .ref mS, .ref mV, .ref mF, .ref mP, .int (nI L), .int (nI ((fgM P L (L + 1) 0 nu0 0 f0).2.1)), .int ((fgM P L (L + 1) 0 nu0 0 f0).2.2.1), .ref mR, .int (nI ((fgM P L (L + 1) 0 nu0 0 f0).2.2.2.1))])), (mA, aI E 92 Al), (mR, aI E 60 (((fgM P L (L + 1) 0 nu0 0 f0).2.2.2.2)))] := hD
  refine rk_if_neB (tgt := 21) hx hb dX5_read_16 (by decide) (fun zc16 => ?_) (fun q => absurd q (by rw [ge1]; decide))
  refine lv_aload_n hx hb dX5_read_21 rfl (lv_at hl 0 rfl) ?_
  refine kV_i (E := E) (As := []) (rest := []) (wr := [(mK, aI E 92 K), (mH, aI E 552 Hc), (mP, aI E 80 P), (mA, aI E 92 Al)]) ⟨hx, hb, hml, hown, hts⟩ (c_X5_areDifferent (l := l) (E := E) (sz := _) (mo := mo) (mA := mA) (mK := mK) (mH := mH) (mS := mS) (mV := mV) (mF := mF) (mP := mP) (mR := mR) (hy := nI 6) (pl := nI L) (sp := nI ((fgM P L (L + 1) 0 nu0 0 f0).2.1)) (nu := (fgM P L (L + 1) 0 nu0 0 f0).2.2.1) (n := n) (rm := ((fgM P L (L + 1) 0 nu0 0 f0).2.2.2.1)) (f := ((fgM P L (L + 1) 0 nu0 0 f0).2.2.2.2)) (Al := Al) (gr := by first | assumption | omega)) (cwV 0 hts gX5_read_X5_areDifferent rfl rfl rfl (by decide +kernel) ⟨by rw [hR]; decide, by rw [hR]; decide⟩) hK hN hP hD hS hA [3, 5] [0, 1, 2, 4] rfl (by decide) rfl (by decide) (by decide) 3 5 rfl rfl rfl hl.1 rfl (Nat.le_of_ble_eq_true rfl) dX5_read_22 ⟨Nat.zero_le _, Nat.zero_le _⟩ (fun H locs hP hD hS => ?_)
  have hP : va_P E.1 vwCl [(mK, aI E 92 K), (mH, aI E 552 Hc), (mP, aI E 80 P), (mA, aI E 92 Al), (mo, .inr (5, [.ref mA, .ref mK, .ref mH, .int (nI 6), .ref mS, .ref mV, .ref mF, .ref mP, .int (nI L), .int (nI ((fgM P L (L + 1) 0 nu0 0 f0).2.1)), .int ((fgM P L (L + 1) 0 nu0 0 f0).2.2.1), .ref mR, .int (nI (((fgM P L (L + 1) 0 nu0 0 f0).2.2.2.1)))])), (mR, aI E 60 ((((fgM P L (L + 1) 0 nu0 0 f0).2.2.2.2))))] H := hP
  have hD : va_D A [(mK, aI E 92 K), (mH, aI E 552 Hc), (mP, aI E 80 P), (mA, aI E 92 Al), (mo, .inr (5, [.ref mA, .ref mK, .ref mH, .int (nI 6), .ref mS, .ref mV, .ref mF, .ref mP, .int (nI L), .int (nI ((fgM P L (L + 1) 0 nu0 0 f0).2.1)), .int ((fgM P L (L + 1) 0 nu0 0 f0).2.2.1), .ref mR, .int (nI (((fgM P L (L + 1) 0 nu0 0 f0).2.2.2.1)))])), (mR, aI E 60 ((((fgM P L (L + 1) 0 nu0 0 f0).2.2.2.2))))] := hD
  refine rk_if_neB (tgt := 31) hx hb dX5_read_25 (by decide) (fun zc25 => ?_) (fun q => absurd q (by rw [ge2]; decide))
  refine lv_aload_n hx hb dX5_read_31 rfl (lv_at hl 0 rfl) ?_
  refine rk_get (ci := 5) (C := RX5) (T := TX5) (N := 13) hx hb hts iw_X5_read_5 hown hK hP 4 rfl rfl 0 (by decide) fl_X5_read_7 rfl (v := .ref mA) rfl dX5_read_32 ?_
  refine lv_iconst (v := nI 1) hx hb dX5_read_35 (by decide) ?_
  refine rk_iald hx hb hK hP 3 rfl (by omega) (by omega) (v := nI k) (by exact gA1) dX5_read_36 ?_
  refine lv_aload_n hx hb dX5_read_37 rfl (lv_at hl 0 rfl) ?_
  refine rk_get (ci := 5) (C := RX5) (T := TX5) (N := 13) hx hb hts iw_X5_read_5 hown hK hP 4 rfl rfl 12 (by decide) fl_X5_read_172 rfl (v := .int (nI (((fgM P L (L + 1) 0 nu0 0 f0).2.2.2.1)))) rfl dX5_read_38 ?_
  refine rk_iaddN hx hb dX5_read_41 ?_
  refine lv_bipush (v := nI 30) hx hb dX5_read_42 (by decide) ?_
  refine rk_leN (tgt := 50) hx hb (by omega) (by omega) dX5_read_44 (by decide) (fun zc44 => ?_) (fun q => absurd q (by omega))
  refine lv_aload_n hx hb dX5_read_50 rfl (lv_at hl 0 rfl) ?_
  refine kV_v (E := E) (As := []) (rest := []) (wr := [(mH, aI E 552 Hc), (mP, aI E 80 P), (mR, aI E 60 ((((fgM P L (L + 1) 0 nu0 0 f0).2.2.2.2))))]) ⟨hx, hb, hml, hown, hts⟩ (c_X5_keep (l := l) (E := E) (sz := _) (mo := mo) (mA := mA) (mK := mK) (mH := mH) (mS := mS) (mV := mV) (mF := mF) (mP := mP) (mR := mR) (hy := nI 6) (pl := nI L) (sp := nI ((fgM P L (L + 1) 0 nu0 0 f0).2.1)) (nu := (fgM P L (L + 1) 0 nu0 0 f0).2.2.1) (rm := nI (((fgM P L (L + 1) 0 nu0 0 f0).2.2.2.1))) (Al := Al) (K := K) ) (cwV 0 hts gX5_read_X5_keep rfl rfl rfl (by decide +kernel) ⟨by rw [hR]; decide, by rw [hR]; decide⟩) hK hN hP hD hS hA [4, 3, 0] [1, 2, 5] rfl (by decide) rfl (by decide) (by decide) 4 5 rfl rfl rfl hl.1 rfl (Nat.le_of_ble_eq_true rfl) dX5_read_51 ⟨Nat.zero_le _, Nat.zero_le _⟩ (fun H locs hP hD hS => ?_)
  have hP : va_P E.1 vwCl [(mH, aI E 552 Hc), (mP, aI E 80 P), (mR, aI E 60 ((((fgM P L (L + 1) 0 nu0 0 f0).2.2.2.2)))), (mo, .inr (5, [.ref mA, .ref mK, .ref mH, .int (nI 6), .ref mS, .ref mV, .ref mF, .ref mP, .int (nI L), .int (nI ((fgM P L (L + 1) 0 nu0 0 f0).2.1)), .int ((fgM P L (L + 1) 0 nu0 0 f0).2.2.1), .ref mR, .int (nI (((fgM P L (L + 1) 0 nu0 0 f0).2.2.2.1)))])), (mA, aI E 92 Al), (mK, aI E 92 (lsf K Al 92))] H := hP
  have hD : va_D A [(mH, aI E 552 Hc), (mP, aI E 80 P), (mR, aI E 60 ((((fgM P L (L + 1) 0 nu0 0 f0).2.2.2.2)))), (mo, .inr (5, [.ref mA, .ref mK, .ref mH, .int (nI 6), .ref mS, .ref mV, .ref mF, .ref mP, .int (nI L), .int (nI ((fgM P L (L + 1) 0 nu0 0 f0).2.1)), .int ((fgM P L (L + 1) 0 nu0 0 f0).2.2.1), .ref mR, .int (nI (((fgM P L (L + 1) 0 nu0 0 f0).2.2.2.1)))])), (mA, aI E 92 Al), (mK, aI E 92 (lsf K Al 92))] := hD
  refine lv_iconst (v := nI 0) hx hb dX5_read_54 (by decide) ?_
  refine lv_istore_n (lv' := [(1, .int (nI 0)), (0, .ref mo)]) hx hb dX5_read_55 rfl hl (by decide) rfl (fun ls hl => ?_)
  have L56 : ∀ (fu : Nat) (i : Nat) (f9 : Nat → Int32), (ef : f9 = adM Al k ((fgM P L (L + 1) 0 nu0 0 f0).2.2.2.2) i) → (gi : i ≤ (fgM P L (L + 1) 0 nu0 0 f0).2.2.2.1) → (fgM P L (L + 1) 0 nu0 0 f0).2.2.2.1 - i < fu → ∀ (H : Heap) (locs : List Loc), va_P E.1 vwCl [(mH, aI E 552 Hc), (mP, aI E 80 P), (mR, aI E 60 ((((fgM P L (L + 1) 0 nu0 0 f0).2.2.2.2)))), (mo, .inr (5, [.ref mA, .ref mK, .ref mH, .int (nI 6), .ref mS, .ref mV, .ref mF, .ref mP, .int (nI L), .int (nI ((fgM P L (L + 1) 0 nu0 0 f0).2.1)), .int ((fgM P L (L + 1) 0 nu0 0 f0).2.2.1), .ref mR, .int (nI (((fgM P L (L + 1) 0 nu0 0 f0).2.2.2.1)))])), (mA, aI E 92 f9), (mK, aI E 92 (lsf K Al 92))] H → va_D A [(mH, aI E 552 Hc), (mP, aI E 80 P), (mR, aI E 60 ((((fgM P L (L + 1) 0 nu0 0 f0).2.2.2.2)))), (mo, .inr (5, [.ref mA, .ref mK, .ref mH, .int (nI 6), .ref mS, .ref mV, .ref mF, .ref mP, .int (nI L), .int (nI ((fgM P L (L + 1) 0 nu0 0 f0).2.1)), .int ((fgM P L (L + 1) 0 nu0 0 f0).2.2.1), .ref mR, .int (nI (((fgM P L (L + 1) 0 nu0 0 f0).2.2.2.1)))])), (mA, aI E 92 f9), (mK, aI E 92 (lsf K Al 92))] → va_S A s.heap H locs → ∀ (ls : Array Slot), lv_has ls 2 [(1, .int (nI i)), (0, .ref mo)] → W p l e R s m args below meth c H locs 0 0 Q (F0 m 56 ls []) := by
    intro fu
    induction fu with
    | zero => intro i f9 ef gi hfu; exact absurd hfu (Nat.not_lt_zero _)
    | succ fu ih56 =>
      intro i f9 ef gi hfu H locs hP hD hS ls hl
      refine lv_iload_n hx hb dX5_read_56 rfl (lv_at hl 0 rfl) ?_
      refine lv_aload_n hx hb dX5_read_57 rfl (lv_at hl 1 rfl) ?_
      refine rk_get (ci := 5) (C := RX5) (T := TX5) (N := 13) hx hb hts iw_X5_read_5 hown hK hP 3 rfl rfl 12 (by decide) fl_X5_read_172 rfl (v := .int (nI (((fgM P L (L + 1) 0 nu0 0 f0).2.2.2.1)))) rfl dX5_read_58 ?_
      refine rk_geN (tgt := 102) hx hb (by omega) (by omega) dX5_read_61 (by decide) (fun zc61 => ?_) (fun zc61 => ?_)
      · have ei9 : i = (fgM P L (L + 1) 0 nu0 0 f0).2.2.2.1 := by omega
        subst ei9
        subst ef
        refine lv_aload_n hx hb dX5_read_102 rfl (lv_at hl 1 rfl) ?_
        refine lv_iconst (v := nI 0) hx hb dX5_read_103 (by decide) ?_
        refine rk_put (ci := 5) (C := RX5) (T := TX5) (N := 13) hx hb hts iw_X5_read_5 tyX5 tyX5_ok nmX5 hown hK hP hD hS 3 rfl rfl 8 (by decide) fl_X5_read_141 rfl rfl (tyX5_ok 8 (by decide)) rfl rfl (Nat.le_of_ble_eq_true rfl) (ws' := [(mH, aI E 552 Hc), (mP, aI E 80 P), (mR, aI E 60 ((((fgM P L (L + 1) 0 nu0 0 f0).2.2.2.2)))), (mo, .inr (5, [.ref mA, .ref mK, .ref mH, .int (nI 6), .ref mS, .ref mV, .ref mF, .ref mP, .int (nI 0), .int (nI ((fgM P L (L + 1) 0 nu0 0 f0).2.1)), .int ((fgM P L (L + 1) 0 nu0 0 f0).2.2.1), .ref mR, .int (nI (((fgM P L (L + 1) 0 nu0 0 f0).2.2.2.1)))])), (mA, aI E 92 ((adM Al k ((fgM P L (L + 1) 0 nu0 0 f0).2.2.2.2) (fgM P L (L + 1) 0 nu0 0 f0).2.2.2.1))), (mK, aI E 92 (lsf K Al 92))]) rfl dX5_read_104 (fun H locs hP hD hS => ?_)
        refine lv_aload_n hx hb dX5_read_107 rfl (lv_at hl 1 rfl) ?_
        refine lv_aload_n hx hb dX5_read_108 rfl (lv_at hl 1 rfl) ?_
        refine rk_get (ci := 5) (C := RX5) (T := TX5) (N := 13) hx hb hts iw_X5_read_5 hown hK hP 3 rfl rfl 0 (by decide) fl_X5_read_7 rfl (v := .ref mA) rfl dX5_read_109 ?_
        refine lv_iconst (v := nI 1) hx hb dX5_read_112 (by decide) ?_
        refine rk_iald hx hb hK hP 4 rfl (by omega) (by omega) (v := nI (k + (fgM P L (L + 1) 0 nu0 0 f0).2.2.2.1)) (adM_1 gA1 ((fgM P L (L + 1) 0 nu0 0 f0).2.2.2.1)) dX5_read_113 ?_
        refine kV_i (E := E) (As := [.int (nI (k + (fgM P L (L + 1) 0 nu0 0 f0).2.2.2.1))]) (rest := []) (wr := [(mP, aI E 80 P), (mR, aI E 60 ((((fgM P L (L + 1) 0 nu0 0 f0).2.2.2.2)))), (mA, aI E 92 ((adM Al k ((fgM P L (L + 1) 0 nu0 0 f0).2.2.2.2) (fgM P L (L + 1) 0 nu0 0 f0).2.2.2.1)))]) ⟨hx, hb, hml, hown, hts⟩ (c_X5_changed_ge (l := l) (E := E) (sz := _) (mo := mo) (mA := mA) (mK := mK) (mH := mH) (mS := mS) (mV := mV) (mF := mF) (mP := mP) (mR := mR) (pl := nI 0) (sp := nI ((fgM P L (L + 1) 0 nu0 0 f0).2.1)) (nu := (fgM P L (L + 1) 0 nu0 0 f0).2.2.1) (rm := nI (((fgM P L (L + 1) 0 nu0 0 f0).2.2.2.1))) (r := nI (k + (fgM P L (L + 1) 0 nu0 0 f0).2.2.2.1)) (Hc := Hc) (K := lsf K Al 92) ) (cwV 1 hts gX5_read_X5_changed rfl rfl rfl (by decide +kernel) ⟨by rw [hR]; decide, by rw [hR]; decide⟩) hK hN hP hD hS hA [3, 0, 5] [1, 2, 4] rfl (by decide) rfl (by decide) (by decide) 3 5 rfl rfl rfl hl.1 rfl (Nat.le_of_ble_eq_true rfl) dX5_read_114 ⟨Nat.zero_le _, Nat.zero_le _⟩ (fun H locs hP hD hS => ?_)
        have hP : va_P E.1 vwCl [(mP, aI E 80 P), (mR, aI E 60 ((((fgM P L (L + 1) 0 nu0 0 f0).2.2.2.2)))), (mA, aI E 92 ((adM Al k ((fgM P L (L + 1) 0 nu0 0 f0).2.2.2.2) (fgM P L (L + 1) 0 nu0 0 f0).2.2.2.1))), (mo, .inr (5, [.ref mA, .ref mK, .ref mH, .int (nI 6), .ref mS, .ref mV, .ref mF, .ref mP, .int (nI 0), .int (nI ((fgM P L (L + 1) 0 nu0 0 f0).2.1)), .int ((fgM P L (L + 1) 0 nu0 0 f0).2.2.1), .ref mR, .int (nI (((fgM P L (L + 1) 0 nu0 0 f0).2.2.2.1)))])), (mH, aI E 552 (putH (lsf Hc (shH Hc) 460) (lsf K Al 92) (92 * 5) 92)), (mK, aI E 92 ((lsf K Al 92)))] H := hP
        have hD : va_D A [(mP, aI E 80 P), (mR, aI E 60 ((((fgM P L (L + 1) 0 nu0 0 f0).2.2.2.2)))), (mA, aI E 92 ((adM Al k ((fgM P L (L + 1) 0 nu0 0 f0).2.2.2.2) (fgM P L (L + 1) 0 nu0 0 f0).2.2.2.1))), (mo, .inr (5, [.ref mA, .ref mK, .ref mH, .int (nI 6), .ref mS, .ref mV, .ref mF, .ref mP, .int (nI 0), .int (nI ((fgM P L (L + 1) 0 nu0 0 f0).2.1)), .int ((fgM P L (L + 1) 0 nu0 0 f0).2.2.1), .ref mR, .int (nI (((fgM P L (L + 1) 0 nu0 0 f0).2.2.2.1)))])), (mH, aI E 552 (putH (lsf Hc (shH Hc) 460) (lsf K Al 92) (92 * 5) 92)), (mK, aI E 92 ((lsf K Al 92)))] := hD
        exact ret_i hQ hx hb hr hlocks (hP.sub [3, 2, 5, 4, 0, 1] rfl) (hD.sub [3, 2, 5, 4, 0, 1] (by decide) rfl) hS dX5_read_117 (rfl)
      · refine lv_aload_n hx hb dX5_read_64 rfl (lv_at hl 1 rfl) ?_
        refine lv_aload_n hx hb dX5_read_65 rfl (lv_at hl 1 rfl) ?_
        refine rk_get (ci := 5) (C := RX5) (T := TX5) (N := 13) hx hb hts iw_X5_read_5 hown hK hP 3 rfl rfl 11 (by decide) fl_X5_read_31 rfl (v := .ref mR) rfl dX5_read_66 ?_
        refine lv_iconst (v := nI 3) hx hb dX5_read_69 (by decide) ?_
        refine lv_iload_n hx hb dX5_read_70 rfl (lv_at hl 0 rfl) ?_
        refine rk_imulN hx hb dX5_read_71 ?_
        refine rk_iald hx hb hK hP 2 rfl (by omega) (by omega) (v := ((((fgM P L (L + 1) 0 nu0 0 f0).2.2.2.2))) (3 * i)) (rfl) dX5_read_72 ?_
        refine lv_aload_n hx hb dX5_read_73 rfl (lv_at hl 1 rfl) ?_
        refine rk_get (ci := 5) (C := RX5) (T := TX5) (N := 13) hx hb hts iw_X5_read_5 hown hK hP 3 rfl rfl 11 (by decide) fl_X5_read_31 rfl (v := .ref mR) rfl dX5_read_74 ?_
        refine lv_iconst (v := nI 3) hx hb dX5_read_77 (by decide) ?_
        refine lv_iload_n hx hb dX5_read_78 rfl (lv_at hl 0 rfl) ?_
        refine rk_imulN hx hb dX5_read_79 ?_
        refine lv_iconst (v := nI 1) hx hb dX5_read_80 (by decide) ?_
        refine rk_iaddN hx hb dX5_read_81 ?_
        refine rk_iald hx hb hK hP 2 rfl (by omega) (by omega) (v := ((((fgM P L (L + 1) 0 nu0 0 f0).2.2.2.2))) ((3 * i) + 1)) (rfl) dX5_read_82 ?_
        refine lv_aload_n hx hb dX5_read_83 rfl (lv_at hl 1 rfl) ?_
        refine rk_get (ci := 5) (C := RX5) (T := TX5) (N := 13) hx hb hts iw_X5_read_5 hown hK hP 3 rfl rfl 11 (by decide) fl_X5_read_31 rfl (v := .ref mR) rfl dX5_read_84 ?_
        refine lv_iconst (v := nI 3) hx hb dX5_read_87 (by decide) ?_
        refine lv_iload_n hx hb dX5_read_88 rfl (lv_at hl 0 rfl) ?_
        refine rk_imulN hx hb dX5_read_89 ?_
        refine lv_iconst (v := nI 2) hx hb dX5_read_90 (by decide) ?_
        refine rk_iaddN hx hb dX5_read_91 ?_
        refine rk_iald hx hb hK hP 2 rfl (by omega) (by omega) (v := ((((fgM P L (L + 1) 0 nu0 0 f0).2.2.2.2))) ((3 * i) + 2)) (rfl) dX5_read_92 ?_
        refine kV_v (E := E) (As := [.int (((((fgM P L (L + 1) 0 nu0 0 f0).2.2.2.2))) (3 * i)), .int (((((fgM P L (L + 1) 0 nu0 0 f0).2.2.2.2))) ((3 * i) + 1)), .int (((((fgM P L (L + 1) 0 nu0 0 f0).2.2.2.2))) ((3 * i) + 2))]) (rest := []) (wr := [(mH, aI E 552 Hc), (mP, aI E 80 P), (mR, aI E 60 ((((fgM P L (L + 1) 0 nu0 0 f0).2.2.2.2)))), (mK, aI E 92 (lsf K Al 92))]) ⟨hx, hb, hml, hown, hts⟩ (c_X5_adds (l := l) (E := E) (sz := _) (mo := mo) (mA := mA) (mK := mK) (mH := mH) (mS := mS) (mV := mV) (mF := mF) (mP := mP) (mR := mR) (hy := nI 6) (pl := nI L) (sp := nI ((fgM P L (L + 1) 0 nu0 0 f0).2.1)) (nu := (fgM P L (L + 1) 0 nu0 0 f0).2.2.1) (rm := nI (((fgM P L (L + 1) 0 nu0 0 f0).2.2.2.1))) (k := k + i) (Al := f9) (x := ((((fgM P L (L + 1) 0 nu0 0 f0).2.2.2.2))) (3 * i)) (y := ((((fgM P L (L + 1) 0 nu0 0 f0).2.2.2.2))) ((3 * i) + 1)) (z9 := ((((fgM P L (L + 1) 0 nu0 0 f0).2.2.2.2))) ((3 * i) + 2)) (gA1 := by rw [ef]; exact adM_1 gA1 i) (gk2 := by omega)) (cwV 3 hts gX5_read_X5_adds rfl rfl rfl (by decide +kernel) ⟨by rw [hR]; decide, by rw [hR]; decide⟩) hK hN hP hD hS hA [3, 4] [0, 1, 2, 5] rfl (by decide) rfl (by decide) (by decide) 3 5 rfl rfl rfl hl.1 rfl (Nat.le_of_ble_eq_true rfl) dX5_read_93 ⟨Nat.zero_le _, Nat.zero_le _⟩ (fun H locs hP hD hS => ?_)
        have hP : va_P E.1 vwCl [(mH, aI E 552 Hc), (mP, aI E 80 P), (mR, aI E 60 ((((fgM P L (L + 1) 0 nu0 0 f0).2.2.2.2)))), (mK, aI E 92 (lsf K Al 92)), (mo, .inr (5, [.ref mA, .ref mK, .ref mH, .int (nI 6), .ref mS, .ref mV, .ref mF, .ref mP, .int (nI L), .int (nI ((fgM P L (L + 1) 0 nu0 0 f0).2.1)), .int ((fgM P L (L + 1) 0 nu0 0 f0).2.2.1), .ref mR, .int (nI (((fgM P L (L + 1) 0 nu0 0 f0).2.2.2.1)))])), (mA, aI E 92 (upd (upd (upd (upd f9 (2 + (k + i)) (if (((((fgM P L (L + 1) 0 nu0 0 f0).2.2.2.2))) ((3 * i) + 1)) ≤ (((((fgM P L (L + 1) 0 nu0 0 f0).2.2.2.2))) (3 * i)) then (((((fgM P L (L + 1) 0 nu0 0 f0).2.2.2.2))) ((3 * i) + 1)) else (((((fgM P L (L + 1) 0 nu0 0 f0).2.2.2.2))) (3 * i)))) (32 + (k + i)) (if (((((fgM P L (L + 1) 0 nu0 0 f0).2.2.2.2))) ((3 * i) + 1)) ≤ (((((fgM P L (L + 1) 0 nu0 0 f0).2.2.2.2))) (3 * i)) then (((((fgM P L (L + 1) 0 nu0 0 f0).2.2.2.2))) (3 * i)) else (((((fgM P L (L + 1) 0 nu0 0 f0).2.2.2.2))) ((3 * i) + 1)))) (62 + (k + i)) (((((fgM P L (L + 1) 0 nu0 0 f0).2.2.2.2))) ((3 * i) + 2))) 1 (nI ((k + i) + 1))))] H := hP
        have hD : va_D A [(mH, aI E 552 Hc), (mP, aI E 80 P), (mR, aI E 60 ((((fgM P L (L + 1) 0 nu0 0 f0).2.2.2.2)))), (mK, aI E 92 (lsf K Al 92)), (mo, .inr (5, [.ref mA, .ref mK, .ref mH, .int (nI 6), .ref mS, .ref mV, .ref mF, .ref mP, .int (nI L), .int (nI ((fgM P L (L + 1) 0 nu0 0 f0).2.1)), .int ((fgM P L (L + 1) 0 nu0 0 f0).2.2.1), .ref mR, .int (nI (((fgM P L (L + 1) 0 nu0 0 f0).2.2.2.1)))])), (mA, aI E 92 (upd (upd (upd (upd f9 (2 + (k + i)) (if (((((fgM P L (L + 1) 0 nu0 0 f0).2.2.2.2))) ((3 * i) + 1)) ≤ (((((fgM P L (L + 1) 0 nu0 0 f0).2.2.2.2))) (3 * i)) then (((((fgM P L (L + 1) 0 nu0 0 f0).2.2.2.2))) ((3 * i) + 1)) else (((((fgM P L (L + 1) 0 nu0 0 f0).2.2.2.2))) (3 * i)))) (32 + (k + i)) (if (((((fgM P L (L + 1) 0 nu0 0 f0).2.2.2.2))) ((3 * i) + 1)) ≤ (((((fgM P L (L + 1) 0 nu0 0 f0).2.2.2.2))) (3 * i)) then (((((fgM P L (L + 1) 0 nu0 0 f0).2.2.2.2))) (3 * i)) else (((((fgM P L (L + 1) 0 nu0 0 f0).2.2.2.2))) ((3 * i) + 1)))) (62 + (k + i)) (((((fgM P L (L + 1) 0 nu0 0 f0).2.2.2.2))) ((3 * i) + 2))) 1 (nI ((k + i) + 1))))] := hD
        refine lv_iinc (v := nI (i + 1)) (lv' := [(1, .int (nI (i + 1))), (0, .ref mo)]) hx hb dX5_read_96 hl (k := 0) rfl (by rw [show Int32.ofInt 1 = nI 1 by decide]; exact nI_add _ _) (by decide) rfl (fun ls hl => ?_)
        refine lv_goto (tgt := 56) hx hb dX5_read_99 (by decide) ?_
        exact ih56 (i + 1) (upd (upd (upd (upd f9 (2 + (k + i)) (if (((((fgM P L (L + 1) 0 nu0 0 f0).2.2.2.2))) ((3 * i) + 1)) ≤ (((((fgM P L (L + 1) 0 nu0 0 f0).2.2.2.2))) (3 * i)) then (((((fgM P L (L + 1) 0 nu0 0 f0).2.2.2.2))) ((3 * i) + 1)) else (((((fgM P L (L + 1) 0 nu0 0 f0).2.2.2.2))) (3 * i)))) (32 + (k + i)) (if (((((fgM P L (L + 1) 0 nu0 0 f0).2.2.2.2))) ((3 * i) + 1)) ≤ (((((fgM P L (L + 1) 0 nu0 0 f0).2.2.2.2))) (3 * i)) then (((((fgM P L (L + 1) 0 nu0 0 f0).2.2.2.2))) (3 * i)) else (((((fgM P L (L + 1) 0 nu0 0 f0).2.2.2.2))) ((3 * i) + 1)))) (62 + (k + i)) (((((fgM P L (L + 1) 0 nu0 0 f0).2.2.2.2))) ((3 * i) + 2))) 1 (nI ((k + i) + 1))) (by rw [ef]; rfl) (by first | assumption | omega | rfl) (by omega) _ _ (hP.sub [0, 1, 2, 4, 5, 3] rfl) (hD.sub [0, 1, 2, 4, 5, 3] (by decide) rfl) hS ls (lv_sub hl [0, 1] rfl)
  exact L56 (((fgM P L (L + 1) 0 nu0 0 f0).2.2.2.1 - 0) + 1) 0 Al (rfl) (by first | assumption | omega | rfl) (Nat.lt_succ_self _) _ _ (hP.sub [0, 1, 2, 3, 4, 5] rfl) (hD.sub [0, 1, 2, 3, 4, 5] (by decide) rfl) hS ls (lv_sub hl [0, 1] rfl)
