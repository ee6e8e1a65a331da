set_option maxHeartbeats 400000 in
set_option maxRecDepth 100000 in
theorem c_X5_squares_bad (l : Launch) (E : EE) (sz : Nat) (mo mA mK mH mS mV mF mP mR : Nat) (hy pl sp nu rm : Int32) (w : Int32) (gm : w < nI 2 ∨ nI 16 < w) : Ci l yX5_squares wsX5_squares 1 25 E [.ref mo, .int w] [(mo, .inr (5, [.ref mA, .ref mK, .ref mH, .int hy, .ref mS, .ref mV, .ref mF, .ref mP, .int pl, .int sp, .int nu, .ref mR, .int rm]))] sz (-2) [(mo, .inr (5, [.ref mA, .ref mK, .ref mH, .int hy, .ref mS, .ref mV, .ref mF, .ref mP, .int pl, .int sp, .int nu, .ref mR, .int rm]))] := by
  refine C_of (QQ := QI E (-2) [(mo, .inr (5, [.ref mA, .ref mK, .ref mH, .int hy, .ref mS, .ref mV, .ref mF, .ref mP, .int pl, .int sp, .int nu, .ref mR, .int rm]))]) (cc := cX5_squares) (maxL := 3) (ret := (some .int)) (by decide +kernel) rfl (Nat.le_of_ble_eq_true rfl) ?_
  intro p e s m args below meth c A R Q ls hx hb hr hts hown hml hlocks hA hK hN hP hD hS hl hR hQ
  have hown : s.vm.findClass RX5 = some m.cls := hown
  have hl : lv_has ls 3 [(0, .ref mo), (1, .int w)] := hl
  refine lv_iload_n hx hb dX5_squares_0 rfl (lv_at hl 1 rfl) ?_
  refine lv_i2l hx hb dX5_squares_1 rfl ?_
  refine lv_ldc2 (v := 2) hx hb hown (hts _ cl68_X5_squares) dX5_squares_2 ?_
  refine lv_ldc2 (v := 16) hx hb hown (hts _ cl70_X5_squares) dX5_squares_5 ?_
  refine kS_i (E := E) (As := [.long w.toInt64, .long ((2 : Int64)), .long ((16 : Int64))]) (rest := []) (wr := [(mo, .inr (5, [.ref mA, .ref mK, .ref mH, .int hy, .ref mS, .ref mV, .ref mF, .ref mP, .int pl, .int sp, .int nu, .ref mR, .int rm]))]) ⟨hx, hb, hml, hown, hts⟩ (c_X5_in (l := l) (E := E) (sz := _) (v := w.toInt64) (lo9 := (2 : Int64)) (hi9 := (16 : Int64)) ) (cwS 3 hts gX5_squares_X5_in rfl rfl rfl (by decide +kernel) ⟨by rw [hR]; decide, by rw [hR]; decide⟩) hK hN hP hD hS hA [] [0] rfl (by decide) rfl (by decide) (by decide) rfl hl.1 rfl (Nat.le_of_ble_eq_true rfl) dX5_squares_8 ⟨Nat.zero_le _, Nat.zero_le _⟩ (fun H locs hP hD hS => ?_)
  have hP : va_P E.1 vwCl [(mo, .inr (5, [.ref mA, .ref mK, .ref mH, .int hy, .ref mS, .ref mV, .ref mF, .ref mP, .int pl, .int sp, .int nu, .ref mR, .int rm]))] H := hP
  have hD : va_D A [(mo, .inr (5, [.ref mA, .ref mK, .ref mH, .int hy, .ref mS, .ref mV, .ref mF, .ref mP, .int pl, .int sp, .int nu, .ref mR, .int rm]))] := hD
  refine rk_if_neB (tgt := 17) hx hb dX5_squares_11 (by decide) (fun q => absurd (q.symm.trans (inLw_f (a := 2) (b := 16) (by decide) (by decide) gm)) (by decide)) (fun zc11 => ?_)
  refine lv_bipush (v := (-2)) hx hb dX5_squares_14 (by decide) ?_
  exact ret_i hQ hx hb hr hlocks (hP.sub [0] rfl) (hD.sub [0] (by decide) rfl) hS dX5_squares_16 (rfl)
set_option maxHeartbeats 400000 in
set_option maxRecDepth 100000 in
theorem c_X5_squares_no (l : Launch) (E : EE) (sz : Nat) (mo mA mK mH mS mV mF mP mR : Nat) (hy pl sp nu rm : Int32) (n k : Nat) (Al : Nat → Int32) (mm : Nat) (gA1 : Al 1 = nI k) (gk : k ≤ 30) (g1 : 2 ≤ mm) (g2 : mm ≤ 16) (gf : fitsB (mhF Al) k (nI mm) = false) : Ci l yX5_squares wsX5_squares 1 25 E [.ref mo, .int (nI mm)] [(mo, .inr (5, [.ref mA, .ref mK, .ref mH, .int hy, .ref mS, .ref mV, .ref mF, .ref mP, .int pl, .int sp, .int nu, .ref mR, .int rm])), (mA, aI E 92 Al)] sz (-5) [(mo, .inr (5, [.ref mA, .ref mK, .ref mH, .int hy, .ref mS, .ref mV, .ref mF, .ref mP, .int pl, .int sp, .int nu, .ref mR, .int rm])), (mA, aI E 92 Al)] := by
  refine C_of (QQ := QI E (-5) [(mo, .inr (5, [.ref mA, .ref mK, .ref mH, .int hy, .ref mS, .ref mV, .ref mF, .ref mP, .int pl, .int sp, .int nu, .ref mR, .int rm])), (mA, aI E 92 Al)]) (cc := cX5_squares) (maxL := 3) (ret := (some .int)) (by decide +kernel) rfl (Nat.le_of_ble_eq_true rfl) ?_
  intro p e s m args below meth c A R Q ls hx hb hr hts hown hml hlocks hA hK hN hP hD hS hl hR hQ
  have hown : s.vm.findClass RX5 = some m.cls := hown
  have hl : lv_has ls 3 [(0, .ref mo), (1, .int (nI mm))] := hl
  refine lv_iload_n hx hb dX5_squares_0 rfl (lv_at hl 1 rfl) ?_
  refine lv_i2l hx hb dX5_squares_1 rfl ?_
  refine lv_ldc2 (v := 2) hx hb hown (hts _ cl68_X5_squares) dX5_squares_2 ?_
  refine lv_ldc2 (v := 16) hx hb hown (hts _ cl70_X5_squares) dX5_squares_5 ?_
  refine kS_i (E := E) (As := [.long ((nI mm).toInt64), .long ((2 : Int64)), .long ((16 : Int64))]) (rest := []) (wr := [(mo, .inr (5, [.ref mA, .ref mK, .ref mH, .int hy, .ref mS, .ref mV, .ref mF, .ref mP, .int pl, .int sp, .int nu, .ref mR, .int rm])), (mA, aI E 92 Al)]) ⟨hx, hb, hml, hown, hts⟩ (c_X5_in (l := l) (E := E) (sz := _) (v := (nI mm).toInt64) (lo9 := (2 : Int64)) (hi9 := (16 : Int64)) ) (cwS 3 hts gX5_squares_X5_in rfl rfl rfl (by decide +kernel) ⟨by rw [hR]; decide, by rw [hR]; decide⟩) hK hN hP hD hS hA [] [0, 1] rfl (by decide) rfl (by decide) (by decide) rfl hl.1 rfl (Nat.le_of_ble_eq_true rfl) dX5_squares_8 ⟨Nat.zero_le _, Nat.zero_le _⟩ (fun H locs hP hD hS => ?_)
  have hP : va_P E.1 vwCl [(mo, .inr (5, [.ref mA, .ref mK, .ref mH, .int hy, .ref mS, .ref mV, .ref mF, .ref mP, .int pl, .int sp, .int nu, .ref mR, .int rm])), (mA, aI E 92 Al)] H := hP
  have hD : va_D A [(mo, .inr (5, [.ref mA, .ref mK, .ref mH, .int hy, .ref mS, .ref mV, .ref mF, .ref mP, .int pl, .int sp, .int nu, .ref mR, .int rm])), (mA, aI E 92 Al)] := hD
  refine rk_if_neB (tgt := 17) hx hb dX5_squares_11 (by decide) (fun zc11 => ?_) (fun q => absurd (q.symm.trans (inLn_t (a := 2) (b := 16) (by decide) g1 g2)) (by decide))
  refine lv_iconst (v := nI 0) hx hb dX5_squares_17 (by decide) ?_
  refine lv_istore_n (lv' := [(2, .int (nI 0)), (0, .ref mo), (1, .int (nI mm))]) hx hb dX5_squares_18 rfl hl (by decide) rfl (fun ls hl => ?_)
  have L19 : ∀ (fu : Nat) (i : Nat), (hy9 : ∀ r, r < i → mhF Al r < nI mm) → (gi : i ≤ k) → k - i < fu → ∀ (H : Heap) (locs : List Loc), va_P E.1 vwCl [(mo, .inr (5, [.ref mA, .ref mK, .ref mH, .int hy, .ref mS, .ref mV, .ref mF, .ref mP, .int pl, .int sp, .int nu, .ref mR, .int rm])), (mA, aI E 92 Al)] H → va_D A [(mo, .inr (5, [.ref mA, .ref mK, .ref mH, .int hy, .ref mS, .ref mV, .ref mF, .ref mP, .int pl, .int sp, .int nu, .ref mR, .int rm])), (mA, aI E 92 Al)] → va_S A s.heap H locs → ∀ (ls : Array Slot), lv_has ls 3 [(2, .int (nI i)), (0, .ref mo), (1, .int (nI mm))] → W p l e R s m args below meth c H locs 0 0 Q (F0 m 19 ls []) := by
    intro fu
    induction fu with
    | zero => intro i hy9 gi hfu; exact absurd hfu (Nat.not_lt_zero _)
    | succ fu ih19 =>
      intro i hy9 gi hfu H locs hP hD hS ls hl
      refine lv_iload_n hx hb dX5_squares_19 rfl (lv_at hl 0 rfl) ?_
      refine lv_aload_n hx hb dX5_squares_20 rfl (lv_at hl 1 rfl) ?_
      refine rk_get (ci := 5) (C := RX5) (T := TX5) (N := 13) hx hb hts iw_X5_squares_5 hown hK hP 0 rfl rfl 0 (by decide) fl_X5_squares_7 rfl (v := .ref mA) rfl dX5_squares_21 ?_
      refine lv_iconst (v := nI 1) hx hb dX5_squares_24 (by decide) ?_
      refine rk_iald hx hb hK hP 1 rfl (by omega) (by omega) (v := nI k) (by exact gA1) dX5_squares_25 ?_
      refine rk_geN (tgt := 51) hx hb (by omega) (by omega) dX5_squares_26 (by decide) (fun q => absurd (fitsB_t q hy9) (by rw [gf]; decide)) (fun zc26 => ?_)
      refine lv_aload_n hx hb dX5_squares_29 rfl (lv_at hl 1 rfl) ?_
      refine rk_get (ci := 5) (C := RX5) (T := TX5) (N := 13) hx hb hts iw_X5_squares_5 hown hK hP 0 rfl rfl 0 (by decide) fl_X5_squares_7 rfl (v := .ref mA) rfl dX5_squares_30 ?_
      refine lv_bipush (v := nI 32) hx hb dX5_squares_33 (by decide) ?_
      refine lv_iload_n hx hb dX5_squares_35 rfl (lv_at hl 0 rfl) ?_
      refine rk_iaddN hx hb dX5_squares_36 ?_
      refine rk_iald hx hb hK hP 1 rfl (by omega) (by omega) (v := Al (32 + i)) (rfl) dX5_squares_37 ?_
      refine lv_iload_n hx hb dX5_squares_38 rfl (lv_at hl 2 rfl) ?_
      refine lv_icmp_lt (tgt := 45) hx hb dX5_squares_39 (by decide) (fun zc39 => ?_) (fun zc39 => ?_)
      · refine lv_iinc (v := nI (i + 1)) (lv' := [(2, .int (nI (i + 1))), (0, .ref mo), (1, .int (nI mm))]) hx hb dX5_squares_45 hl (k := 0) rfl (by rw [show Int32.ofInt 1 = nI 1 by decide]; exact nI_add _ _) (by decide) rfl (fun ls hl => ?_)
        refine lv_goto (tgt := 19) hx hb dX5_squares_48 (by decide) ?_
        exact ih19 (i + 1) (by intro r hr; rcases Nat.lt_succ_iff_lt_or_eq.mp hr with z | z; exact hy9 r z; subst z; exact zc39) (by first | assumption | omega | rfl) (by omega) _ _ (hP.sub [0, 1] rfl) (hD.sub [0, 1] (by decide) rfl) hS ls (lv_sub hl [0, 1, 2] rfl)
      · refine lv_bipush (v := (-5)) hx hb dX5_squares_42 (by decide) ?_
        exact ret_i hQ hx hb hr hlocks (hP.sub [0, 1] rfl) (hD.sub [0, 1] (by decide) rfl) hS dX5_squares_44 (rfl)
  exact L19 ((k - 0) + 1) 0 (fun r hr => absurd hr (Nat.not_lt_zero r)) (by first | assumption | omega | rfl) (Nat.lt_succ_self _) _ _ (hP.sub [0, 1] rfl) (hD.sub [0, 1] (by decide) rfl) hS ls (lv_sub hl [0, 1, 2] rfl)
set_option maxHeartbeats 400000 in
set_option maxRecDepth 100000 in
theorem c_X5_build_bad (l : Launch) (E : EE) (sz : Nat) (mo mA mK mH mS mV mF mP mR : Nat) (hy pl sp nu rm : Int32) (n k : Nat) (Al : Nat → Int32) (a b w : Int32) (gA0 : Al 0 = nI n) (gn : n ≤ 16) (gb : inR a (nI n) = true → inR b (nI n) = false) : Ci l yX5_build wsX5_build 2 46 E [.ref mo, .int a, .int b, .int w] [(mo, .inr (5, [.ref mA, .ref mK, .ref mH, .int hy, .ref mS, .ref mV, .ref mF, .ref mP, .int pl, .int sp, .int nu, .ref mR, .int rm])), (mA, aI E 92 Al)] sz (-1) [(mo, .inr (5, [.ref mA, .ref mK, .ref mH, .int hy, .ref mS, .ref mV, .ref mF, .ref mP, .int pl, .int sp, .int nu, .ref mR, .int rm])), (mA, aI E 92 Al)] := by
  refine C_of (QQ := QI E (-1) [(mo, .inr (5, [.ref mA, .ref mK, .ref mH, .int hy, .ref mS, .ref mV, .ref mF, .ref mP, .int pl, .int sp, .int nu, .ref mR, .int rm])), (mA, aI E 92 Al)]) (cc := cX5_build) (maxL := 4) (ret := (some .int)) (by decide +kernel) rfl (Nat.le_of_ble_eq_true rfl) ?_
  intro p e s m args below meth c A R Q ls hx hb hr hts hown hml hlocks hA hK hN hP hD hS hl hR hQ
  have hown : s.vm.findClass RX5 = some m.cls := hown
  have hl : lv_has ls 4 [(0, .ref mo), (1, .int a), (2, .int b), (3, .int w)] := hl
  refine lv_aload_n hx hb dX5_build_0 rfl (lv_at hl 0 rfl) ?_
  refine lv_iload_n hx hb dX5_build_1 rfl (lv_at hl 1 rfl) ?_
  refine kV_i (E := E) (As := [.int a]) (rest := []) (wr := []) ⟨hx, hb, hml, hown, hts⟩ (c_X5_isSquare (l := l) (E := E) (sz := _) (mo := mo) (mA := mA) (mK := mK) (mH := mH) (mS := mS) (mV := mV) (mF := mF) (mP := mP) (mR := mR) (hy := hy) (pl := pl) (sp := sp) (nu := nu) (rm := rm) (n := n) (k := k) (Al := Al) (x := a) (gA0 := by first | assumption | omega) (gn := by first | assumption | omega)) (cwV 1 hts gX5_build_X5_isSquare rfl rfl rfl (by decide +kernel) ⟨by rw [hR]; decide, by rw [hR]; decide⟩) hK hN hP hD hS hA [0, 1] [] rfl (by decide) rfl (by decide) (by decide) 0 5 rfl rfl rfl hl.1 rfl (Nat.le_of_ble_eq_true rfl) dX5_build_2 ⟨Nat.zero_le _, Nat.zero_le _⟩ (fun H locs hP hD hS => ?_)
  have hP : va_P E.1 vwCl [(mo, .inr (5, [.ref mA, .ref mK, .ref mH, .int hy, .ref mS, .ref mV, .ref mF, .ref mP, .int pl, .int sp, .int nu, .ref mR, .int rm])), (mA, aI E 92 Al)] H := hP
  have hD : va_D A [(mo, .inr (5, [.ref mA, .ref mK, .ref mH, .int hy, .ref mS, .ref mV, .ref mF, .ref mP, .int pl, .int sp, .int nu, .ref mR, .int rm])), (mA, aI E 92 Al)] := hD
  refine rk_if_eqB (tgt := 16) hx hb dX5_build_5 (by decide) (fun zc5 => ?_) (fun zc5 => ?_)
  · refine lv_iconst (v := (-1)) hx hb dX5_build_16 (by decide) ?_
    exact ret_i hQ hx hb hr hlocks (hP.sub [0, 1] rfl) (hD.sub [0, 1] (by decide) rfl) hS dX5_build_17 (rfl)
  · refine lv_aload_n hx hb dX5_build_8 rfl (lv_at hl 0 rfl) ?_
    refine lv_iload_n hx hb dX5_build_9 rfl (lv_at hl 2 rfl) ?_
    refine kV_i (E := E) (As := [.int b]) (rest := []) (wr := []) ⟨hx, hb, hml, hown, hts⟩ (c_X5_isSquare (l := l) (E := E) (sz := _) (mo := mo) (mA := mA) (mK := mK) (mH := mH) (mS := mS) (mV := mV) (mF := mF) (mP := mP) (mR := mR) (hy := hy) (pl := pl) (sp := sp) (nu := nu) (rm := rm) (n := n) (k := k) (Al := Al) (x := b) (gA0 := by first | assumption | omega) (gn := by first | assumption | omega)) (cwV 1 hts gX5_build_X5_isSquare rfl rfl rfl (by decide +kernel) ⟨by rw [hR]; decide, by rw [hR]; decide⟩) hK hN hP hD hS hA [0, 1] [] rfl (by decide) rfl (by decide) (by decide) 0 5 rfl rfl rfl hl.1 rfl (Nat.le_of_ble_eq_true rfl) dX5_build_10 ⟨Nat.zero_le _, Nat.zero_le _⟩ (fun H locs hP hD hS => ?_)
    have hP : va_P E.1 vwCl [(mo, .inr (5, [.ref mA, .ref mK, .ref mH, .int hy, .ref mS, .ref mV, .ref mF, .ref mP, .int pl, .int sp, .int nu, .ref mR, .int rm])), (mA, aI E 92 Al)] H := hP
    have hD : va_D A [(mo, .inr (5, [.ref mA, .ref mK, .ref mH, .int hy, .ref mS, .ref mV, .ref mF, .ref mP, .int pl, .int sp, .int nu, .ref mR, .int rm])), (mA, aI E 92 Al)] := hD
    refine rk_if_neB (tgt := 18) hx hb dX5_build_13 (by decide) (fun q => absurd q (by rw [gb zc5]; decide)) (fun zc13 => ?_)
    refine lv_iconst (v := (-1)) hx hb dX5_build_16 (by decide) ?_
    exact ret_i hQ hx hb hr hlocks (hP.sub [0, 1] rfl) (hD.sub [0, 1] (by decide) rfl) hS dX5_build_17 (rfl)
set_option maxHeartbeats 400000 in
set_option maxRecDepth 100000 in
theorem c_X5_build_val (l : Launch) (E : EE) (sz : Nat) (mo mA mK mH mS mV mF mP mR : Nat) (hy pl sp nu rm : Int32) (n k : Nat) (Al : Nat → Int32) (x y : Nat) (w : Int32) (gA0 : Al 0 = nI n) (gn : n ≤ 16) (gx : x < n) (gy : y < n) (gv : x = y ∨ w < nI 1 ∨ nI 99 < w) : Ci l yX5_build wsX5_build 2 46 E [.ref mo, .int (nI x), .int (nI y), .int w] [(mo, .inr (5, [.ref mA, .ref mK, .ref mH, .int hy, .ref mS, .ref mV, .ref mF, .ref mP, .int pl, .int sp, .int nu, .ref mR, .int rm])), (mA, aI E 92 Al)] sz (-2) [(mo, .inr (5, [.ref mA, .ref mK, .ref mH, .int hy, .ref mS, .ref mV, .ref mF, .ref mP, .int pl, .int sp, .int nu, .ref mR, .int rm])), (mA, aI E 92 Al)] := by
  refine C_of (QQ := QI E (-2) [(mo, .inr (5, [.ref mA, .ref mK, .ref mH, .int hy, .ref mS, .ref mV, .ref mF, .ref mP, .int pl, .int sp, .int nu, .ref mR, .int rm])), (mA, aI E 92 Al)]) (cc := cX5_build) (maxL := 4) (ret := (some .int)) (by decide +kernel) rfl (Nat.le_of_ble_eq_true rfl) ?_
  intro p e s m args below meth c A R Q ls hx hb hr hts hown hml hlocks hA hK hN hP hD hS hl hR hQ
  have hown : s.vm.findClass RX5 = some m.cls := hown
  have hl : lv_has ls 4 [(0, .ref mo), (1, .int (nI x)), (2, .int (nI y)), (3, .int w)] := hl
  refine lv_aload_n hx hb dX5_build_0 rfl (lv_at hl 0 rfl) ?_
  refine lv_iload_n hx hb dX5_build_1 rfl (lv_at hl 1 rfl) ?_
  refine kV_i (E := E) (As := [.int (nI x)]) (rest := []) (wr := []) ⟨hx, hb, hml, hown, hts⟩ (c_X5_isSquare (l := l) (E := E) (sz := _) (mo := mo) (mA := mA) (mK := mK) (mH := mH) (mS := mS) (mV := mV) (mF := mF) (mP := mP) (mR := mR) (hy := hy) (pl := pl) (sp := sp) (nu := nu) (rm := rm) (n := n) (k := k) (Al := Al) (x := nI x) (gA0 := by first | assumption | omega) (gn := by first | assumption | omega)) (cwV 1 hts gX5_build_X5_isSquare rfl rfl rfl (by decide +kernel) ⟨by rw [hR]; decide, by rw [hR]; decide⟩) hK hN hP hD hS hA [0, 1] [] rfl (by decide) rfl (by decide) (by decide) 0 5 rfl rfl rfl hl.1 rfl (Nat.le_of_ble_eq_true rfl) dX5_build_2 ⟨Nat.zero_le _, Nat.zero_le _⟩ (fun H locs hP hD hS => ?_)
  have hP : va_P E.1 vwCl [(mo, .inr (5, [.ref mA, .ref mK, .ref mH, .int hy, .ref mS, .ref mV, .ref mF, .ref mP, .int pl, .int sp, .int nu, .ref mR, .int rm])), (mA, aI E 92 Al)] H := hP
  have hD : va_D A [(mo, .inr (5, [.ref mA, .ref mK, .ref mH, .int hy, .ref mS, .ref mV, .ref mF, .ref mP, .int pl, .int sp, .int nu, .ref mR, .int rm])), (mA, aI E 92 Al)] := hD
  refine rk_if_eqB (tgt := 16) hx hb dX5_build_5 (by decide) (fun q => absurd q (by rw [inR_ok gx (by omega)]; decide)) (fun zc5 => ?_)
  refine lv_aload_n hx hb dX5_build_8 rfl (lv_at hl 0 rfl) ?_
  refine lv_iload_n hx hb dX5_build_9 rfl (lv_at hl 2 rfl) ?_
  refine kV_i (E := E) (As := [.int (nI y)]) (rest := []) (wr := []) ⟨hx, hb, hml, hown, hts⟩ (c_X5_isSquare (l := l) (E := E) (sz := _) (mo := mo) (mA := mA) (mK := mK) (mH := mH) (mS := mS) (mV := mV) (mF := mF) (mP := mP) (mR := mR) (hy := hy) (pl := pl) (sp := sp) (nu := nu) (rm := rm) (n := n) (k := k) (Al := Al) (x := nI y) (gA0 := by first | assumption | omega) (gn := by first | assumption | omega)) (cwV 1 hts gX5_build_X5_isSquare rfl rfl rfl (by decide +kernel) ⟨by rw [hR]; decide, by rw [hR]; decide⟩) hK hN hP hD hS hA [0, 1] [] rfl (by decide) rfl (by decide) (by decide) 0 5 rfl rfl rfl hl.1 rfl (Nat.le_of_ble_eq_true rfl) dX5_build_10 ⟨Nat.zero_le _, Nat.zero_le _⟩ (fun H locs hP hD hS => ?_)
  have hP : va_P E.1 vwCl [(mo, .inr (5, [.ref mA, .ref mK, .ref mH, .int hy, .ref mS, .ref mV, .ref mF, .ref mP, .int pl, .int sp, .int nu, .ref mR, .int rm])), (mA, aI E 92 Al)] H := hP
  have hD : va_D A [(mo, .inr (5, [.ref mA, .ref mK, .ref mH, .int hy, .ref mS, .ref mV, .ref mF, .ref mP, .int pl, .int sp, .int nu, .ref mR, .int rm])), (mA, aI E 92 Al)] := hD
  refine rk_if_neB (tgt := 18) hx hb dX5_build_13 (by decide) (fun zc13 => ?_) (fun q => absurd q (by rw [inR_ok gy (by omega)]; decide))
  refine lv_iload_n hx hb dX5_build_18 rfl (lv_at hl 1 rfl) ?_
  refine lv_iload_n hx hb dX5_build_19 rfl (lv_at hl 2 rfl) ?_
  refine rk_eqN (tgt := 35) hx hb (by omega) (by omega) dX5_build_20 (by decide) (fun zc20 => ?_) (fun zc20 => ?_)
  · refine lv_bipush (v := (-2)) hx hb dX5_build_35 (by decide) ?_
    exact ret_i hQ hx hb hr hlocks (hP.sub [0, 1] rfl) (hD.sub [0, 1] (by decide) rfl) hS dX5_build_37 (rfl)
  · refine lv_iload_n hx hb dX5_build_23 rfl (lv_at hl 3 rfl) ?_
    refine lv_i2l hx hb dX5_build_24 rfl ?_
    refine lv_lconst (v := 1) hx hb dX5_build_25 (by decide) ?_
    refine lv_ldc2 (v := 99) hx hb hown (hts _ cl81_X5_build) dX5_build_26 ?_
    refine kS_i (E := E) (As := [.long w.toInt64, .long ((1 : Int64)), .long ((99 : Int64))]) (rest := []) (wr := [(mo, .inr (5, [.ref mA, .ref mK, .ref mH, .int hy, .ref mS, .ref mV, .ref mF, .ref mP, .int pl, .int sp, .int nu, .ref mR, .int rm])), (mA, aI E 92 Al)]) ⟨hx, hb, hml, hown, hts⟩ (c_X5_in (l := l) (E := E) (sz := _) (v := w.toInt64) (lo9 := (1 : Int64)) (hi9 := (99 : Int64)) ) (cwS 3 hts gX5_build_X5_in rfl rfl rfl (by decide +kernel) ⟨by rw [hR]; decide, by rw [hR]; decide⟩) hK hN hP hD hS hA [] [0, 1] rfl (by decide) rfl (by decide) (by decide) rfl hl.1 rfl (Nat.le_of_ble_eq_true rfl) dX5_build_29 ⟨Nat.zero_le _, Nat.zero_le _⟩ (fun H locs hP hD hS => ?_)
    have hP : va_P E.1 vwCl [(mo, .inr (5, [.ref mA, .ref mK, .ref mH, .int hy, .ref mS, .ref mV, .ref mF, .ref mP, .int pl, .int sp, .int nu, .ref mR, .int rm])), (mA, aI E 92 Al)] H := hP
    have hD : va_D A [(mo, .inr (5, [.ref mA, .ref mK, .ref mH, .int hy, .ref mS, .ref mV, .ref mF, .ref mP, .int pl, .int sp, .int nu, .ref mR, .int rm])), (mA, aI E 92 Al)] := hD
    refine rk_if_neB (tgt := 38) hx hb dX5_build_32 (by decide) (fun q => absurd gv (fun z => z.elim zc20 (fun y9 => absurd (q.symm.trans (inLw_f (a := 1) (b := 99) (by decide) (by decide) y9)) (by decide)))) (fun zc32 => ?_)
    refine lv_bipush (v := (-2)) hx hb dX5_build_35 (by decide) ?_
    exact ret_i hQ hx hb hr hlocks (hP.sub [0, 1] rfl) (hD.sub [0, 1] (by decide) rfl) hS dX5_build_37 (rfl)
set_option maxHeartbeats 400000 in
set_option maxRecDepth 100000 in
theorem c_X5_build_many (l : Launch) (E : EE) (sz : Nat) (mo mA mK mH mS mV mF mP mR : Nat) (hy pl sp nu rm : Int32) (n k : Nat) (Al : Nat → Int32) (x y z : Nat) (gA0 : Al 0 = nI n) (gn : n ≤ 16) (gA1 : Al 1 = nI k) (gk : k ≤ 30) (gx : x < n) (gy : y < n) (gne : ¬ x = y) (gz1 : 1 ≤ z) (gz2 : z ≤ 99) (gk30 : k = 30) : Ci l yX5_build wsX5_build 2 46 E [.ref mo, .int (nI x), .int (nI y), .int (nI z)] [(mo, .inr (5, [.ref mA, .ref mK, .ref mH, .int hy, .ref mS, .ref mV, .ref mF, .ref mP, .int pl, .int sp, .int nu, .ref mR, .int rm])), (mA, aI E 92 Al)] sz (-4) [(mo, .inr (5, [.ref mA, .ref mK, .ref mH, .int hy, .ref mS, .ref mV, .ref mF, .ref mP, .int pl, .int sp, .int nu, .ref mR, .int rm])), (mA, aI E 92 Al)] := by
  refine C_of (QQ := QI E (-4) [(mo, .inr (5, [.ref mA, .ref mK, .ref mH, .int hy, .ref mS, .ref mV, .ref mF, .ref mP, .int pl, .int sp, .int nu, .ref mR, .int rm])), (mA, aI E 92 Al)]) (cc := cX5_build) (maxL := 4) (ret := (some .int)) (by decide +kernel) rfl (Nat.le_of_ble_eq_true rfl) ?_
  intro p e s m args below meth c A R Q ls hx hb hr hts hown hml hlocks hA hK hN hP hD hS hl hR hQ
  have hown : s.vm.findClass RX5 = some m.cls := hown
  have hl : lv_has ls 4 [(0, .ref mo), (1, .int (nI x)), (2, .int (nI y)), (3, .int (nI z))] := hl
  refine lv_aload_n hx hb dX5_build_0 rfl (lv_at hl 0 rfl) ?_
  refine lv_iload_n hx hb dX5_build_1 rfl (lv_at hl 1 rfl) ?_
  refine kV_i (E := E) (As := [.int (nI x)]) (rest := []) (wr := []) ⟨hx, hb, hml, hown, hts⟩ (c_X5_isSquare (l := l) (E := E) (sz := _) (mo := mo) (mA := mA) (mK := mK) (mH := mH) (mS := mS) (mV := mV) (mF := mF) (mP := mP) (mR := mR) (hy := hy) (pl := pl) (sp := sp) (nu := nu) (rm := rm) (n := n) (k := k) (Al := Al) (x := nI x) (gA0 := by first | assumption | omega) (gn := by first | assumption | omega)) (cwV 1 hts gX5_build_X5_isSquare rfl rfl rfl (by decide +kernel) ⟨by rw [hR]; decide, by rw [hR]; decide⟩) hK hN hP hD hS hA [0, 1] [] rfl (by decide) rfl (by decide) (by decide) 0 5 rfl rfl rfl hl.1 rfl (Nat.le_of_ble_eq_true rfl) dX5_build_2 ⟨Nat.zero_le _, Nat.zero_le _⟩ (fun H locs hP hD hS => ?_)
  have hP : va_P E.1 vwCl [(mo, .inr (5, [.ref mA, .ref mK, .ref mH, .int hy, .ref mS, .ref mV, .ref mF, .ref mP, .int pl, .int sp, .int nu, .ref mR, .int rm])), (mA, aI E 92 Al)] H := hP
  have hD : va_D A [(mo, .inr (5, [.ref mA, .ref mK, .ref mH, .int hy, .ref mS, .ref mV, .ref mF, .ref mP, .int pl, .int sp, .int nu, .ref mR, .int rm])), (mA, aI E 92 Al)] := hD
  refine rk_if_eqB (tgt := 16) hx hb dX5_build_5 (by decide) (fun q => absurd q (by rw [inR_ok gx (by omega)]; decide)) (fun zc5 => ?_)
  refine lv_aload_n hx hb dX5_build_8 rfl (lv_at hl 0 rfl) ?_
  refine lv_iload_n hx hb dX5_build_9 rfl (lv_at hl 2 rfl) ?_
  refine kV_i (E := E) (As := [.int (nI y)]) (rest := []) (wr := []) ⟨hx, hb, hml, hown, hts⟩ (c_X5_isSquare (l := l) (E := E) (sz := _) (mo := mo) (mA := mA) (mK := mK) (mH := mH) (mS := mS) (mV := mV) (mF := mF) (mP := mP) (mR := mR) (hy := hy) (pl := pl) (sp := sp) (nu := nu) (rm := rm) (n := n) (k := k) (Al := Al) (x := nI y) (gA0 := by first | assumption | omega) (gn := by first | assumption | omega)) (cwV 1 hts gX5_build_X5_isSquare rfl rfl rfl (by decide +kernel) ⟨by rw [hR]; decide, by rw [hR]; decide⟩) hK hN hP hD hS hA [0, 1] [] rfl (by decide) rfl (by decide) (by decide) 0 5 rfl rfl rfl hl.1 rfl (Nat.le_of_ble_eq_true rfl) dX5_build_10 ⟨Nat.zero_le _, Nat.zero_le _⟩ (fun H locs hP hD hS => ?_)
  have hP : va_P E.1 vwCl [(mo, .inr (5, [.ref mA, .ref mK, .ref mH, .int hy, .ref mS, .ref mV, .ref mF, .ref mP, .int pl, .int sp, .int nu, .ref mR, .int rm])), (mA, aI E 92 Al)] H := hP
  have hD : va_D A [(mo, .inr (5, [.ref mA, .ref mK, .ref mH, .int hy, .ref mS, .ref mV, .ref mF, .ref mP, .int pl, .int sp, .int nu, .ref mR, .int rm])), (mA, aI E 92 Al)] := hD
  refine rk_if_neB (tgt := 18) hx hb dX5_build_13 (by decide) (fun zc13 => ?_) (fun q => absurd q (by rw [inR_ok gy (by omega)]; decide))
  refine lv_iload_n hx hb dX5_build_18 rfl (lv_at hl 1 rfl) ?_
  refine lv_iload_n hx hb dX5_build_19 rfl (lv_at hl 2 rfl) ?_
  refine rk_eqN (tgt := 35) hx hb (by omega) (by omega) dX5_build_20 (by decide) (fun q => absurd q gne) (fun zc20 => ?_)
  refine lv_iload_n hx hb dX5_build_23 rfl (lv_at hl 3 rfl) ?_
  refine lv_i2l hx hb dX5_build_24 rfl ?_
  refine lv_lconst (v := 1) hx hb dX5_build_25 (by decide) ?_
  refine lv_ldc2 (v := 99) hx hb hown (hts _ cl81_X5_build) dX5_build_26 ?_
  refine kS_i (E := E) (As := [.long ((nI z).toInt64), .long ((1 : Int64)), .long ((99 : Int64))]) (rest := []) (wr := [(mo, .inr (5, [.ref mA, .ref mK, .ref mH, .int hy, .ref mS, .ref mV, .ref mF, .ref mP, .int pl, .int sp, .int nu, .ref mR, .int rm])), (mA, aI E 92 Al)]) ⟨hx, hb, hml, hown, hts⟩ (c_X5_in (l := l) (E := E) (sz := _) (v := (nI z).toInt64) (lo9 := (1 : Int64)) (hi9 := (99 : Int64)) ) (cwS 3 hts gX5_build_X5_in rfl rfl rfl (by decide +kernel) ⟨by rw [hR]; decide, by rw [hR]; decide⟩) hK hN hP hD hS hA [] [0, 1] rfl (by decide) rfl (by decide) (by decide) rfl hl.1 rfl (Nat.le_of_ble_eq_true rfl) dX5_build_29 ⟨Nat.zero_le _, Nat.zero_le _⟩ (fun H locs hP hD hS => ?_)
  have hP : va_P E.1 vwCl [(mo, .inr (5, [.ref mA, .ref mK, .ref mH, .int hy, .ref mS, .ref mV, .ref mF, .ref mP, .int pl, .int sp, .int nu, .ref mR, .int rm])), (mA, aI E 92 Al)] H := hP
  have hD : va_D A [(mo, .inr (5, [.ref mA, .ref mK, .ref mH, .int hy, .ref mS, .ref mV, .ref mF, .ref mP, .int pl, .int sp, .int nu, .ref mR, .int rm])), (mA, aI E 92 Al)] := hD
  refine rk_if_neB (tgt := 38) hx hb dX5_build_32 (by decide) (fun zc32 => ?_) (fun q => absurd (q.symm.trans (inLn_t (a := 1) (b := 99) (by decide) gz1 gz2)) (by decide))
  refine lv_aload_n hx hb dX5_build_38 rfl (lv_at hl 0 rfl) ?_
  refine rk_get (ci := 5) (C := RX5) (T := TX5) (N := 13) hx hb hts iw_X5_build_5 hown hK hP 0 rfl rfl 0 (by decide) fl_X5_build_7 rfl (v := .ref mA) rfl dX5_build_39 ?_
  refine lv_iconst (v := nI 1) hx hb dX5_build_42 (by decide) ?_
  refine rk_iald hx hb hK hP 1 rfl (by omega) (by omega) (v := nI k) (by exact gA1) dX5_build_43 ?_
  refine lv_bipush (v := nI 30) hx hb dX5_build_44 (by decide) ?_
  refine rk_neN (tgt := 52) hx hb (by omega) (by omega) dX5_build_46 (by decide) (fun q => absurd q (by omega)) (fun zc46 => ?_)
  refine lv_bipush (v := (-4)) hx hb dX5_build_49 (by decide) ?_
  exact ret_i hQ hx hb hr hlocks (hP.sub [0, 1] rfl) (hD.sub [0, 1] (by decide) rfl) hS dX5_build_51 (rfl)
set_option maxHeartbeats 400000 in
set_option maxRecDepth 100000 in
theorem c_X5_lose_bad (l : Launch) (E : EE) (sz : Nat) (mo mA mK mH mS mV mF mP mR : Nat) (hy pl sp nu rm : Int32) (n k : Nat) (Al : Nat → Int32) (x : Int32) (gA1 : Al 1 = nI k) (gk : k ≤ 30) (gb : inR x (nI k) = false) : Ci l yX5_lose wsX5_lose 2 46 E [.ref mo, .int x] [(mo, .inr (5, [.ref mA, .ref mK, .ref mH, .int hy, .ref mS, .ref mV, .ref mF, .ref mP, .int pl, .int sp, .int nu, .ref mR, .int rm])), (mA, aI E 92 Al)] sz (-1) [(mo, .inr (5, [.ref mA, .ref mK, .ref mH, .int hy, .ref mS, .ref mV, .ref mF, .ref mP, .int pl, .int sp, .int nu, .ref mR, .int rm])), (mA, aI E 92 Al)] := by
  refine C_of (QQ := QI E (-1) [(mo, .inr (5, [.ref mA, .ref mK, .ref mH, .int hy, .ref mS, .ref mV, .ref mF, .ref mP, .int pl, .int sp, .int nu, .ref mR, .int rm])), (mA, aI E 92 Al)]) (cc := cX5_lose) (maxL := 3) (ret := (some .int)) (by decide +kernel) rfl (Nat.le_of_ble_eq_true rfl) ?_
  intro p e s m args below meth c A R Q ls hx hb hr hts hown hml hlocks hA hK hN hP hD hS hl hR hQ
  have hown : s.vm.findClass RX5 = some m.cls := hown
  have hl : lv_has ls 3 [(0, .ref mo), (1, .int x)] := hl
  refine lv_aload_n hx hb dX5_lose_0 rfl (lv_at hl 0 rfl) ?_
  refine lv_iload_n hx hb dX5_lose_1 rfl (lv_at hl 1 rfl) ?_
  refine kV_i (E := E) (As := [.int x]) (rest := []) (wr := []) ⟨hx, hb, hml, hown, hts⟩ (c_X5_isRoad (l := l) (E := E) (sz := _) (mo := mo) (mA := mA) (mK := mK) (mH := mH) (mS := mS) (mV := mV) (mF := mF) (mP := mP) (mR := mR) (hy := hy) (pl := pl) (sp := sp) (nu := nu) (rm := rm) (n := n) (k := k) (Al := Al) (x := x) (gA1 := by first | assumption | omega) (gk := by first | assumption | omega)) (cwV 1 hts gX5_lose_X5_isRoad rfl rfl rfl (by decide +kernel) ⟨by rw [hR]; decide, by rw [hR]; decide⟩) hK hN hP hD hS hA [0, 1] [] rfl (by decide) rfl (by decide) (by decide) 0 5 rfl rfl rfl hl.1 rfl (Nat.le_of_ble_eq_true rfl) dX5_lose_2 ⟨Nat.zero_le _, Nat.zero_le _⟩ (fun H locs hP hD hS => ?_)
  have hP : va_P E.1 vwCl [(mo, .inr (5, [.ref mA, .ref mK, .ref mH, .int hy, .ref mS, .ref mV, .ref mF, .ref mP, .int pl, .int sp, .int nu, .ref mR, .int rm])), (mA, aI E 92 Al)] H := hP
  have hD : va_D A [(mo, .inr (5, [.ref mA, .ref mK, .ref mH, .int hy, .ref mS, .ref mV, .ref mF, .ref mP, .int pl, .int sp, .int nu, .ref mR, .int rm])), (mA, aI E 92 Al)] := hD
  refine rk_if_neB (tgt := 10) hx hb dX5_lose_5 (by decide) (fun q => absurd q (by rw [gb]; decide)) (fun zc5 => ?_)
  refine lv_iconst (v := (-1)) hx hb dX5_lose_8 (by decide) ?_
  exact ret_i hQ hx hb hr hlocks (hP.sub [0, 1] rfl) (hD.sub [0, 1] (by decide) rfl) hS dX5_lose_9 (rfl)
theorem cl151_X5_put : Cond.constantLong RX5 151 (255) ∈ wsX5_put := by decide +kernel
theorem cl153_X5_put : Cond.constantLong RX5 153 (33) ∈ wsX5_put := by decide +kernel
theorem cl155_X5_put : Cond.constantLong RX5 155 (126) ∈ wsX5_put := by decide +kernel
set_option maxHeartbeats 400000 in
set_option maxRecDepth 100000 in
theorem c_X5_put_bad (l : Launch) (E : EE) (sz : Nat) (mo mA mK mH mS mV mF mP mR : Nat) (hy pl sp nu rm : Int32) (x : Int64) (gz : (mcF x true 0 8).2.2 = 0 ∨ ¬ (mcF x true 0 8).1 = 0 ∨ (mcF x true 0 8).2.1 = false) : Ci l yX5_put wsX5_put 1 25 E [.ref mo, .long x] [(mo, .inr (5, [.ref mA, .ref mK, .ref mH, .int hy, .ref mS, .ref mV, .ref mF, .ref mP, .int pl, .int sp, .int nu, .ref mR, .int rm]))] sz (-2) [(mo, .inr (5, [.ref mA, .ref mK, .ref mH, .int hy, .ref mS, .ref mV, .ref mF, .ref mP, .int pl, .int sp, .int nu, .ref mR, .int rm]))] := by
  refine C_of (QQ := QI E (-2) [(mo, .inr (5, [.ref mA, .ref mK, .ref mH, .int hy, .ref mS, .ref mV, .ref mF, .ref mP, .int pl, .int sp, .int nu, .ref mR, .int rm]))]) (cc := cX5_put) (maxL := 8) (ret := (some .int)) (by decide +kernel) rfl (Nat.le_of_ble_eq_true rfl) ?_
  intro p e s m args below meth c A R Q ls hx hb hr hts hown hml hlocks hA hK hN hP hD hS hl hR hQ
  have hown : s.vm.findClass RX5 = some m.cls := hown
  have hl : lv_has ls 8 [(0, .ref mo), (1, .long x)] := hl
  refine lv_iconst (v := nI 0) hx hb dX5_put_0 (by decide) ?_
  refine lv_istore_n (lv' := [(3, .int (nI 0)), (0, .ref mo), (1, .long x)]) hx hb dX5_put_1 rfl hl (by decide) rfl (fun ls hl => ?_)
  refine lv_iconst (v := nI 1) hx hb dX5_put_2 (by decide) ?_
  refine lv_istore (lv' := [(4, .int (nI 1)), (3, .int (nI 0)), (0, .ref mo), (1, .long x)]) hx hb dX5_put_3 hl (by decide) rfl (fun ls hl => ?_)
  refine lv_lload_n hx hb dX5_put_5 rfl (lv_at hl 3 rfl) ?_
  refine lv_lstore (lv' := [(5, .long x), (4, .int (nI 1)), (3, .int (nI 0)), (0, .ref mo), (1, .long x)]) hx hb dX5_put_6 hl (by decide) rfl (fun ls hl => ?_)
  have L8 : ∀ (fu : Nat) (cn : Nat) (gd : Bool) (y : Int64), (he : mcF x true 0 8 = mcF y gd cn (8 - cn)) → (gc : cn ≤ 8) → 8 - cn < fu → ∀ (H : Heap) (locs : List Loc), va_P E.1 vwCl [(mo, .inr (5, [.ref mA, .ref mK, .ref mH, .int hy, .ref mS, .ref mV, .ref mF, .ref mP, .int pl, .int sp, .int nu, .ref mR, .int rm]))] H → va_D A [(mo, .inr (5, [.ref mA, .ref mK, .ref mH, .int hy, .ref mS, .ref mV, .ref mF, .ref mP, .int pl, .int sp, .int nu, .ref mR, .int rm]))] → va_S A s.heap H locs → ∀ (ls : Array Slot), lv_has ls 8 [(5, .long y), (4, .int (b2i gd)), (3, .int (nI cn)), (0, .ref mo), (1, .long x)] → W p l e R s m args below meth c H locs 0 0 Q (F0 m 8 ls []) := by
    intro fu
    induction fu with
    | zero => intro cn gd y he gc hfu; exact absurd hfu (Nat.not_lt_zero _)
    | succ fu ih8 =>
      intro cn gd y he gc hfu H locs hP hD hS ls hl
      refine lv_iload_n hx hb dX5_put_8 rfl (lv_at hl 2 rfl) ?_
      refine lv_bipush (v := nI 8) hx hb dX5_put_9 (by decide) ?_
      refine rk_geN (tgt := 68) hx hb (by omega) (by omega) dX5_put_11 (by decide) (fun zc11 => ?_) (fun zc11 => ?_)
      · have e8 : mcF x true 0 8 = (y, gd, cn) := by rw [he, mcF_0 (by omega)]
        rw [e8] at gz
        refine lv_iload_n hx hb dX5_put_68 rfl (lv_at hl 2 rfl) ?_
        refine rk_if_eqN (tgt := 84) hx hb (by omega) dX5_put_69 (by decide) (fun zc69 => ?_) (fun zc69 => ?_)
        · refine lv_bipush (v := (-2)) hx hb dX5_put_84 (by decide) ?_
          exact ret_i hQ hx hb hr hlocks (hP.sub [0] rfl) (hD.sub [0] (by decide) rfl) hS dX5_put_86 (rfl)
        · refine lv_lload hx hb dX5_put_72 (lv_at hl 0 rfl) ?_
          refine lv_lconst (v := 0) hx hb dX5_put_74 (by decide) ?_
          refine W.lcmp hx hb dX5_put_75 ?_
          refine rk_lcmp_ne (tgt := 84) hx hb dX5_put_76 (by decide) (fun zc76 => ?_) (fun zc76 => ?_)
          · refine lv_bipush (v := (-2)) hx hb dX5_put_84 (by decide) ?_
            exact ret_i hQ hx hb hr hlocks (hP.sub [0] rfl) (hD.sub [0] (by decide) rfl) hS dX5_put_86 (rfl)
          · refine lv_iload hx hb dX5_put_79 (lv_at hl 1 rfl) ?_
            refine rk_if_neB (tgt := 87) hx hb dX5_put_81 (by decide) (fun q => absurd gz (fun z => z.elim zc69 (fun z2 => z2.elim (fun z3 => z3 zc76) (fun z3 => absurd (z3.symm.trans q) (by decide))))) (fun zc81 => ?_)
            refine lv_bipush (v := (-2)) hx hb dX5_put_84 (by decide) ?_
            exact ret_i hQ hx hb hr hlocks (hP.sub [0] rfl) (hD.sub [0] (by decide) rfl) hS dX5_put_86 (rfl)
      · refine lv_lload hx hb dX5_put_14 (lv_at hl 0 rfl) ?_
        refine lv_ldc2 (v := 255) hx hb hown (hts _ cl151_X5_put) dX5_put_16 ?_
        refine lv_land hx hb dX5_put_19 ?_
        refine lv_lconst (v := 0) hx hb dX5_put_20 (by decide) ?_
        refine W.lcmp hx hb dX5_put_21 ?_
        refine rk_lcmp_eq (tgt := 68) hx hb dX5_put_22 (by decide) (fun zc22 => ?_) (fun zc22 => ?_)
        · have e8 : mcF x true 0 8 = (y, gd, cn) := by rw [he, mcF_z zc22]
          rw [e8] at gz
          refine lv_iload_n hx hb dX5_put_68 rfl (lv_at hl 2 rfl) ?_
          refine rk_if_eqN (tgt := 84) hx hb (by omega) dX5_put_69 (by decide) (fun zc69 => ?_) (fun zc69 => ?_)
          · refine lv_bipush (v := (-2)) hx hb dX5_put_84 (by decide) ?_
            exact ret_i hQ hx hb hr hlocks (hP.sub [0] rfl) (hD.sub [0] (by decide) rfl) hS dX5_put_86 (rfl)
          · refine lv_lload hx hb dX5_put_72 (lv_at hl 0 rfl) ?_
            refine lv_lconst (v := 0) hx hb dX5_put_74 (by decide) ?_
            refine W.lcmp hx hb dX5_put_75 ?_
            refine rk_lcmp_ne (tgt := 84) hx hb dX5_put_76 (by decide) (fun zc76 => ?_) (fun zc76 => ?_)
            · refine lv_bipush (v := (-2)) hx hb dX5_put_84 (by decide) ?_
              exact ret_i hQ hx hb hr hlocks (hP.sub [0] rfl) (hD.sub [0] (by decide) rfl) hS dX5_put_86 (rfl)
            · refine lv_iload hx hb dX5_put_79 (lv_at hl 1 rfl) ?_
              refine rk_if_neB (tgt := 87) hx hb dX5_put_81 (by decide) (fun q => absurd gz (fun z => z.elim zc69 (fun z2 => z2.elim (fun z3 => z3 zc76) (fun z3 => absurd (z3.symm.trans q) (by decide))))) (fun zc81 => ?_)
              refine lv_bipush (v := (-2)) hx hb dX5_put_84 (by decide) ?_
              exact ret_i hQ hx hb hr hlocks (hP.sub [0] rfl) (hD.sub [0] (by decide) rfl) hS dX5_put_86 (rfl)
        · refine lv_iload hx hb dX5_put_25 (lv_at hl 1 rfl) ?_
          refine rk_if_eqB (tgt := 52) hx hb dX5_put_27 (by decide) (fun zc27 => ?_) (fun zc27 => ?_)
          · refine lv_iconst (v := nI 0) hx hb dX5_put_52 (by decide) ?_
            refine lv_istore (lv' := [(4, .int (nI 0)), (5, .long y), (3, .int (nI cn)), (0, .ref mo), (1, .long x)]) hx hb dX5_put_53 hl (by decide) rfl (fun ls hl => ?_)
            refine lv_lload hx hb dX5_put_55 (lv_at hl 1 rfl) ?_
            refine lv_bipush (v := nI 8) hx hb dX5_put_57 (by decide) ?_
            refine lv_lushr hx hb dX5_put_59 rfl ?_
            refine lv_lstore (lv' := [(5, .long ((y.toUInt64 >>> ((nI 8).toInt64.toUInt64 &&& Int64.toUInt64 63)).toInt64)), (4, .int (nI 0)), (3, .int (nI cn)), (0, .ref mo), (1, .long x)]) hx hb dX5_put_60 hl (by decide) rfl (fun ls hl => ?_)
            refine lv_iinc (v := nI (cn + 1)) (lv' := [(3, .int (nI (cn + 1))), (5, .long ((y.toUInt64 >>> ((nI 8).toInt64.toUInt64 &&& Int64.toUInt64 63)).toInt64)), (4, .int (nI 0)), (0, .ref mo), (1, .long x)]) hx hb dX5_put_62 hl (k := 2) rfl (by rw [show Int32.ofInt 1 = nI 1 by decide]; exact nI_add _ _) (by decide) rfl (fun ls hl => ?_)
            refine lv_goto (tgt := 8) hx hb dX5_put_65 (by decide) ?_
            exact ih8 (cn + 1) false ((y.toUInt64 >>> ((nI 8).toInt64.toUInt64 &&& Int64.toUInt64 63)).toInt64) (by rw [he, mcF_s (show 8 - cn = (8 - (cn + 1)) + 1 by omega) zc22]; rw [zc27]; rfl) (by first | assumption | omega | rfl) (by omega) _ _ (hP.sub [0] rfl) (hD.sub [0] (by decide) rfl) hS ls (lv_sub hl [1, 2, 0, 3, 4] rfl)
          · refine lv_lload hx hb dX5_put_30 (lv_at hl 0 rfl) ?_
            refine lv_ldc2 (v := 255) hx hb hown (hts _ cl151_X5_put) dX5_put_32 ?_
            refine lv_land hx hb dX5_put_35 ?_
            refine lv_ldc2 (v := 33) hx hb hown (hts _ cl153_X5_put) dX5_put_36 ?_
            refine lv_ldc2 (v := 126) hx hb hown (hts _ cl155_X5_put) dX5_put_39 ?_
            refine kS_i (E := E) (As := [.long (y &&& ((255 : Int64))), .long ((33 : Int64)), .long ((126 : Int64))]) (rest := []) (wr := [(mo, .inr (5, [.ref mA, .ref mK, .ref mH, .int hy, .ref mS, .ref mV, .ref mF, .ref mP, .int pl, .int sp, .int nu, .ref mR, .int rm]))]) ⟨hx, hb, hml, hown, hts⟩ (c_X5_in (l := l) (E := E) (sz := _) (v := y &&& ((255 : Int64))) (lo9 := (33 : Int64)) (hi9 := (126 : Int64)) ) (cwS 3 hts gX5_put_X5_in rfl rfl rfl (by decide +kernel) ⟨by rw [hR]; decide, by rw [hR]; decide⟩) hK hN hP hD hS hA [] [0] rfl (by decide) rfl (by decide) (by decide) rfl hl.1 rfl (Nat.le_of_ble_eq_true rfl) dX5_put_42 ⟨Nat.zero_le _, Nat.zero_le _⟩ (fun H locs hP hD hS => ?_)
            have hP : va_P E.1 vwCl [(mo, .inr (5, [.ref mA, .ref mK, .ref mH, .int hy, .ref mS, .ref mV, .ref mF, .ref mP, .int pl, .int sp, .int nu, .ref mR, .int rm]))] H := hP
            have hD : va_D A [(mo, .inr (5, [.ref mA, .ref mK, .ref mH, .int hy, .ref mS, .ref mV, .ref mF, .ref mP, .int pl, .int sp, .int nu, .ref mR, .int rm]))] := hD
            refine rk_if_eqB (tgt := 52) hx hb dX5_put_45 (by decide) (fun zc45 => ?_) (fun zc45 => ?_)
            · refine lv_iconst (v := nI 0) hx hb dX5_put_52 (by decide) ?_
              refine lv_istore (lv' := [(4, .int (nI 0)), (5, .long y), (3, .int (nI cn)), (0, .ref mo), (1, .long x)]) hx hb dX5_put_53 hl (by decide) rfl (fun ls hl => ?_)
              refine lv_lload hx hb dX5_put_55 (lv_at hl 1 rfl) ?_
              refine lv_bipush (v := nI 8) hx hb dX5_put_57 (by decide) ?_
              refine lv_lushr hx hb dX5_put_59 rfl ?_
              refine lv_lstore (lv' := [(5, .long ((y.toUInt64 >>> ((nI 8).toInt64.toUInt64 &&& Int64.toUInt64 63)).toInt64)), (4, .int (nI 0)), (3, .int (nI cn)), (0, .ref mo), (1, .long x)]) hx hb dX5_put_60 hl (by decide) rfl (fun ls hl => ?_)
              refine lv_iinc (v := nI (cn + 1)) (lv' := [(3, .int (nI (cn + 1))), (5, .long ((y.toUInt64 >>> ((nI 8).toInt64.toUInt64 &&& Int64.toUInt64 63)).toInt64)), (4, .int (nI 0)), (0, .ref mo), (1, .long x)]) hx hb dX5_put_62 hl (k := 2) rfl (by rw [show Int32.ofInt 1 = nI 1 by decide]; exact nI_add _ _) (by decide) rfl (fun ls hl => ?_)
              refine lv_goto (tgt := 8) hx hb dX5_put_65 (by decide) ?_
              exact ih8 (cn + 1) false ((y.toUInt64 >>> ((nI 8).toInt64.toUInt64 &&& Int64.toUInt64 63)).toInt64) (by rw [he, mcF_s (show 8 - cn = (8 - (cn + 1)) + 1 by omega) zc22]; rw [zc27, zc45]; rfl) (by first | assumption | omega | rfl) (by omega) _ _ (hP.sub [0] rfl) (hD.sub [0] (by decide) rfl) hS ls (lv_sub hl [1, 2, 0, 3, 4] rfl)
            · refine lv_iconst (v := nI 1) hx hb dX5_put_48 (by decide) ?_
              refine lv_goto (tgt := 53) hx hb dX5_put_49 (by decide) ?_
              refine lv_istore (lv' := [(4, .int (nI 1)), (5, .long y), (3, .int (nI cn)), (0, .ref mo), (1, .long x)]) hx hb dX5_put_53 hl (by decide) rfl (fun ls hl => ?_)
              refine lv_lload hx hb dX5_put_55 (lv_at hl 1 rfl) ?_
              refine lv_bipush (v := nI 8) hx hb dX5_put_57 (by decide) ?_
              refine lv_lushr hx hb dX5_put_59 rfl ?_
              refine lv_lstore (lv' := [(5, .long ((y.toUInt64 >>> ((nI 8).toInt64.toUInt64 &&& Int64.toUInt64 63)).toInt64)), (4, .int (nI 1)), (3, .int (nI cn)), (0, .ref mo), (1, .long x)]) hx hb dX5_put_60 hl (by decide) rfl (fun ls hl => ?_)
              refine lv_iinc (v := nI (cn + 1)) (lv' := [(3, .int (nI (cn + 1))), (5, .long ((y.toUInt64 >>> ((nI 8).toInt64.toUInt64 &&& Int64.toUInt64 63)).toInt64)), (4, .int (nI 1)), (0, .ref mo), (1, .long x)]) hx hb dX5_put_62 hl (k := 2) rfl (by rw [show Int32.ofInt 1 = nI 1 by decide]; exact nI_add _ _) (by decide) rfl (fun ls hl => ?_)
              refine lv_goto (tgt := 8) hx hb dX5_put_65 (by decide) ?_
              exact ih8 (cn + 1) true ((y.toUInt64 >>> ((nI 8).toInt64.toUInt64 &&& Int64.toUInt64 63)).toInt64) (by rw [he, mcF_s (show 8 - cn = (8 - (cn + 1)) + 1 by omega) zc22]; rw [zc27, zc45]; rfl) (by first | assumption | omega | rfl) (by omega) _ _ (hP.sub [0] rfl) (hD.sub [0] (by decide) rfl) hS ls (lv_sub hl [1, 2, 0, 3, 4] rfl)
  exact L8 ((8 - 0) + 1) 0 true x (rfl) (by first | assumption | omega | rfl) (Nat.lt_succ_self _) _ _ (hP.sub [0] rfl) (hD.sub [0] (by decide) rfl) hS ls (lv_sub hl [0, 1, 2, 3, 4] rfl)
theorem iw_X5_put_5 : ∀ w ∈ u_ws RX5 TX5 13, w ∈ wsX5_put := by decide +kernel
theorem fl_X5_put_141 : Cond.fieldLink RX5 141 (TX5 8).1 (TX5 8).2.1 (TX5 8).2.2.1 ∈ wsX5_put := by decide +kernel
set_option maxHeartbeats 400000 in
set_option maxRecDepth 100000 in
theorem c_X5_put_many (l : Launch) (E : EE) (sz : Nat) (mo mA mK mH mS mV mF mP mR : Nat) (hy sp nu rm : Int32) (x : Int64) (L : Nat) (gz : ¬ (mcF x true 0 8).2.2 = 0) (gz1 : (mcF x true 0 8).1 = 0) (gz2 : (mcF x true 0 8).2.1 = true) (gL : L ≤ 80) (gm : 80 < L + (mcF x true 0 8).2.2) : Ci l yX5_put wsX5_put 1 25 E [.ref mo, .long x] [(mo, .inr (5, [.ref mA, .ref mK, .ref mH, .int hy, .ref mS, .ref mV, .ref mF, .ref mP, .int (nI L), .int sp, .int nu, .ref mR, .int rm]))] sz (-4) [(mo, .inr (5, [.ref mA, .ref mK, .ref mH, .int hy, .ref mS, .ref mV, .ref mF, .ref mP, .int (nI L), .int sp, .int nu, .ref mR, .int rm]))] := by
  refine C_of (QQ := QI E (-4) [(mo, .inr (5, [.ref mA, .ref mK, .ref mH, .int hy, .ref mS, .ref mV, .ref mF, .ref mP, .int (nI L), .int sp, .int nu, .ref mR, .int rm]))]) (cc := cX5_put) (maxL := 8) (ret := (some .int)) (by decide +kernel) rfl (Nat.le_of_ble_eq_true rfl) ?_
  intro p e s m args below meth c A R Q ls hx hb hr hts hown hml hlocks hA hK hN hP hD hS hl hR hQ
  have hown : s.vm.findClass RX5 = some m.cls := hown
  have hl : lv_has ls 8 [(0, .ref mo), (1, .long x)] := hl
  refine lv_iconst (v := nI 0) hx hb dX5_put_0 (by decide) ?_
  refine lv_istore_n (lv' := [(3, .int (nI 0)), (0, .ref mo), (1, .long x)]) hx hb dX5_put_1 rfl hl (by decide) rfl (fun ls hl => ?_)
  refine lv_iconst (v := nI 1) hx hb dX5_put_2 (by decide) ?_
  refine lv_istore (lv' := [(4, .int (nI 1)), (3, .int (nI 0)), (0, .ref mo), (1, .long x)]) hx hb dX5_put_3 hl (by decide) rfl (fun ls hl => ?_)
  refine lv_lload_n hx hb dX5_put_5 rfl (lv_at hl 3 rfl) ?_
  refine lv_lstore (lv' := [(5, .long x), (4, .int (nI 1)), (3, .int (nI 0)), (0, .ref mo), (1, .long x)]) hx hb dX5_put_6 hl (by decide) rfl (fun ls hl => ?_)
  have L8 : ∀ (fu : Nat) (cn : Nat) (gd : Bool) (y : Int64), (he : mcF x true 0 8 = mcF y gd cn (8 - cn)) → (gc : cn ≤ 8) → 8 - cn < fu → ∀ (H : Heap) (locs : List Loc), va_P E.1 vwCl [(mo, .inr (5, [.ref mA, .ref mK, .ref mH, .int hy, .ref mS, .ref mV, .ref mF, .ref mP, .int (nI L), .int sp, .int nu, .ref mR, .int rm]))] H → va_D A [(mo, .inr (5, [.ref mA, .ref mK, .ref mH, .int hy, .ref mS, .ref mV, .ref mF, .ref mP, .int (nI L), .int sp, .int nu, .ref mR, .int rm]))] → va_S A s.heap H locs → ∀ (ls : Array Slot), lv_has ls 8 [(5, .long y), (4, .int (b2i gd)), (3, .int (nI cn)), (0, .ref mo), (1, .long x)] → W p l e R s m args below meth c H locs 0 0 Q (F0 m 8 ls []) := by
    intro fu
    induction fu with
    | zero => intro cn gd y he gc hfu; exact absurd hfu (Nat.not_lt_zero _)
    | succ fu ih8 =>
      intro cn gd y he gc hfu H locs hP hD hS ls hl
      refine lv_iload_n hx hb dX5_put_8 rfl (lv_at hl 2 rfl) ?_
      refine lv_bipush (v := nI 8) hx hb dX5_put_9 (by decide) ?_
      refine rk_geN (tgt := 68) hx hb (by omega) (by omega) dX5_put_11 (by decide) (fun zc11 => ?_) (fun zc11 => ?_)
      · have e8 : mcF x true 0 8 = (y, gd, cn) := by rw [he, mcF_0 (by omega)]
        rw [e8] at gz gz1 gz2 gm
        have gz1 : y = 0 := gz1
        have gz2 : gd = true := gz2
        have gz : ¬ cn = 0 := gz
        have gm : 80 < L + cn := gm
        refine lv_iload_n hx hb dX5_put_68 rfl (lv_at hl 2 rfl) ?_
        refine rk_if_eqN (tgt := 84) hx hb (by omega) dX5_put_69 (by decide) (fun q => absurd q gz) (fun zc69 => ?_)
        refine lv_lload hx hb dX5_put_72 (lv_at hl 0 rfl) ?_
        refine lv_lconst (v := 0) hx hb dX5_put_74 (by decide) ?_
        refine W.lcmp hx hb dX5_put_75 ?_
        refine rk_lcmp_ne (tgt := 84) hx hb dX5_put_76 (by decide) (fun q => absurd gz1 q) (fun zc76 => ?_)
        refine lv_iload hx hb dX5_put_79 (lv_at hl 1 rfl) ?_
        refine rk_if_neB (tgt := 87) hx hb dX5_put_81 (by decide) (fun zc81 => ?_) (fun q => absurd (q.symm.trans gz2) (by decide))
        refine lv_aload_n hx hb dX5_put_87 rfl (lv_at hl 3 rfl) ?_
        refine rk_get (ci := 5) (C := RX5) (T := TX5) (N := 13) hx hb hts iw_X5_put_5 hown hK hP 0 rfl rfl 8 (by decide) fl_X5_put_141 rfl (v := .int (nI L)) rfl dX5_put_88 ?_
        refine lv_iload_n hx hb dX5_put_91 rfl (lv_at hl 2 rfl) ?_
        refine rk_iaddN hx hb dX5_put_92 ?_
        refine lv_bipush (v := nI 80) hx hb dX5_put_93 (by decide) ?_
        refine rk_leN (tgt := 101) hx hb (by omega) (by omega) dX5_put_95 (by decide) (fun q => absurd q (by omega)) (fun zc95 => ?_)
        refine lv_bipush (v := (-4)) hx hb dX5_put_98 (by decide) ?_
        exact ret_i hQ hx hb hr hlocks (hP.sub [0] rfl) (hD.sub [0] (by decide) rfl) hS dX5_put_100 (rfl)
      · refine lv_lload hx hb dX5_put_14 (lv_at hl 0 rfl) ?_
        refine lv_ldc2 (v := 255) hx hb hown (hts _ cl151_X5_put) dX5_put_16 ?_
        refine lv_land hx hb dX5_put_19 ?_
        refine lv_lconst (v := 0) hx hb dX5_put_20 (by decide) ?_
        refine W.lcmp hx hb dX5_put_21 ?_
        refine rk_lcmp_eq (tgt := 68) hx hb dX5_put_22 (by decide) (fun zc22 => ?_) (fun zc22 => ?_)
        · have e8 : mcF x true 0 8 = (y, gd, cn) := by rw [he, mcF_z zc22]
          rw [e8] at gz gz1 gz2 gm
          have gz1 : y = 0 := gz1
          have gz2 : gd = true := gz2
          have gz : ¬ cn = 0 := gz
          have gm : 80 < L + cn := gm
          refine lv_iload_n hx hb dX5_put_68 rfl (lv_at hl 2 rfl) ?_
          refine rk_if_eqN (tgt := 84) hx hb (by omega) dX5_put_69 (by decide) (fun q => absurd q gz) (fun zc69 => ?_)
          refine lv_lload hx hb dX5_put_72 (lv_at hl 0 rfl) ?_
          refine lv_lconst (v := 0) hx hb dX5_put_74 (by decide) ?_
          refine W.lcmp hx hb dX5_put_75 ?_
          refine rk_lcmp_ne (tgt := 84) hx hb dX5_put_76 (by decide) (fun q => absurd gz1 q) (fun zc76 => ?_)
          refine lv_iload hx hb dX5_put_79 (lv_at hl 1 rfl) ?_
          refine rk_if_neB (tgt := 87) hx hb dX5_put_81 (by decide) (fun zc81 => ?_) (fun q => absurd (q.symm.trans gz2) (by decide))
          refine lv_aload_n hx hb dX5_put_87 rfl (lv_at hl 3 rfl) ?_
          refine rk_get (ci := 5) (C := RX5) (T := TX5) (N := 13) hx hb hts iw_X5_put_5 hown hK hP 0 rfl rfl 8 (by decide) fl_X5_put_141 rfl (v := .int (nI L)) rfl dX5_put_88 ?_
          refine lv_iload_n hx hb dX5_put_91 rfl (lv_at hl 2 rfl) ?_
          refine rk_iaddN hx hb dX5_put_92 ?_
          refine lv_bipush (v := nI 80) hx hb dX5_put_93 (by decide) ?_
          refine rk_leN (tgt := 101) hx hb (by omega) (by omega) dX5_put_95 (by decide) (fun q => absurd q (by omega)) (fun zc95 => ?_)
          refine lv_bipush (v := (-4)) hx hb dX5_put_98 (by decide) ?_
          exact ret_i hQ hx hb hr hlocks (hP.sub [0] rfl) (hD.sub [0] (by decide) rfl) hS dX5_put_100 (rfl)
        · refine lv_iload hx hb dX5_put_25 (lv_at hl 1 rfl) ?_
          refine rk_if_eqB (tgt := 52) hx hb dX5_put_27 (by decide) (fun zc27 => ?_) (fun zc27 => ?_)
          · refine lv_iconst (v := nI 0) hx hb dX5_put_52 (by decide) ?_
            refine lv_istore (lv' := [(4, .int (nI 0)), (5, .long y), (3, .int (nI cn)), (0, .ref mo), (1, .long x)]) hx hb dX5_put_53 hl (by decide) rfl (fun ls hl => ?_)
            refine lv_lload hx hb dX5_put_55 (lv_at hl 1 rfl) ?_
            refine lv_bipush (v := nI 8) hx hb dX5_put_57 (by decide) ?_
            refine lv_lushr hx hb dX5_put_59 rfl ?_
            refine lv_lstore (lv' := [(5, .long ((y.toUInt64 >>> ((nI 8).toInt64.toUInt64 &&& Int64.toUInt64 63)).toInt64)), (4, .int (nI 0)), (3, .int (nI cn)), (0, .ref mo), (1, .long x)]) hx hb dX5_put_60 hl (by decide) rfl (fun ls hl => ?_)
            refine lv_iinc (v := nI (cn + 1)) (lv' := [(3, .int (nI (cn + 1))), (5, .long ((y.toUInt64 >>> ((nI 8).toInt64.toUInt64 &&& Int64.toUInt64 63)).toInt64)), (4, .int (nI 0)), (0, .ref mo), (1, .long x)]) hx hb dX5_put_62 hl (k := 2) rfl (by rw [show Int32.ofInt 1 = nI 1 by decide]; exact nI_add _ _) (by decide) rfl (fun ls hl => ?_)
            refine lv_goto (tgt := 8) hx hb dX5_put_65 (by decide) ?_
            exact ih8 (cn + 1) false ((y.toUInt64 >>> ((nI 8).toInt64.toUInt64 &&& Int64.toUInt64 63)).toInt64) (by rw [he, mcF_s (show 8 - cn = (8 - (cn + 1)) + 1 by omega) zc22]; rw [zc27]; rfl) (by first | assumption | omega | rfl) (by omega) _ _ (hP.sub [0] rfl) (hD.sub [0] (by decide) rfl) hS ls (lv_sub hl [1, 2, 0, 3, 4] rfl)
          · refine lv_lload hx hb dX5_put_30 (lv_at hl 0 rfl) ?_
            refine lv_ldc2 (v := 255) hx hb hown (hts _ cl151_X5_put) dX5_put_32 ?_
            refine lv_land hx hb dX5_put_35 ?_
            refine lv_ldc2 (v := 33) hx hb hown (hts _ cl153_X5_put) dX5_put_36 ?_
            refine lv_ldc2 (v := 126) hx hb hown (hts _ cl155_X5_put) dX5_put_39 ?_
            refine kS_i (E := E) (As := [.long (y &&& ((255 : Int64))), .long ((33 : Int64)), .long ((126 : Int64))]) (rest := []) (wr := [(mo, .inr (5, [.ref mA, .ref mK, .ref mH, .int hy, .ref mS, .ref mV, .ref mF, .ref mP, .int (nI L), .int sp, .int nu, .ref mR, .int rm]))]) ⟨hx, hb, hml, hown, hts⟩ (c_X5_in (l := l) (E := E) (sz := _) (v := y &&& ((255 : Int64))) (lo9 := (33 : Int64)) (hi9 := (126 : Int64)) ) (cwS 3 hts gX5_put_X5_in rfl rfl rfl (by decide +kernel) ⟨by rw [hR]; decide, by rw [hR]; decide⟩) hK hN hP hD hS hA [] [0] rfl (by decide) rfl (by decide) (by decide) rfl hl.1 rfl (Nat.le_of_ble_eq_true rfl) dX5_put_42 ⟨Nat.zero_le _, Nat.zero_le _⟩ (fun H locs hP hD hS => ?_)
            have hP : va_P E.1 vwCl [(mo, .inr (5, [.ref mA, .ref mK, .ref mH, .int hy, .ref mS, .ref mV, .ref mF, .ref mP, .int (nI L), .int sp, .int nu, .ref mR, .int rm]))] H := hP
            have hD : va_D A [(mo, .inr (5, [.ref mA, .ref mK, .ref mH, .int hy, .ref mS, .ref mV, .ref mF, .ref mP, .int (nI L), .int sp, .int nu, .ref mR, .int rm]))] := hD
            refine rk_if_eqB (tgt := 52) hx hb dX5_put_45 (by decide) (fun zc45 => ?_) (fun zc45 => ?_)
            · refine lv_iconst (v := nI 0) hx hb dX5_put_52 (by decide) ?_
              refine lv_istore (lv' := [(4, .int (nI 0)), (5, .long y), (3, .int (nI cn)), (0, .ref mo), (1, .long x)]) hx hb dX5_put_53 hl (by decide) rfl (fun ls hl => ?_)
              refine lv_lload hx hb dX5_put_55 (lv_at hl 1 rfl) ?_
              refine lv_bipush (v := nI 8) hx hb dX5_put_57 (by decide) ?_
              refine lv_lushr hx hb dX5_put_59 rfl ?_
              refine lv_lstore (lv' := [(5, .long ((y.toUInt64 >>> ((nI 8).toInt64.toUInt64 &&& Int64.toUInt64 63)).toInt64)), (4, .int (nI 0)), (3, .int (nI cn)), (0, .ref mo), (1, .long x)]) hx hb dX5_put_60 hl (by decide) rfl (fun ls hl => ?_)
              refine lv_iinc (v := nI (cn + 1)) (lv' := [(3, .int (nI (cn + 1))), (5, .long ((y.toUInt64 >>> ((nI 8).toInt64.toUInt64 &&& Int64.toUInt64 63)).toInt64)), (4, .int (nI 0)), (0, .ref mo), (1, .long x)]) hx hb dX5_put_62 hl (k := 2) rfl (by rw [show Int32.ofInt 1 = nI 1 by decide]; exact nI_add _ _) (by decide) rfl (fun ls hl => ?_)
              refine lv_goto (tgt := 8) hx hb dX5_put_65 (by decide) ?_
              exact ih8 (cn + 1) false ((y.toUInt64 >>> ((nI 8).toInt64.toUInt64 &&& Int64.toUInt64 63)).toInt64) (by rw [he, mcF_s (show 8 - cn = (8 - (cn + 1)) + 1 by omega) zc22]; rw [zc27, zc45]; rfl) (by first | assumption | omega | rfl) (by omega) _ _ (hP.sub [0] rfl) (hD.sub [0] (by decide) rfl) hS ls (lv_sub hl [1, 2, 0, 3, 4] rfl)
            · refine lv_iconst (v := nI 1) hx hb dX5_put_48 (by decide) ?_
              refine lv_goto (tgt := 53) hx hb dX5_put_49 (by decide) ?_
              refine lv_istore (lv' := [(4, .int (nI 1)), (5, .long y), (3, .int (nI cn)), (0, .ref mo), (1, .long x)]) hx hb dX5_put_53 hl (by decide) rfl (fun ls hl => ?_)
              refine lv_lload hx hb dX5_put_55 (lv_at hl 1 rfl) ?_
              refine lv_bipush (v := nI 8) hx hb dX5_put_57 (by decide) ?_
              refine lv_lushr hx hb dX5_put_59 rfl ?_
              refine lv_lstore (lv' := [(5, .long ((y.toUInt64 >>> ((nI 8).toInt64.toUInt64 &&& Int64.toUInt64 63)).toInt64)), (4, .int (nI 1)), (3, .int (nI cn)), (0, .ref mo), (1, .long x)]) hx hb dX5_put_60 hl (by decide) rfl (fun ls hl => ?_)
              refine lv_iinc (v := nI (cn + 1)) (lv' := [(3, .int (nI (cn + 1))), (5, .long ((y.toUInt64 >>> ((nI 8).toInt64.toUInt64 &&& Int64.toUInt64 63)).toInt64)), (4, .int (nI 1)), (0, .ref mo), (1, .long x)]) hx hb dX5_put_62 hl (k := 2) rfl (by rw [show Int32.ofInt 1 = nI 1 by decide]; exact nI_add _ _) (by decide) rfl (fun ls hl => ?_)
              refine lv_goto (tgt := 8) hx hb dX5_put_65 (by decide) ?_
              exact ih8 (cn + 1) true ((y.toUInt64 >>> ((nI 8).toInt64.toUInt64 &&& Int64.toUInt64 63)).toInt64) (by rw [he, mcF_s (show 8 - cn = (8 - (cn + 1)) + 1 by omega) zc22]; rw [zc27, zc45]; rfl) (by first | assumption | omega | rfl) (by omega) _ _ (hP.sub [0] rfl) (hD.sub [0] (by decide) rfl) hS ls (lv_sub hl [1, 2, 0, 3, 4] rfl)
  exact L8 ((8 - 0) + 1) 0 true x (rfl) (by first | assumption | omega | rfl) (Nat.lt_succ_self _) _ _ (hP.sub [0] rfl) (hD.sub [0] (by decide) rfl) hS ls (lv_sub hl [0, 1, 2, 3, 4] rfl)
theorem fl_X5_put_28 : Cond.fieldLink RX5 28 (TX5 7).1 (TX5 7).2.1 (TX5 7).2.2.1 ∈ wsX5_put := by decide +kernel
set_option maxHeartbeats 400000 in
set_option maxRecDepth 100000 in
theorem c_X5_put_ok (l : Launch) (E : EE) (sz : Nat) (mo mA mK mH mS mV mF mP mR : Nat) (hy sp nu rm : Int32) (x : Int64) (L : Nat) (P : Nat → Int32) (gz : ¬ (mcF x true 0 8).2.2 = 0) (gz1 : (mcF x true 0 8).1 = 0) (gz2 : (mcF x true 0 8).2.1 = true) (gm : L + (mcF x true 0 8).2.2 ≤ 80) : Ci l yX5_put wsX5_put 1 25 E [.ref mo, .long x] [(mo, .inr (5, [.ref mA, .ref mK, .ref mH, .int hy, .ref mS, .ref mV, .ref mF, .ref mP, .int (nI L), .int sp, .int nu, .ref mR, .int rm])), (mP, aI E 80 P)] sz (nI (L + (mcF x true 0 8).2.2)) [(mo, .inr (5, [.ref mA, .ref mK, .ref mH, .int hy, .ref mS, .ref mV, .ref mF, .ref mP, .int (nI (L + (mcF x true 0 8).2.2)), .int sp, .int nu, .ref mR, .int rm])), (mP, aI E 80 (apM P L x ((mcF x true 0 8).2.2) ((mcF x true 0 8).2.2)))] := by
  refine C_of (QQ := QI E (nI (L + (mcF x true 0 8).2.2)) [(mo, .inr (5, [.ref mA, .ref mK, .ref mH, .int hy, .ref mS, .ref mV, .ref mF, .ref mP, .int (nI (L + (mcF x true 0 8).2.2)), .int sp, .int nu, .ref mR, .int rm])), (mP, aI E 80 (apM P L x ((mcF x true 0 8).2.2) ((mcF x true 0 8).2.2)))]) (cc := cX5_put) (maxL := 8) (ret := (some .int)) (by decide +kernel) rfl (Nat.le_of_ble_eq_true rfl) ?_
  intro p e s m args below meth c A R Q ls hx hb hr hts hown hml hlocks hA hK hN hP hD hS hl hR hQ
  have hown : s.vm.findClass RX5 = some m.cls := hown
  have hl : lv_has ls 8 [(0, .ref mo), (1, .long x)] := hl
  refine lv_iconst (v := nI 0) hx hb dX5_put_0 (by decide) ?_
  refine lv_istore_n (lv' := [(3, .int (nI 0)), (0, .ref mo), (1, .long x)]) hx hb dX5_put_1 rfl hl (by decide) rfl (fun ls hl => ?_)
  refine lv_iconst (v := nI 1) hx hb dX5_put_2 (by decide) ?_
  refine lv_istore (lv' := [(4, .int (nI 1)), (3, .int (nI 0)), (0, .ref mo), (1, .long x)]) hx hb dX5_put_3 hl (by decide) rfl (fun ls hl => ?_)
  refine lv_lload_n hx hb dX5_put_5 rfl (lv_at hl 3 rfl) ?_
  refine lv_lstore (lv' := [(5, .long x), (4, .int (nI 1)), (3, .int (nI 0)), (0, .ref mo), (1, .long x)]) hx hb dX5_put_6 hl (by decide) rfl (fun ls hl => ?_)
  have L8 : ∀ (fu : Nat) (cn : Nat) (gd : Bool) (y : Int64), (he : mcF x true 0 8 = mcF y gd cn (8 - cn)) → (gc : cn ≤ 8) → 8 - cn < fu → ∀ (H : Heap) (locs : List Loc), va_P E.1 vwCl [(mo, .inr (5, [.ref mA, .ref mK, .ref mH, .int hy, .ref mS, .ref mV, .ref mF, .ref mP, .int (nI L), .int sp, .int nu, .ref mR, .int rm])), (mP, aI E 80 P)] H → va_D A [(mo, .inr (5, [.ref mA, .ref mK, .ref mH, .int hy, .ref mS, .ref mV, .ref mF, .ref mP, .int (nI L), .int sp, .int nu, .ref mR, .int rm])), (mP, aI E 80 P)] → va_S A s.heap H locs → ∀ (ls : Array Slot), lv_has ls 8 [(5, .long y), (4, .int (b2i gd)), (3, .int (nI cn)), (0, .ref mo), (1, .long x)] → W p l e R s m args below meth c H locs 0 0 Q (F0 m 8 ls []) := by
    intro fu
    induction fu with
    | zero => intro cn gd y he gc hfu; exact absurd hfu (Nat.not_lt_zero _)
    | succ fu ih8 =>
      intro cn gd y he gc hfu H locs hP hD hS ls hl
      refine lv_iload_n hx hb dX5_put_8 rfl (lv_at hl 2 rfl) ?_
      refine lv_bipush (v := nI 8) hx hb dX5_put_9 (by decide) ?_
      refine rk_geN (tgt := 68) hx hb (by omega) (by omega) dX5_put_11 (by decide) (fun zc11 => ?_) (fun zc11 => ?_)
      · have e8 : mcF x true 0 8 = (y, gd, cn) := by rw [he, mcF_0 (by omega)]
        rw [e8] at gz gz1 gz2 gm
        have gz1 : y = 0 := gz1
        have gz2 : gd = true := gz2
        have gz : ¬ cn = 0 := gz
        have gm : L + cn ≤ 80 := gm
        refine lv_iload_n hx hb dX5_put_68 rfl (lv_at hl 2 rfl) ?_
        refine rk_if_eqN (tgt := 84) hx hb (by omega) dX5_put_69 (by decide) (fun q => absurd q gz) (fun zc69 => ?_)
        refine lv_lload hx hb dX5_put_72 (lv_at hl 0 rfl) ?_
        refine lv_lconst (v := 0) hx hb dX5_put_74 (by decide) ?_
        refine W.lcmp hx hb dX5_put_75 ?_
        refine rk_lcmp_ne (tgt := 84) hx hb dX5_put_76 (by decide) (fun q => absurd gz1 q) (fun zc76 => ?_)
        refine lv_iload hx hb dX5_put_79 (lv_at hl 1 rfl) ?_
        refine rk_if_neB (tgt := 87) hx hb dX5_put_81 (by decide) (fun zc81 => ?_) (fun q => absurd (q.symm.trans gz2) (by decide))
        refine lv_aload_n hx hb dX5_put_87 rfl (lv_at hl 3 rfl) ?_
        refine rk_get (ci := 5) (C := RX5) (T := TX5) (N := 13) hx hb hts iw_X5_put_5 hown hK hP 0 rfl rfl 8 (by decide) fl_X5_put_141 rfl (v := .int (nI L)) rfl dX5_put_88 ?_
        refine lv_iload_n hx hb dX5_put_91 rfl (lv_at hl 2 rfl) ?_
        refine rk_iaddN hx hb dX5_put_92 ?_
        refine lv_bipush (v := nI 80) hx hb dX5_put_93 (by decide) ?_
        refine rk_leN (tgt := 101) hx hb (by omega) (by omega) dX5_put_95 (by decide) (fun zc95 => ?_) (fun q => absurd q (by omega))
        refine lv_iload_n hx hb dX5_put_101 rfl (lv_at hl 2 rfl) ?_
        refine lv_iconst (v := nI 1) hx hb dX5_put_102 (by decide) ?_
        refine rk_isubN hx hb (by omega) dX5_put_103 ?_
        refine lv_istore (lv' := [(7, .int (nI (cn - 1))), (5, .long y), (4, .int (b2i gd)), (3, .int (nI cn)), (0, .ref mo), (1, .long x)]) hx hb dX5_put_104 hl (by decide) rfl (fun ls hl => ?_)
        have L106 : ∀ (fu : Nat) (t L2 : Nat) (lf : Int32) (f : Nat → Int32), (el : lf = nI t - 1) → (eL : L2 = L + (cn - t)) → (gt : t ≤ cn) → (ef : f = apM P L x cn (cn - t)) → t < fu → ∀ (H : Heap) (locs : List Loc), va_P E.1 vwCl [(mo, .inr (5, [.ref mA, .ref mK, .ref mH, .int hy, .ref mS, .ref mV, .ref mF, .ref mP, .int (nI L2), .int sp, .int nu, .ref mR, .int rm])), (mP, aI E 80 f)] H → va_D A [(mo, .inr (5, [.ref mA, .ref mK, .ref mH, .int hy, .ref mS, .ref mV, .ref mF, .ref mP, .int (nI L2), .int sp, .int nu, .ref mR, .int rm])), (mP, aI E 80 f)] → va_S A s.heap H locs → ∀ (ls : Array Slot), lv_has ls 8 [(7, .int lf), (5, .long y), (4, .int (b2i gd)), (3, .int (nI cn)), (0, .ref mo), (1, .long x)] → W p l e R s m args below meth c H locs 0 0 Q (F0 m 106 ls []) := by
          intro fu
          induction fu with
          | zero => intro t L2 lf f el eL gt ef hfu; exact absurd hfu (Nat.not_lt_zero _)
          | succ fu ih106 =>
            intro t L2 lf f el eL gt ef hfu H locs hP hD hS ls hl
            rcases t with _ | t
            · subst el
              rw [show nI 0 - 1 = (-1 : Int32) by decide] at hl
              refine lv_iload hx hb dX5_put_106 (lv_at hl 0 rfl) ?_
              refine lv_if_lt (tgt := 148) hx hb dX5_put_108 (by decide) (fun _ => ?_) (fun q => absurd q (by decide))
              refine lv_aload_n hx hb dX5_put_148 rfl (lv_at hl 4 rfl) ?_
              refine rk_get (ci := 5) (C := RX5) (T := TX5) (N := 13) hx hb hts iw_X5_put_5 hown hK hP 0 rfl rfl 8 (by decide) fl_X5_put_141 rfl (v := .int (nI L2)) rfl dX5_put_149 ?_
              have hP9 : va_P E.1 vwCl [(mo, .inr (5, [.ref mA, .ref mK, .ref mH, .int hy, .ref mS, .ref mV, .ref mF, .ref mP, .int (nI L2), .int sp, .int nu, .ref mR, .int rm])), (mP, aI E 80 f)] _ := hP.sub [0, 1] rfl
              have hD9 : va_D A [(mo, .inr (5, [.ref mA, .ref mK, .ref mH, .int hy, .ref mS, .ref mV, .ref mF, .ref mP, .int (nI L2), .int sp, .int nu, .ref mR, .int rm])), (mP, aI E 80 f)] := hD.sub [0, 1] (by decide) rfl
              have hW9 : ([(mo, .inr (5, [.ref mA, .ref mK, .ref mH, .int hy, .ref mS, .ref mV, .ref mF, .ref mP, .int (nI L2), .int sp, .int nu, .ref mR, .int rm])), (mP, aI E 80 f)] : va_W) = [(mo, .inr (5, [.ref mA, .ref mK, .ref mH, .int hy, .ref mS, .ref mV, .ref mF, .ref mP, .int (nI (L + (mcF x true 0 8).2.2)), .int sp, .int nu, .ref mR, .int rm])), (mP, aI E 80 (apM P L x ((mcF x true 0 8).2.2) ((mcF x true 0 8).2.2)))] := by subst ef; rw [eL, e8]; rfl
              rw [hW9] at hP9 hD9
              exact ret_i hQ hx hb hr hlocks hP9 hD9 hS dX5_put_152 (by rw [eL, e8]; rfl)
            · subst el
              rw [nI_pred] at hl
              refine lv_iload hx hb dX5_put_106 (lv_at hl 0 rfl) ?_
              refine rk_if_ltN (tgt := 148) hx hb (by omega) dX5_put_108 (by decide) ?_
              refine lv_aload_n hx hb dX5_put_111 rfl (lv_at hl 4 rfl) ?_
              refine rk_get (ci := 5) (C := RX5) (T := TX5) (N := 13) hx hb hts iw_X5_put_5 hown hK hP 0 rfl rfl 7 (by decide) fl_X5_put_28 rfl (v := .ref mP) rfl dX5_put_112 ?_
              refine lv_aload_n hx hb dX5_put_115 rfl (lv_at hl 4 rfl) ?_
              refine rk_get (ci := 5) (C := RX5) (T := TX5) (N := 13) hx hb hts iw_X5_put_5 hown hK hP 0 rfl rfl 8 (by decide) fl_X5_put_141 rfl (v := .int (nI L2)) rfl dX5_put_116 ?_
              refine lv_lload_n hx hb dX5_put_119 rfl (lv_at hl 5 rfl) ?_
              refine lv_bipush (v := nI 8) hx hb dX5_put_120 (by decide) ?_
              refine lv_iload hx hb dX5_put_122 (lv_at hl 0 rfl) ?_
              refine rk_imulN hx hb dX5_put_124 ?_
              refine lv_lushr hx hb dX5_put_125 rfl ?_
              refine lv_ldc2 (v := 255) hx hb hown (hts _ cl151_X5_put) dX5_put_126 ?_
              refine lv_land hx hb dX5_put_129 ?_
              refine lv_l2i hx hb dX5_put_130 rfl ?_
              refine rk_iast hx hb hK hP hD hS 1 rfl (by omega) (by omega) (ws' := [(mo, .inr (5, [.ref mA, .ref mK, .ref mH, .int hy, .ref mS, .ref mV, .ref mF, .ref mP, .int (nI L2), .int sp, .int nu, .ref mR, .int rm])), (mP, aI E 80 (upd f L2 ((((x.toUInt64 >>> ((nI (8 * t)).toInt64.toUInt64 &&& Int64.toUInt64 63)).toInt64) &&& ((255 : Int64))).toInt32)))]) rfl dX5_put_131 (fun H locs hP hD hS => ?_)
              refine lv_aload_n hx hb dX5_put_132 rfl (lv_at hl 4 rfl) ?_
              refine lv_dup hx hb dX5_put_133 rfl ?_
              refine rk_get (ci := 5) (C := RX5) (T := TX5) (N := 13) hx hb hts iw_X5_put_5 hown hK hP 0 rfl rfl 8 (by decide) fl_X5_put_141 rfl (v := .int (nI L2)) rfl dX5_put_134 ?_
              refine lv_iconst (v := nI 1) hx hb dX5_put_137 (by decide) ?_
              refine rk_iaddN hx hb dX5_put_138 ?_
              refine rk_put (ci := 5) (C := RX5) (T := TX5) (N := 13) hx hb hts iw_X5_put_5 tyX5 tyX5_ok nmX5 hown hK hP hD hS 0 rfl rfl 8 (by decide) fl_X5_put_141 rfl rfl (tyX5_ok 8 (by decide)) rfl rfl (Nat.le_of_ble_eq_true rfl) (ws' := [(mo, .inr (5, [.ref mA, .ref mK, .ref mH, .int hy, .ref mS, .ref mV, .ref mF, .ref mP, .int (nI (L2 + 1)), .int sp, .int nu, .ref mR, .int rm])), (mP, aI E 80 (upd f L2 ((((x.toUInt64 >>> ((nI (8 * t)).toInt64.toUInt64 &&& Int64.toUInt64 63)).toInt64) &&& ((255 : Int64))).toInt32)))]) rfl dX5_put_139 (fun H locs hP hD hS => ?_)
              refine lv_iinc (v := (nI t) - 1) (lv' := [(7, .int ((nI t) - 1)), (5, .long y), (4, .int (b2i gd)), (3, .int (nI cn)), (0, .ref mo), (1, .long x)]) hx hb dX5_put_142 hl (k := 0) rfl (by rw [show Int32.ofInt (-1) = -1 by decide, Int32.sub_eq_add_neg]) (by decide) rfl (fun ls hl => ?_)
              refine lv_goto (tgt := 106) hx hb dX5_put_145 (by decide) ?_
              exact ih106 t (L2 + 1) ((nI t) - 1) (upd f L2 ((((x.toUInt64 >>> ((nI (8 * t)).toInt64.toUInt64 &&& Int64.toUInt64 63)).toInt64) &&& ((255 : Int64))).toInt32)) (rfl) (by first | assumption | omega | rfl) (by first | assumption | omega | rfl) (by subst ef; rw [eL, show cn - t = cn - (t + 1) + 1 by omega]; simp only [apM]; rw [show cn - 1 - (cn - (t + 1)) = t by omega]; rfl) (by omega) _ _ (hP.sub [0, 1] rfl) (hD.sub [0, 1] (by decide) rfl) hS ls (lv_sub hl [0, 1, 2, 3, 4, 5] rfl)
        exact L106 ((cn) + 1) cn L (nI (cn - 1)) P (by have h := nI_pred (cn - 1); rw [show cn - 1 + 1 = cn by omega] at h; exact h.symm) (by first | assumption | omega | rfl) (by first | assumption | omega | rfl) (by rw [Nat.sub_self]; rfl) (Nat.lt_succ_self _) _ _ (hP.sub [0, 1] rfl) (hD.sub [0, 1] (by decide) rfl) hS ls (lv_sub hl [0, 1, 2, 3, 4, 5] rfl)
      · refine lv_lload hx hb dX5_put_14 (lv_at hl 0 rfl) ?_
        refine lv_ldc2 (v := 255) hx hb hown (hts _ cl151_X5_put) dX5_put_16 ?_
        refine lv_land hx hb dX5_put_19 ?_
        refine lv_lconst (v := 0) hx hb dX5_put_20 (by decide) ?_
        refine W.lcmp hx hb dX5_put_21 ?_
        refine rk_lcmp_eq (tgt := 68) hx hb dX5_put_22 (by decide) (fun zc22 => ?_) (fun zc22 => ?_)
        · have e8 : mcF x true 0 8 = (y, gd, cn) := by rw [he, mcF_z zc22]
          rw [e8] at gz gz1 gz2 gm
          have gz1 : y = 0 := gz1
          have gz2 : gd = true := gz2
          have gz : ¬ cn = 0 := gz
          have gm : L + cn ≤ 80 := gm
          refine lv_iload_n hx hb dX5_put_68 rfl (lv_at hl 2 rfl) ?_
          refine rk_if_eqN (tgt := 84) hx hb (by omega) dX5_put_69 (by decide) (fun q => absurd q gz) (fun zc69 => ?_)
          refine lv_lload hx hb dX5_put_72 (lv_at hl 0 rfl) ?_
          refine lv_lconst (v := 0) hx hb dX5_put_74 (by decide) ?_
          refine W.lcmp hx hb dX5_put_75 ?_
          refine rk_lcmp_ne (tgt := 84) hx hb dX5_put_76 (by decide) (fun q => absurd gz1 q) (fun zc76 => ?_)
          refine lv_iload hx hb dX5_put_79 (lv_at hl 1 rfl) ?_
          refine rk_if_neB (tgt := 87) hx hb dX5_put_81 (by decide) (fun zc81 => ?_) (fun q => absurd (q.symm.trans gz2) (by decide))
          refine lv_aload_n hx hb dX5_put_87 rfl (lv_at hl 3 rfl) ?_
          refine rk_get (ci := 5) (C := RX5) (T := TX5) (N := 13) hx hb hts iw_X5_put_5 hown hK hP 0 rfl rfl 8 (by decide) fl_X5_put_141 rfl (v := .int (nI L)) rfl dX5_put_88 ?_
          refine lv_iload_n hx hb dX5_put_91 rfl (lv_at hl 2 rfl) ?_
          refine rk_iaddN hx hb dX5_put_92 ?_
          refine lv_bipush (v := nI 80) hx hb dX5_put_93 (by decide) ?_
          refine rk_leN (tgt := 101) hx hb (by omega) (by omega) dX5_put_95 (by decide) (fun zc95 => ?_) (fun q => absurd q (by omega))
          refine lv_iload_n hx hb dX5_put_101 rfl (lv_at hl 2 rfl) ?_
          refine lv_iconst (v := nI 1) hx hb dX5_put_102 (by decide) ?_
          refine rk_isubN hx hb (by omega) dX5_put_103 ?_
          refine lv_istore (lv' := [(7, .int (nI (cn - 1))), (5, .long y), (4, .int (b2i gd)), (3, .int (nI cn)), (0, .ref mo), (1, .long x)]) hx hb dX5_put_104 hl (by decide) rfl (fun ls hl => ?_)
          have L106 : ∀ (fu : Nat) (t L2 : Nat) (lf : Int32) (f : Nat → Int32), (el : lf = nI t - 1) → (eL : L2 = L + (cn - t)) → (gt : t ≤ cn) → (ef : f = apM P L x cn (cn - t)) → t < fu → ∀ (H : Heap) (locs : List Loc), va_P E.1 vwCl [(mo, .inr (5, [.ref mA, .ref mK, .ref mH, .int hy, .ref mS, .ref mV, .ref mF, .ref mP, .int (nI L2), .int sp, .int nu, .ref mR, .int rm])), (mP, aI E 80 f)] H → va_D A [(mo, .inr (5, [.ref mA, .ref mK, .ref mH, .int hy, .ref mS, .ref mV, .ref mF, .ref mP, .int (nI L2), .int sp, .int nu, .ref mR, .int rm])), (mP, aI E 80 f)] → va_S A s.heap H locs → ∀ (ls : Array Slot), lv_has ls 8 [(7, .int lf), (5, .long y), (4, .int (b2i gd)), (3, .int (nI cn)), (0, .ref mo), (1, .long x)] → W p l e R s m args below meth c H locs 0 0 Q (F0 m 106 ls []) := by
            intro fu
            induction fu with
            | zero => intro t L2 lf f el eL gt ef hfu; exact absurd hfu (Nat.not_lt_zero _)
            | succ fu ih106 =>
              intro t L2 lf f el eL gt ef hfu H locs hP hD hS ls hl
              rcases t with _ | t
              · subst el
                rw [show nI 0 - 1 = (-1 : Int32) by decide] at hl
                refine lv_iload hx hb dX5_put_106 (lv_at hl 0 rfl) ?_
                refine lv_if_lt (tgt := 148) hx hb dX5_put_108 (by decide) (fun _ => ?_) (fun q => absurd q (by decide))
                refine lv_aload_n hx hb dX5_put_148 rfl (lv_at hl 4 rfl) ?_
                refine rk_get (ci := 5) (C := RX5) (T := TX5) (N := 13) hx hb hts iw_X5_put_5 hown hK hP 0 rfl rfl 8 (by decide) fl_X5_put_141 rfl (v := .int (nI L2)) rfl dX5_put_149 ?_
                have hP9 : va_P E.1 vwCl [(mo, .inr (5, [.ref mA, .ref mK, .ref mH, .int hy, .ref mS, .ref mV, .ref mF, .ref mP, .int (nI L2), .int sp, .int nu, .ref mR, .int rm])), (mP, aI E 80 f)] _ := hP.sub [0, 1] rfl
                have hD9 : va_D A [(mo, .inr (5, [.ref mA, .ref mK, .ref mH, .int hy, .ref mS, .ref mV, .ref mF, .ref mP, .int (nI L2), .int sp, .int nu, .ref mR, .int rm])), (mP, aI E 80 f)] := hD.sub [0, 1] (by decide) rfl
                have hW9 : ([(mo, .inr (5, [.ref mA, .ref mK, .ref mH, .int hy, .ref mS, .ref mV, .ref mF, .ref mP, .int (nI L2), .int sp, .int nu, .ref mR, .int rm])), (mP, aI E 80 f)] : va_W) = [(mo, .inr (5, [.ref mA, .ref mK, .ref mH, .int hy, .ref mS, .ref mV, .ref mF, .ref mP, .int (nI (L + (mcF x true 0 8).2.2)), .int sp, .int nu, .ref mR, .int rm])), (mP, aI E 80 (apM P L x ((mcF x true 0 8).2.2) ((mcF x true 0 8).2.2)))] := by subst ef; rw [eL, e8]; rfl
                rw [hW9] at hP9 hD9
                exact ret_i hQ hx hb hr hlocks hP9 hD9 hS dX5_put_152 (by rw [eL, e8]; rfl)
              · subst el
                rw [nI_pred] at hl
                refine lv_iload hx hb dX5_put_106 (lv_at hl 0 rfl) ?_
                refine rk_if_ltN (tgt := 148) hx hb (by omega) dX5_put_108 (by decide) ?_
                refine lv_aload_n hx hb dX5_put_111 rfl (lv_at hl 4 rfl) ?_
                refine rk_get (ci := 5) (C := RX5) (T := TX5) (N := 13) hx hb hts iw_X5_put_5 hown hK hP 0 rfl rfl 7 (by decide) fl_X5_put_28 rfl (v := .ref mP) rfl dX5_put_112 ?_
                refine lv_aload_n hx hb dX5_put_115 rfl (lv_at hl 4 rfl) ?_
                refine rk_get (ci := 5) (C := RX5) (T := TX5) (N := 13) hx hb hts iw_X5_put_5 hown hK hP 0 rfl rfl 8 (by decide) fl_X5_put_141 rfl (v := .int (nI L2)) rfl dX5_put_116 ?_
                refine lv_lload_n hx hb dX5_put_119 rfl (lv_at hl 5 rfl) ?_
                refine lv_bipush (v := nI 8) hx hb dX5_put_120 (by decide) ?_
                refine lv_iload hx hb dX5_put_122 (lv_at hl 0 rfl) ?_
                refine rk_imulN hx hb dX5_put_124 ?_
                refine lv_lushr hx hb dX5_put_125 rfl ?_
                refine lv_ldc2 (v := 255) hx hb hown (hts _ cl151_X5_put) dX5_put_126 ?_
                refine lv_land hx hb dX5_put_129 ?_
                refine lv_l2i hx hb dX5_put_130 rfl ?_
                refine rk_iast hx hb hK hP hD hS 1 rfl (by omega) (by omega) (ws' := [(mo, .inr (5, [.ref mA, .ref mK, .ref mH, .int hy, .ref mS, .ref mV, .ref mF, .ref mP, .int (nI L2), .int sp, .int nu, .ref mR, .int rm])), (mP, aI E 80 (upd f L2 ((((x.toUInt64 >>> ((nI (8 * t)).toInt64.toUInt64 &&& Int64.toUInt64 63)).toInt64) &&& ((255 : Int64))).toInt32)))]) rfl dX5_put_131 (fun H locs hP hD hS => ?_)
                refine lv_aload_n hx hb dX5_put_132 rfl (lv_at hl 4 rfl) ?_
                refine lv_dup hx hb dX5_put_133 rfl ?_
                refine rk_get (ci := 5) (C := RX5) (T := TX5) (N := 13) hx hb hts iw_X5_put_5 hown hK hP 0 rfl rfl 8 (by decide) fl_X5_put_141 rfl (v := .int (nI L2)) rfl dX5_put_134 ?_
                refine lv_iconst (v := nI 1) hx hb dX5_put_137 (by decide) ?_
                refine rk_iaddN hx hb dX5_put_138 ?_
                refine rk_put (ci := 5) (C := RX5) (T := TX5) (N := 13) hx hb hts iw_X5_put_5 tyX5 tyX5_ok nmX5 hown hK hP hD hS 0 rfl rfl 8 (by decide) fl_X5_put_141 rfl rfl (tyX5_ok 8 (by decide)) rfl rfl (Nat.le_of_ble_eq_true rfl) (ws' := [(mo, .inr (5, [.ref mA, .ref mK, .ref mH, .int hy, .ref mS, .ref mV, .ref mF, .ref mP, .int (nI (L2 + 1)), .int sp, .int nu, .ref mR, .int rm])), (mP, aI E 80 (upd f L2 ((((x.toUInt64 >>> ((nI (8 * t)).toInt64.toUInt64 &&& Int64.toUInt64 63)).toInt64) &&& ((255 : Int64))).toInt32)))]) rfl dX5_put_139 (fun H locs hP hD hS => ?_)
                refine lv_iinc (v := (nI t) - 1) (lv' := [(7, .int ((nI t) - 1)), (5, .long y), (4, .int (b2i gd)), (3, .int (nI cn)), (0, .ref mo), (1, .long x)]) hx hb dX5_put_142 hl (k := 0) rfl (by rw [show Int32.ofInt (-1) = -1 by decide, Int32.sub_eq_add_neg]) (by decide) rfl (fun ls hl => ?_)
                refine lv_goto (tgt := 106) hx hb dX5_put_145 (by decide) ?_
                exact ih106 t (L2 + 1) ((nI t) - 1) (upd f L2 ((((x.toUInt64 >>> ((nI (8 * t)).toInt64.toUInt64 &&& Int64.toUInt64 63)).toInt64) &&& ((255 : Int64))).toInt32)) (rfl) (by first | assumption | omega | rfl) (by first | assumption | omega | rfl) (by subst ef; rw [eL, show cn - t = cn - (t + 1) + 1 by omega]; simp only [apM]; rw [show cn - 1 - (cn - (t + 1)) = t by omega]; rfl) (by omega) _ _ (hP.sub [0, 1] rfl) (hD.sub [0, 1] (by decide) rfl) hS ls (lv_sub hl [0, 1, 2, 3, 4, 5] rfl)
          exact L106 ((cn) + 1) cn L (nI (cn - 1)) P (by have h := nI_pred (cn - 1); rw [show cn - 1 + 1 = cn by omega] at h; exact h.symm) (by first | assumption | omega | rfl) (by first | assumption | omega | rfl) (by rw [Nat.sub_self]; rfl) (Nat.lt_succ_self _) _ _ (hP.sub [0, 1] rfl) (hD.sub [0, 1] (by decide) rfl) hS ls (lv_sub hl [0, 1, 2, 3, 4, 5] rfl)
        · refine lv_iload hx hb dX5_put_25 (lv_at hl 1 rfl) ?_
          refine rk_if_eqB (tgt := 52) hx hb dX5_put_27 (by decide) (fun zc27 => ?_) (fun zc27 => ?_)
          · refine lv_iconst (v := nI 0) hx hb dX5_put_52 (by decide) ?_
            refine lv_istore (lv' := [(4, .int (nI 0)), (5, .long y), (3, .int (nI cn)), (0, .ref mo), (1, .long x)]) hx hb dX5_put_53 hl (by decide) rfl (fun ls hl => ?_)
            refine lv_lload hx hb dX5_put_55 (lv_at hl 1 rfl) ?_
            refine lv_bipush (v := nI 8) hx hb dX5_put_57 (by decide) ?_
            refine lv_lushr hx hb dX5_put_59 rfl ?_
            refine lv_lstore (lv' := [(5, .long ((y.toUInt64 >>> ((nI 8).toInt64.toUInt64 &&& Int64.toUInt64 63)).toInt64)), (4, .int (nI 0)), (3, .int (nI cn)), (0, .ref mo), (1, .long x)]) hx hb dX5_put_60 hl (by decide) rfl (fun ls hl => ?_)
            refine lv_iinc (v := nI (cn + 1)) (lv' := [(3, .int (nI (cn + 1))), (5, .long ((y.toUInt64 >>> ((nI 8).toInt64.toUInt64 &&& Int64.toUInt64 63)).toInt64)), (4, .int (nI 0)), (0, .ref mo), (1, .long x)]) hx hb dX5_put_62 hl (k := 2) rfl (by rw [show Int32.ofInt 1 = nI 1 by decide]; exact nI_add _ _) (by decide) rfl (fun ls hl => ?_)
            refine lv_goto (tgt := 8) hx hb dX5_put_65 (by decide) ?_
            exact ih8 (cn + 1) false ((y.toUInt64 >>> ((nI 8).toInt64.toUInt64 &&& Int64.toUInt64 63)).toInt64) (by rw [he, mcF_s (show 8 - cn = (8 - (cn + 1)) + 1 by omega) zc22]; rw [zc27]; rfl) (by first | assumption | omega | rfl) (by omega) _ _ (hP.sub [0, 1] rfl) (hD.sub [0, 1] (by decide) rfl) hS ls (lv_sub hl [1, 2, 0, 3, 4] rfl)
          · refine lv_lload hx hb dX5_put_30 (lv_at hl 0 rfl) ?_
            refine lv_ldc2 (v := 255) hx hb hown (hts _ cl151_X5_put) dX5_put_32 ?_
            refine lv_land hx hb dX5_put_35 ?_
            refine lv_ldc2 (v := 33) hx hb hown (hts _ cl153_X5_put) dX5_put_36 ?_
            refine lv_ldc2 (v := 126) hx hb hown (hts _ cl155_X5_put) dX5_put_39 ?_
            refine kS_i (E := E) (As := [.long (y &&& ((255 : Int64))), .long ((33 : Int64)), .long ((126 : Int64))]) (rest := []) (wr := [(mo, .inr (5, [.ref mA, .ref mK, .ref mH, .int hy, .ref mS, .ref mV, .ref mF, .ref mP, .int (nI L), .int sp, .int nu, .ref mR, .int rm])), (mP, aI E 80 P)]) ⟨hx, hb, hml, hown, hts⟩ (c_X5_in (l := l) (E := E) (sz := _) (v := y &&& ((255 : Int64))) (lo9 := (33 : Int64)) (hi9 := (126 : Int64)) ) (cwS 3 hts gX5_put_X5_in rfl rfl rfl (by decide +kernel) ⟨by rw [hR]; decide, by rw [hR]; decide⟩) hK hN hP hD hS hA [] [0, 1] rfl (by decide) rfl (by decide) (by decide) rfl hl.1 rfl (Nat.le_of_ble_eq_true rfl) dX5_put_42 ⟨Nat.zero_le _, Nat.zero_le _⟩ (fun H locs hP hD hS => ?_)
            have hP : va_P E.1 vwCl [(mo, .inr (5, [.ref mA, .ref mK, .ref mH, .int hy, .ref mS, .ref mV, .ref mF, .ref mP, .int (nI L), .int sp, .int nu, .ref mR, .int rm])), (mP, aI E 80 P)] H := hP
            have hD : va_D A [(mo, .inr (5, [.ref mA, .ref mK, .ref mH, .int hy, .ref mS, .ref mV, .ref mF, .ref mP, .int (nI L), .int sp, .int nu, .ref mR, .int rm])), (mP, aI E 80 P)] := hD
            refine rk_if_eqB (tgt := 52) hx hb dX5_put_45 (by decide) (fun zc45 => ?_) (fun zc45 => ?_)
            · refine lv_iconst (v := nI 0) hx hb dX5_put_52 (by decide) ?_
              refine lv_istore (lv' := [(4, .int (nI 0)), (5, .long y), (3, .int (nI cn)), (0, .ref mo), (1, .long x)]) hx hb dX5_put_53 hl (by decide) rfl (fun ls hl => ?_)
              refine lv_lload hx hb dX5_put_55 (lv_at hl 1 rfl) ?_
              refine lv_bipush (v := nI 8) hx hb dX5_put_57 (by decide) ?_
              refine lv_lushr hx hb dX5_put_59 rfl ?_
              refine lv_lstore (lv' := [(5, .long ((y.toUInt64 >>> ((nI 8).toInt64.toUInt64 &&& Int64.toUInt64 63)).toInt64)), (4, .int (nI 0)), (3, .int (nI cn)), (0, .ref mo), (1, .long x)]) hx hb dX5_put_60 hl (by decide) rfl (fun ls hl => ?_)
              refine lv_iinc (v := nI (cn + 1)) (lv' := [(3, .int (nI (cn + 1))), (5, .long ((y.toUInt64 >>> ((nI 8).toInt64.toUInt64 &&& Int64.toUInt64 63)).toInt64)), (4, .int (nI 0)), (0, .ref mo), (1, .long x)]) hx hb dX5_put_62 hl (k := 2) rfl (by rw [show Int32.ofInt 1 = nI 1 by decide]; exact nI_add _ _) (by decide) rfl (fun ls hl => ?_)
              refine lv_goto (tgt := 8) hx hb dX5_put_65 (by decide) ?_
              exact ih8 (cn + 1) false ((y.toUInt64 >>> ((nI 8).toInt64.toUInt64 &&& Int64.toUInt64 63)).toInt64) (by rw [he, mcF_s (show 8 - cn = (8 - (cn + 1)) + 1 by omega) zc22]; rw [zc27, zc45]; rfl) (by first | assumption | omega | rfl) (by omega) _ _ (hP.sub [0, 1] rfl) (hD.sub [0, 1] (by decide) rfl) hS ls (lv_sub hl [1, 2, 0, 3, 4] rfl)
            · refine lv_iconst (v := nI 1) hx hb dX5_put_48 (by decide) ?_
              refine lv_goto (tgt := 53) hx hb dX5_put_49 (by decide) ?_
              refine lv_istore (lv' := [(4, .int (nI 1)), (5, .long y), (3, .int (nI cn)), (0, .ref mo), (1, .long x)]) hx hb dX5_put_53 hl (by decide) rfl (fun ls hl => ?_)
              refine lv_lload hx hb dX5_put_55 (lv_at hl 1 rfl) ?_
              refine lv_bipush (v := nI 8) hx hb dX5_put_57 (by decide) ?_
              refine lv_lushr hx hb dX5_put_59 rfl ?_
              refine lv_lstore (lv' := [(5, .long ((y.toUInt64 >>> ((nI 8).toInt64.toUInt64 &&& Int64.toUInt64 63)).toInt64)), (4, .int (nI 1)), (3, .int (nI cn)), (0, .ref mo), (1, .long x)]) hx hb dX5_put_60 hl (by decide) rfl (fun ls hl => ?_)
              refine lv_iinc (v := nI (cn + 1)) (lv' := [(3, .int (nI (cn + 1))), (5, .long ((y.toUInt64 >>> ((nI 8).toInt64.toUInt64 &&& Int64.toUInt64 63)).toInt64)), (4, .int (nI 1)), (0, .ref mo), (1, .long x)]) hx hb dX5_put_62 hl (k := 2) rfl (by rw [show Int32.ofInt 1 = nI 1 by decide]; exact nI_add _ _) (by decide) rfl (fun ls hl => ?_)
              refine lv_goto (tgt := 8) hx hb dX5_put_65 (by decide) ?_
              exact ih8 (cn + 1) true ((y.toUInt64 >>> ((nI 8).toInt64.toUInt64 &&& Int64.toUInt64 63)).toInt64) (by rw [he, mcF_s (show 8 - cn = (8 - (cn + 1)) + 1 by omega) zc22]; rw [zc27, zc45]; rfl) (by first | assumption | omega | rfl) (by omega) _ _ (hP.sub [0, 1] rfl) (hD.sub [0, 1] (by decide) rfl) hS ls (lv_sub hl [1, 2, 0, 3, 4] rfl)
  exact L8 ((8 - 0) + 1) 0 true x (rfl) (by first | assumption | omega | rfl) (Nat.lt_succ_self _) _ _ (hP.sub [0, 1] rfl) (hD.sub [0, 1] (by decide) rfl) hS ls (lv_sub hl [0, 1, 2, 3, 4] rfl)
theorem iw_X5_wipe_5 : ∀ w ∈ u_ws RX5 TX5 13, w ∈ wsX5_wipe := by decide +kernel
theorem fl_X5_wipe_141 : Cond.fieldLink RX5 141 (TX5 8).1 (TX5 8).2.1 (TX5 8).2.2.1 ∈ wsX5_wipe := by decide +kernel
set_option maxHeartbeats 400000 in
set_option maxRecDepth 100000 in
theorem c_X5_wipe (l : Launch) (E : EE) (sz : Nat) (mo mA mK mH mS mV mF mP mR : Nat) (hy sp nu rm : Int32) (L : Nat) : Ci l yX5_wipe wsX5_wipe 0 0 E [.ref mo] [(mo, .inr (5, [.ref mA, .ref mK, .ref mH, .int hy, .ref mS, .ref mV, .ref mF, .ref mP, .int (nI L), .int sp, .int nu, .ref mR, .int rm]))] sz (nI L) [(mo, .inr (5, [.ref mA, .ref mK, .ref mH, .int hy, .ref mS, .ref mV, .ref mF, .ref mP, .int (nI 0), .int sp, .int nu, .ref mR, .int rm]))] := by
  refine C_of (QQ := QI E (nI L) [(mo, .inr (5, [.ref mA, .ref mK, .ref mH, .int hy, .ref mS, .ref mV, .ref mF, .ref mP, .int (nI 0), .int sp, .int nu, .ref mR, .int rm]))]) (cc := cX5_wipe) (maxL := 2) (ret := (some .int)) (by decide +kernel) rfl (Nat.le_of_ble_eq_true rfl) ?_
  intro p e s m args below meth c A R Q ls hx hb hr hts hown hml hlocks hA hK hN hP hD hS hl hR hQ
  have hown : s.vm.findClass RX5 = some m.cls := hown
  have hl : lv_has ls 2 [(0, .ref mo)] := hl
  refine lv_aload_n hx hb dX5_wipe_0 rfl (lv_at hl 0 rfl) ?_
  refine rk_get (ci := 5) (C := RX5) (T := TX5) (N := 13) hx hb hts iw_X5_wipe_5 hown hK hP 0 rfl rfl 8 (by decide) fl_X5_wipe_141 rfl (v := .int (nI L)) rfl dX5_wipe_1 ?_
  refine lv_istore_n (lv' := [(1, .int (nI L)), (0, .ref mo)]) hx hb dX5_wipe_4 rfl hl (by decide) rfl (fun ls hl => ?_)
  refine lv_aload_n hx hb dX5_wipe_5 rfl (lv_at hl 1 rfl) ?_
  refine lv_iconst (v := nI 0) hx hb dX5_wipe_6 (by decide) ?_
  refine rk_put (ci := 5) (C := RX5) (T := TX5) (N := 13) hx hb hts iw_X5_wipe_5 tyX5 tyX5_ok nmX5 hown hK hP hD hS 0 rfl rfl 8 (by decide) fl_X5_wipe_141 rfl rfl (tyX5_ok 8 (by decide)) rfl rfl (Nat.le_of_ble_eq_true rfl) (ws' := [(mo, .inr (5, [.ref mA, .ref mK, .ref mH, .int hy, .ref mS, .ref mV, .ref mF, .ref mP, .int (nI 0), .int sp, .int nu, .ref mR, .int rm]))]) rfl dX5_wipe_7 (fun H locs hP hD hS => ?_)
  refine lv_iload_n hx hb dX5_wipe_10 rfl (lv_at hl 0 rfl) ?_
  exact ret_i hQ hx hb hr hlocks (hP.sub [0] rfl) (hD.sub [0] (by decide) rfl) hS dX5_wipe_11 (rfl)
set_option maxHeartbeats 400000 in
set_option maxRecDepth 100000 in
theorem c_X5_read_text (l : Launch) (E : EE) (sz : Nat) (mo mA mK mH mS mV mF mP mR : Nat) (hy sp0 nu0 rm0 : Int32) (L : Nat) (P f0 : Nat → Int32) (gL : L ≤ 80) (gF : ¬ (fgM P L (L + 1) 0 nu0 0 f0).1 = -6) : Ci l yX5_read wsX5_read 5 112 E [.ref mo] [(mo, .inr (5, [.ref mA, .ref mK, .ref mH, .int hy, .ref mS, .ref mV, .ref mF, .ref mP, .int (nI L), .int sp0, .int nu0, .ref mR, .int rm0])), (mP, aI E 80 P), (mR, aI E 60 f0)] sz (-3) [(mo, .inr (5, [.ref mA, .ref mK, .ref mH, .int hy, .ref mS, .ref mV, .ref mF, .ref mP, .int (nI L), .int (nI ((fgM P L (L + 1) 0 nu0 0 f0).2.1)), .int ((fgM P L (L + 1) 0 nu0 0 f0).2.2.1), .ref mR, .int (nI ((fgM P L (L + 1) 0 nu0 0 f0).2.2.2.1))])), (mP, aI E 80 P), (mR, aI E 60 ((fgM P L (L + 1) 0 nu0 0 f0).2.2.2.2))] := by
  refine C_of (QQ := QI E (-3) [(mo, .inr (5, [.ref mA, .ref mK, .ref mH, .int hy, .ref mS, .ref mV, .ref mF, .ref mP, .int (nI L), .int (nI ((fgM P L (L + 1) 0 nu0 0 f0).2.1)), .int ((fgM P L (L + 1) 0 nu0 0 f0).2.2.1), .ref mR, .int (nI ((fgM P L (L + 1) 0 nu0 0 f0).2.2.2.1))])), (mP, aI E 80 P), (mR, aI E 60 ((fgM P L (L + 1) 0 nu0 0 f0).2.2.2.2))]) (cc := cX5_read) (maxL := 2) (ret := (some .int)) (by decide +kernel) rfl (Nat.le_of_ble_eq_true rfl) ?_
  intro p e s m args below meth c A R Q ls hx hb hr hts hown hml hlocks hA hK hN hP hD hS hl hR hQ
  have hown : s.vm.findClass RX5 = some m.cls := hown
  have hl : lv_has ls 2 [(0, .ref mo)] := hl
  refine lv_aload_n hx hb dX5_read_0 rfl (lv_at hl 0 rfl) ?_
  refine kV_i (E := E) (As := []) (rest := []) (wr := []) ⟨hx, hb, hml, hown, hts⟩ (c_X5_fault (l := l) (E := E) (sz := _) (mo := mo) (mA := mA) (mK := mK) (mH := mH) (mS := mS) (mV := mV) (mF := mF) (mP := mP) (mR := mR) (hy := hy) (sp0 := sp0) (nu0 := nu0) (rm0 := rm0) (L := L) (P := P) (f0 := f0) (gL := by first | assumption | omega)) (cwV 0 hts gX5_read_X5_fault rfl rfl rfl (by decide +kernel) ⟨by rw [hR]; decide, by rw [hR]; decide⟩) hK hN hP hD hS hA [0, 1, 2] [] rfl (by decide) rfl (by decide) (by decide) 0 5 rfl rfl rfl hl.1 rfl (Nat.le_of_ble_eq_true rfl) dX5_read_1 ⟨Nat.zero_le _, Nat.zero_le _⟩ (fun H locs hP hD hS => ?_)
  have hP : va_P E.1 vwCl [(mo, .inr (5, [.ref mA, .ref mK, .ref mH, .int hy, .ref mS, .ref mV, .ref mF, .ref mP, .int (nI L), .int (nI ((fgM P L (L + 1) 0 nu0 0 f0).2.1)), .int ((fgM P L (L + 1) 0 nu0 0 f0).2.2.1), .ref mR, .int (nI ((fgM P L (L + 1) 0 nu0 0 f0).2.2.2.1))])), (mP, aI E 80 P), (mR, aI E 60 ((fgM P L (L + 1) 0 nu0 0 f0).2.2.2.2))] H := hP
  have hD : va_D A [(mo, .inr (5, [.ref mA, .ref mK, .ref mH, .int hy, .ref mS, .ref mV, .ref mF, .ref mP, .int (nI L), .int (nI ((fgM P L (L + 1) 0 nu0 0 f0).2.1)), .int ((fgM P L (L + 1) 0 nu0 0 f0).2.2.1), .ref mR, .int (nI ((fgM P L (L + 1) 0 nu0 0 f0).2.2.2.1))])), (mP, aI E 80 P), (mR, aI E 60 ((fgM P L (L + 1) 0 nu0 0 f0).2.2.2.2))] := hD
  refine lv_bipush (v := (-6)) hx hb dX5_read_4 (by decide) ?_
  refine lv_icmp_eq (tgt := 12) hx hb dX5_read_6 (by decide) (fun q => absurd q gF) (fun zc6 => ?_)
  refine lv_bipush (v := (-3)) hx hb dX5_read_9 (by decide) ?_
  exact ret_i hQ hx hb hr hlocks (hP.sub [0, 1, 2] rfl) (hD.sub [0, 1, 2] (by decide) rfl) hS dX5_read_11 (rfl)
set_option maxHeartbeats 400000 in
set_option maxRecDepth 100000 in
theorem c_X5_read_nosq (l : Launch) (E : EE) (sz : Nat) (mo mA mK mH mS mV mF mP mR : Nat) (hy sp0 nu0 rm0 : Int32) (n k : Nat) (Al : Nat → Int32) (L : Nat) (P f0 : Nat → Int32) (gA0 : Al 0 = nI n) (gn : n ≤ 16) (gL : L ≤ 80) (gF : (fgM P L (L + 1) 0 nu0 0 f0).1 = -6) (g3 : 3 * (fgM P L (L + 1) 0 nu0 0 f0).2.2.2.1 ≤ 58) (ge1 : anyB (eP1 ((fgM P L (L + 1) 0 nu0 0 f0).2.2.2.2) (nI n)) (fgM P L (L + 1) 0 nu0 0 f0).2.2.2.1 = true) : Ci l yX5_read wsX5_read 5 112 E [.ref mo] [(mo, .inr (5, [.ref mA, .ref mK, .ref mH, .int hy, .ref mS, .ref mV, .ref mF, .ref mP, .int (nI L), .int sp0, .int nu0, .ref mR, .int rm0])), (mA, aI E 92 Al), (mP, aI E 80 P), (mR, aI E 60 f0)] sz (-1) [(mo, .inr (5, [.ref mA, .ref mK, .ref mH, .int hy, .ref mS, .ref mV, .ref mF, .ref mP, .int (nI L), .int (nI ((fgM P L (L + 1) 0 nu0 0 f0).2.1)), .int ((fgM P L (L + 1) 0 nu0 0 f0).2.2.1), .ref mR, .int (nI ((fgM P L (L + 1) 0 nu0 0 f0).2.2.2.1))])), (mA, aI E 92 Al), (mP, aI E 80 P), (mR, aI E 60 ((fgM P L (L + 1) 0 nu0 0 f0).2.2.2.2))] := by
  refine C_of (QQ := QI E (-1) [(mo, .inr (5, [.ref mA, .ref mK, .ref mH, .int hy, .ref mS, .ref mV, .ref mF, .ref mP, .int (nI L), .int (nI ((fgM P L (L + 1) 0 nu0 0 f0).2.1)), .int ((fgM P L (L + 1) 0 nu0 0 f0).2.2.1), .ref mR, .int (nI ((fgM P L (L + 1) 0 nu0 0 f0).2.2.2.1))])), (mA, aI E 92 Al), (mP, aI E 80 P), (mR, aI E 60 ((fgM P L (L + 1) 0 nu0 0 f0).2.2.2.2))]) (cc := cX5_read) (maxL := 2) (ret := (some .int)) (by decide +kernel) rfl (Nat.le_of_ble_eq_true rfl) ?_
  intro p e s m args below meth c A R Q ls hx hb hr hts hown hml hlocks hA hK hN hP hD hS hl hR hQ
  have hown : s.vm.findClass RX5 = some m.cls := hown
  have hl : lv_has ls 2 [(0, .ref mo)] := hl
  refine lv_aload_n hx hb dX5_read_0 rfl (lv_at hl 0 rfl) ?_
  refine kV_i (E := E) (As := []) (rest := []) (wr := [(mA, aI E 92 Al)]) ⟨hx, hb, hml, hown, hts⟩ (c_X5_fault (l := l) (E := E) (sz := _) (mo := mo) (mA := mA) (mK := mK) (mH := mH) (mS := mS) (mV := mV) (mF := mF) (mP := mP) (mR := mR) (hy := hy) (sp0 := sp0) (nu0 := nu0) (rm0 := rm0) (L := L) (P := P) (f0 := f0) (gL := by first | assumption | omega)) (cwV 0 hts gX5_read_X5_fault rfl rfl rfl (by decide +kernel) ⟨by rw [hR]; decide, by rw [hR]; decide⟩) hK hN hP hD hS hA [0, 2, 3] [1] rfl (by decide) rfl (by decide) (by decide) 0 5 rfl rfl rfl hl.1 rfl (Nat.le_of_ble_eq_true rfl) dX5_read_1 ⟨Nat.zero_le _, Nat.zero_le _⟩ (fun H locs hP hD hS => ?_)
  have hP : va_P E.1 vwCl [(mA, aI E 92 Al), (mo, .inr (5, [.ref mA, .ref mK, .ref mH, .int hy, .ref mS, .ref mV, .ref mF, .ref mP, .int (nI L), .int (nI ((fgM P L (L + 1) 0 nu0 0 f0).2.1)), .int ((fgM P L (L + 1) 0 nu0 0 f0).2.2.1), .ref mR, .int (nI ((fgM P L (L + 1) 0 nu0 0 f0).2.2.2.1))])), (mP, aI E 80 P), (mR, aI E 60 ((fgM P L (L + 1) 0 nu0 0 f0).2.2.2.2))] H := hP
  have hD : va_D A [(mA, aI E 92 Al), (mo, .inr (5, [.ref mA, .ref mK, .ref mH, .int hy, .ref mS, .ref mV, .ref mF, .ref mP, .int (nI L), .int (nI ((fgM P L (L + 1) 0 nu0 0 f0).2.1)), .int ((fgM P L (L + 1) 0 nu0 0 f0).2.2.1), .ref mR, .int (nI ((fgM P L (L + 1) 0 nu0 0 f0).2.2.2.1))])), (mP, aI E 80 P), (mR, aI E 60 ((fgM P L (L + 1) 0 nu0 0 f0).2.2.2.2))] := hD
  refine lv_bipush (v := (-6)) hx hb dX5_read_4 (by decide) ?_
  refine lv_icmp_eq (tgt := 12) hx hb dX5_read_6 (by decide) (fun zc6 => ?_) (fun q => absurd gF q)
  refine lv_aload_n hx hb dX5_read_12 rfl (lv_at hl 0 rfl) ?_
  refine kV_i (E := E) (As := []) (rest := []) (wr := [(mP, aI E 80 P)]) ⟨hx, hb, hml, hown, hts⟩ (c_X5_haveAllSquares (l := l) (E := E) (sz := _) (mo := mo) (mA := mA) (mK := mK) (mH := mH) (mS := mS) (mV := mV) (mF := mF) (mP := mP) (mR := mR) (hy := hy) (pl := nI L) (sp := nI ((fgM P L (L + 1) 0 nu0 0 f0).2.1)) (nu := (fgM P L (L + 1) 0 nu0 0 f0).2.2.1) (n := n) (rm := (fgM P L (L + 1) 0 nu0 0 f0).2.2.2.1) (f := (fgM P L (L + 1) 0 nu0 0 f0).2.2.2.2) (Al := Al) (gA0 := by first | assumption | omega) (gn := by first | assumption | omega) (gr := by first | assumption | omega)) (cwV 0 hts gX5_read_X5_haveAllSquares rfl rfl rfl (by decide +kernel) ⟨by rw [hR]; decide, by rw [hR]; decide⟩) hK hN hP hD hS hA [1, 0, 3] [2] rfl (by decide) rfl (by decide) (by decide) 1 5 rfl rfl rfl hl.1 rfl (Nat.le_of_ble_eq_true rfl) dX5_read_13 ⟨Nat.zero_le _, Nat.zero_le _⟩ (fun H locs hP hD hS => ?_)
  have hP : va_P E.1 vwCl [(mP, aI E 80 P), (mo, .inr (5, [.ref mA, .ref mK, .ref mH, .int hy, .ref mS, .ref mV, .ref mF, .ref mP, .int (nI L), .int (nI ((fgM P L (L + 1) 0 nu0 0 f0).2.1)), .int ((fgM P L (L + 1) 0 nu0 0 f0).2.2.1), .ref mR, .int (nI ((fgM P L (L + 1) 0 nu0 0 f0).2.2.2.1))])), (mA, aI E 92 Al), (mR, aI E 60 (((fgM P L (L + 1) 0 nu0 0 f0).2.2.2.2)))] H := hP
  have hD : va_D A [(mP, aI E 80 P), (mo, .inr (5, [.ref mA, .ref mK, .ref mH, .int hy, .ref mS, .ref mV, .ref mF, .ref mP, .int (nI L), .int (nI ((fgM P L (L + 1) 0 nu0 0 f0).2.1)), .int ((fgM P L (L + 1) 0 nu0 0 f0).2.2.1), .ref mR, .int (nI ((fgM P L (L + 1) 0 nu0 0 f0).2.2.2.1))])), (mA, aI E 92 Al), (mR, aI E 60 (((fgM P L (L + 1) 0 nu0 0 f0).2.2.2.2)))] := hD
  refine rk_if_neB (tgt := 21) hx hb dX5_read_16 (by decide) (fun q => absurd q (by rw [ge1]; decide)) (fun zc16 => ?_)
  refine lv_iconst (v := (-1)) hx hb dX5_read_19 (by decide) ?_
  exact ret_i hQ hx hb hr hlocks (hP.sub [1, 2, 0, 3] rfl) (hD.sub [1, 2, 0, 3] (by decide) rfl) hS dX5_read_20 (rfl)
set_option maxHeartbeats 400000 in
set_option maxRecDepth 100000 in
theorem c_X5_read_same (l : Launch) (E : EE) (sz : Nat) (mo mA mK mH mS mV mF mP mR : Nat) (hy sp0 nu0 rm0 : Int32) (n k : Nat) (Al : Nat → Int32) (L : Nat) (P f0 : Nat → Int32) (gA0 : Al 0 = nI n) (gn : n ≤ 16) (gL : L ≤ 80) (gF : (fgM P L (L + 1) 0 nu0 0 f0).1 = -6) (g3 : 3 * (fgM P L (L + 1) 0 nu0 0 f0).2.2.2.1 ≤ 58) (ge1 : anyB (eP1 ((fgM P L (L + 1) 0 nu0 0 f0).2.2.2.2) (nI n)) (fgM P L (L + 1) 0 nu0 0 f0).2.2.2.1 = false) (ge2 : anyB (eP2 ((fgM P L (L + 1) 0 nu0 0 f0).2.2.2.2)) (fgM P L (L + 1) 0 nu0 0 f0).2.2.2.1 = true) : Ci l yX5_read wsX5_read 5 112 E [.ref mo] [(mo, .inr (5, [.ref mA, .ref mK, .ref mH, .int hy, .ref mS, .ref mV, .ref mF, .ref mP, .int (nI L), .int sp0, .int nu0, .ref mR, .int rm0])), (mA, aI E 92 Al), (mP, aI E 80 P), (mR, aI E 60 f0)] sz (-2) [(mo, .inr (5, [.ref mA, .ref mK, .ref mH, .int hy, .ref mS, .ref mV, .ref mF, .ref mP, .int (nI L), .int (nI ((fgM P L (L + 1) 0 nu0 0 f0).2.1)), .int ((fgM P L (L + 1) 0 nu0 0 f0).2.2.1), .ref mR, .int (nI ((fgM P L (L + 1) 0 nu0 0 f0).2.2.2.1))])), (mA, aI E 92 Al), (mP, aI E 80 P), (mR, aI E 60 ((fgM P L (L + 1) 0 nu0 0 f0).2.2.2.2))] := by
  refine C_of (QQ := QI E (-2) [(mo, .inr (5, [.ref mA, .ref mK, .ref mH, .int hy, .ref mS, .ref mV, .ref mF, .ref mP, .int (nI L), .int (nI ((fgM P L (L + 1) 0 nu0 0 f0).2.1)), .int ((fgM P L (L + 1) 0 nu0 0 f0).2.2.1), .ref mR, .int (nI ((fgM P L (L + 1) 0 nu0 0 f0).2.2.2.1))])), (mA, aI E 92 Al), (mP, aI E 80 P), (mR, aI E 60 ((fgM P L (L + 1) 0 nu0 0 f0).2.2.2.2))]) (cc := cX5_read) (maxL := 2) (ret := (some .int)) (by decide +kernel) rfl (Nat.le_of_ble_eq_true rfl) ?_
  intro p e s m args below meth c A R Q ls hx hb hr hts hown hml hlocks hA hK hN hP hD hS hl hR hQ
  have hown : s.vm.findClass RX5 = some m.cls := hown
  have hl : lv_has ls 2 [(0, .ref mo)] := hl
  refine lv_aload_n hx hb dX5_read_0 rfl (lv_at hl 0 rfl) ?_
  refine kV_i (E := E) (As := []) (rest := []) (wr := [(mA, aI E 92 Al)]) ⟨hx, hb, hml, hown, hts⟩ (c_X5_fault (l := l) (E := E) (sz := _) (mo := mo) (mA := mA) (mK := mK) (mH := mH) (mS := mS) (mV := mV) (mF := mF) (mP := mP) (mR := mR) (hy := hy) (sp0 := sp0) (nu0 := nu0) (rm0 := rm0) (L := L) (P := P) (f0 := f0) (gL := by first | assumption | omega)) (cwV 0 hts gX5_read_X5_fault rfl rfl rfl (by decide +kernel) ⟨by rw [hR]; decide, by rw [hR]; decide⟩) hK hN hP hD hS hA [0, 2, 3] [1] rfl (by decide) rfl (by decide) (by decide) 0 5 rfl rfl rfl hl.1 rfl (Nat.le_of_ble_eq_true rfl) dX5_read_1 ⟨Nat.zero_le _, Nat.zero_le _⟩ (fun H locs hP hD hS => ?_)
  have hP : va_P E.1 vwCl [(mA, aI E 92 Al), (mo, .inr (5, [.ref mA, .ref mK, .ref mH, .int hy, .ref mS, .ref mV, .ref mF, .ref mP, .int (nI L), .int (nI ((fgM P L (L + 1) 0 nu0 0 f0).2.1)), .int ((fgM P L (L + 1) 0 nu0 0 f0).2.2.1), .ref mR, .int (nI ((fgM P L (L + 1) 0 nu0 0 f0).2.2.2.1))])), (mP, aI E 80 P), (mR, aI E 60 ((fgM P L (L + 1) 0 nu0 0 f0).2.2.2.2))] H := hP
  have hD : va_D A [(mA, aI E 92 Al), (mo, .inr (5, [.ref mA, .ref mK, .ref mH, .int hy, .ref mS, .ref mV, .ref mF, .ref mP, .int (nI L), .int (nI ((fgM P L (L + 1) 0 nu0 0 f0).2.1)), .int ((fgM P L (L + 1) 0 nu0 0 f0).2.2.1), .ref mR, .int (nI ((fgM P L (L + 1) 0 nu0 0 f0).2.2.2.1))])), (mP, aI E 80 P), (mR, aI E 60 ((fgM P L (L + 1) 0 nu0 0 f0).2.2.2.2))] := hD
  refine lv_bipush (v := (-6)) hx hb dX5_read_4 (by decide) ?_
  refine lv_icmp_eq (tgt := 12) hx hb dX5_read_6 (by decide) (fun zc6 => ?_) (fun q => absurd gF q)
  refine lv_aload_n hx hb dX5_read_12 rfl (lv_at hl 0 rfl) ?_
  refine kV_i (E := E) (As := []) (rest := []) (wr := [(mP, aI E 80 P)]) ⟨hx, hb, hml, hown, hts⟩ (c_X5_haveAllSquares (l := l) (E := E) (sz := _) (mo := mo) (mA := mA) (mK := mK) (mH := mH) (mS := mS) (mV := mV) (mF := mF) (mP := mP) (mR := mR) (hy := hy) (pl := nI L) (sp := nI ((fgM P L (L + 1) 0 nu0 0 f0).2.1)) (nu := (fgM P L (L + 1) 0 nu0 0 f0).2.2.1) (n := n) (rm := (fgM P L (L + 1) 0 nu0 0 f0).2.2.2.1) (f := (fgM P L (L + 1) 0 nu0 0 f0).2.2.2.2) (Al := Al) (gA0 := by first | assumption | omega) (gn := by first | assumption | omega) (gr := by first | assumption | omega)) (cwV 0 hts gX5_read_X5_haveAllSquares rfl rfl rfl (by decide +kernel) ⟨by rw [hR]; decide, by rw [hR]; decide⟩) hK hN hP hD hS hA [1, 0, 3] [2] rfl (by decide) rfl (by decide) (by decide) 1 5 rfl rfl rfl hl.1 rfl (Nat.le_of_ble_eq_true rfl) dX5_read_13 ⟨Nat.zero_le _, Nat.zero_le _⟩ (fun H locs hP hD hS => ?_)
  have hP : va_P E.1 vwCl [(mP, aI E 80 P), (mo, .inr (5, [.ref mA, .ref mK, .ref mH, .int hy, .ref mS, .ref mV, .ref mF, .ref mP, .int (nI L), .int (nI ((fgM P L (L + 1) 0 nu0 0 f0).2.1)), .int ((fgM P L (L + 1) 0 nu0 0 f0).2.2.1), .ref mR, .int (nI ((fgM P L (L + 1) 0 nu0 0 f0).2.2.2.1))])), (mA, aI E 92 Al), (mR, aI E 60 (((fgM P L (L + 1) 0 nu0 0 f0).2.2.2.2)))] H := hP
  have hD : va_D A [(mP, aI E 80 P), (mo, .inr (5, [.ref mA, .ref mK, .ref mH, .int hy, .ref mS, .ref mV, .ref mF, .ref mP, .int (nI L), .int (nI ((fgM P L (L + 1) 0 nu0 0 f0).2.1)), .int ((fgM P L (L + 1) 0 nu0 0 f0).2.2.1), .ref mR, .int (nI ((fgM P L (L + 1) 0 nu0 0 f0).2.2.2.1))])), (mA, aI E 92 Al), (mR, aI E 60 (((fgM P L (L + 1) 0 nu0 0 f0).2.2.2.2)))] := hD
  refine rk_if_neB (tgt := 21) hx hb dX5_read_16 (by decide) (fun zc16 => ?_) (fun q => absurd q (by rw [ge1]; decide))
  refine lv_aload_n hx hb dX5_read_21 rfl (lv_at hl 0 rfl) ?_
  refine kV_i (E := E) (As := []) (rest := []) (wr := [(mP, aI E 80 P), (mA, aI E 92 Al)]) ⟨hx, hb, hml, hown, hts⟩ (c_X5_areDifferent (l := l) (E := E) (sz := _) (mo := mo) (mA := mA) (mK := mK) (mH := mH) (mS := mS) (mV := mV) (mF := mF) (mP := mP) (mR := mR) (hy := hy) (pl := nI L) (sp := nI ((fgM P L (L + 1) 0 nu0 0 f0).2.1)) (nu := (fgM P L (L + 1) 0 nu0 0 f0).2.2.1) (n := n) (rm := ((fgM P L (L + 1) 0 nu0 0 f0).2.2.2.1)) (f := ((fgM P L (L + 1) 0 nu0 0 f0).2.2.2.2)) (Al := Al) (gr := by first | assumption | omega)) (cwV 0 hts gX5_read_X5_areDifferent rfl rfl rfl (by decide +kernel) ⟨by rw [hR]; decide, by rw [hR]; decide⟩) hK hN hP hD hS hA [1, 3] [0, 2] rfl (by decide) rfl (by decide) (by decide) 1 5 rfl rfl rfl hl.1 rfl (Nat.le_of_ble_eq_true rfl) dX5_read_22 ⟨Nat.zero_le _, Nat.zero_le _⟩ (fun H locs hP hD hS => ?_)
  have hP : va_P E.1 vwCl [(mP, aI E 80 P), (mA, aI E 92 Al), (mo, .inr (5, [.ref mA, .ref mK, .ref mH, .int hy, .ref mS, .ref mV, .ref mF, .ref mP, .int (nI L), .int (nI ((fgM P L (L + 1) 0 nu0 0 f0).2.1)), .int ((fgM P L (L + 1) 0 nu0 0 f0).2.2.1), .ref mR, .int (nI (((fgM P L (L + 1) 0 nu0 0 f0).2.2.2.1)))])), (mR, aI E 60 ((((fgM P L (L + 1) 0 nu0 0 f0).2.2.2.2))))] H := hP
  have hD : va_D A [(mP, aI E 80 P), (mA, aI E 92 Al), (mo, .inr (5, [.ref mA, .ref mK, .ref mH, .int hy, .ref mS, .ref mV, .ref mF, .ref mP, .int (nI L), .int (nI ((fgM P L (L + 1) 0 nu0 0 f0).2.1)), .int ((fgM P L (L + 1) 0 nu0 0 f0).2.2.1), .ref mR, .int (nI (((fgM P L (L + 1) 0 nu0 0 f0).2.2.2.1)))])), (mR, aI E 60 ((((fgM P L (L + 1) 0 nu0 0 f0).2.2.2.2))))] := hD
  refine rk_if_neB (tgt := 31) hx hb dX5_read_25 (by decide) (fun q => absurd q (by rw [ge2]; decide)) (fun zc25 => ?_)
  refine lv_bipush (v := (-2)) hx hb dX5_read_28 (by decide) ?_
  exact ret_i hQ hx hb hr hlocks (hP.sub [2, 1, 0, 3] rfl) (hD.sub [2, 1, 0, 3] (by decide) rfl) hS dX5_read_30 (rfl)
set_option maxHeartbeats 400000 in
set_option maxRecDepth 100000 in
theorem c_X5_read_many (l : Launch) (E : EE) (sz : Nat) (mo mA mK mH mS mV mF mP mR : Nat) (hy sp0 nu0 rm0 : Int32) (n k : Nat) (Al : Nat → Int32) (L : Nat) (P f0 : Nat → Int32) (gA0 : Al 0 = nI n) (gn : n ≤ 16) (gA1 : Al 1 = nI k) (gk : k ≤ 30) (gL : L ≤ 80) (gF : (fgM P L (L + 1) 0 nu0 0 f0).1 = -6) (g3 : 3 * (fgM P L (L + 1) 0 nu0 0 f0).2.2.2.1 ≤ 58) (ge1 : anyB (eP1 ((fgM P L (L + 1) 0 nu0 0 f0).2.2.2.2) (nI n)) (fgM P L (L + 1) 0 nu0 0 f0).2.2.2.1 = false) (ge2 : anyB (eP2 ((fgM P L (L + 1) 0 nu0 0 f0).2.2.2.2)) (fgM P L (L + 1) 0 nu0 0 f0).2.2.2.1 = false) (gkr : 30 < k + (fgM P L (L + 1) 0 nu0 0 f0).2.2.2.1) : Ci l yX5_read wsX5_read 5 112 E [.ref mo] [(mo, .inr (5, [.ref mA, .ref mK, .ref mH, .int hy, .ref mS, .ref mV, .ref mF, .ref mP, .int (nI L), .int sp0, .int nu0, .ref mR, .int rm0])), (mA, aI E 92 Al), (mP, aI E 80 P), (mR, aI E 60 f0)] sz (-4) [(mo, .inr (5, [.ref mA, .ref mK, .ref mH, .int hy, .ref mS, .ref mV, .ref mF, .ref mP, .int (nI L), .int (nI ((fgM P L (L + 1) 0 nu0 0 f0).2.1)), .int ((fgM P L (L + 1) 0 nu0 0 f0).2.2.1), .ref mR, .int (nI ((fgM P L (L + 1) 0 nu0 0 f0).2.2.2.1))])), (mA, aI E 92 Al), (mP, aI E 80 P), (mR, aI E 60 ((fgM P L (L + 1) 0 nu0 0 f0).2.2.2.2))] := by
  refine C_of (QQ := QI E (-4) [(mo, .inr (5, [.ref mA, .ref mK, .ref mH, .int hy, .ref mS, .ref mV, .ref mF, .ref mP, .int (nI L), .int (nI ((fgM P L (L + 1) 0 nu0 0 f0).2.1)), .int ((fgM P L (L + 1) 0 nu0 0 f0).2.2.1), .ref mR, .int (nI ((fgM P L (L + 1) 0 nu0 0 f0).2.2.2.1))])), (mA, aI E 92 Al), (mP, aI E 80 P), (mR, aI E 60 ((fgM P L (L + 1) 0 nu0 0 f0).2.2.2.2))]) (cc := cX5_read) (maxL := 2) (ret := (some .int)) (by decide +kernel) rfl (Nat.le_of_ble_eq_true rfl) ?_
  intro p e s m args below meth c A R Q ls hx hb hr hts hown hml hlocks hA hK hN hP hD hS hl hR hQ
  have hown : s.vm.findClass RX5 = some m.cls := hown
  have hl : lv_has ls 2 [(0, .ref mo)] := hl
  refine lv_aload_n hx hb dX5_read_0 rfl (lv_at hl 0 rfl) ?_
  refine kV_i (E := E) (As := []) (rest := []) (wr := [(mA, aI E 92 Al)]) ⟨hx, hb, hml, hown, hts⟩ (c_X5_fault (l := l) (E := E) (sz := _) (mo := mo) (mA := mA) (mK := mK) (mH := mH) (mS := mS) (mV := mV) (mF := mF) (mP := mP) (mR := mR) (hy := hy) (sp0 := sp0) (nu0 := nu0) (rm0 := rm0) (L := L) (P := P) (f0 := f0) (gL := by first | assumption | omega)) (cwV 0 hts gX5_read_X5_fault rfl rfl rfl (by decide +kernel) ⟨by rw [hR]; decide, by rw [hR]; decide⟩) hK hN hP hD hS hA [0, 2, 3] [1] rfl (by decide) rfl (by decide) (by decide) 0 5 rfl rfl rfl hl.1 rfl (Nat.le_of_ble_eq_true rfl) dX5_read_1 ⟨Nat.zero_le _, Nat.zero_le _⟩ (fun H locs hP hD hS => ?_)
  have hP : va_P E.1 vwCl [(mA, aI E 92 Al), (mo, .inr (5, [.ref mA, .ref mK, .ref mH, .int hy, .ref mS, .ref mV, .ref mF, .ref mP, .int (nI L), .int (nI ((fgM P L (L + 1) 0 nu0 0 f0).2.1)), .int ((fgM P L (L + 1) 0 nu0 0 f0).2.2.1), .ref mR, .int (nI ((fgM P L (L + 1) 0 nu0 0 f0).2.2.2.1))])), (mP, aI E 80 P), (mR, aI E 60 ((fgM P L (L + 1) 0 nu0 0 f0).2.2.2.2))] H := hP
  have hD : va_D A [(mA, aI E 92 Al), (mo, .inr (5, [.ref mA, .ref mK, .ref mH, .int hy, .ref mS, .ref mV, .ref mF, .ref mP, .int (nI L), .int (nI ((fgM P L (L + 1) 0 nu0 0 f0).2.1)), .int ((fgM P L (L + 1) 0 nu0 0 f0).2.2.1), .ref mR, .int (nI ((fgM P L (L + 1) 0 nu0 0 f0).2.2.2.1))])), (mP, aI E 80 P), (mR, aI E 60 ((fgM P L (L + 1) 0 nu0 0 f0).2.2.2.2))] := hD
  refine lv_bipush (v := (-6)) hx hb dX5_read_4 (by decide) ?_
  refine lv_icmp_eq (tgt := 12) hx hb dX5_read_6 (by decide) (fun zc6 => ?_) (fun q => absurd gF q)
  refine lv_aload_n hx hb dX5_read_12 rfl (lv_at hl 0 rfl) ?_
  refine kV_i (E := E) (As := []) (rest := []) (wr := [(mP, aI E 80 P)]) ⟨hx, hb, hml, hown, hts⟩ (c_X5_haveAllSquares (l := l) (E := E) (sz := _) (mo := mo) (mA := mA) (mK := mK) (mH := mH) (mS := mS) (mV := mV) (mF := mF) (mP := mP) (mR := mR) (hy := hy) (pl := nI L) (sp := nI ((fgM P L (L + 1) 0 nu0 0 f0).2.1)) (nu := (fgM P L (L + 1) 0 nu0 0 f0).2.2.1) (n := n) (rm := (fgM P L (L + 1) 0 nu0 0 f0).2.2.2.1) (f := (fgM P L (L + 1) 0 nu0 0 f0).2.2.2.2) (Al := Al) (gA0 := by first | assumption | omega) (gn := by first | assumption | omega) (gr := by first | assumption | omega)) (cwV 0 hts gX5_read_X5_haveAllSquares rfl rfl rfl (by decide +kernel) ⟨by rw [hR]; decide, by rw [hR]; decide⟩) hK hN hP hD hS hA [1, 0, 3] [2] rfl (by decide) rfl (by decide) (by decide) 1 5 rfl rfl rfl hl.1 rfl (Nat.le_of_ble_eq_true rfl) dX5_read_13 ⟨Nat.zero_le _, Nat.zero_le _⟩ (fun H locs hP hD hS => ?_)
  have hP : va_P E.1 vwCl [(mP, aI E 80 P), (mo, .inr (5, [.ref mA, .ref mK, .ref mH, .int hy, .ref mS, .ref mV, .ref mF, .ref mP, .int (nI L), .int (nI ((fgM P L (L + 1) 0 nu0 0 f0).2.1)), .int ((fgM P L (L + 1) 0 nu0 0 f0).2.2.1), .ref mR, .int (nI ((fgM P L (L + 1) 0 nu0 0 f0).2.2.2.1))])), (mA, aI E 92 Al), (mR, aI E 60 (((fgM P L (L + 1) 0 nu0 0 f0).2.2.2.2)))] H := hP
  have hD : va_D A [(mP, aI E 80 P), (mo, .inr (5, [.ref mA, .ref mK, .ref mH, .int hy, .ref mS, .ref mV, .ref mF, .ref mP, .int (nI L), .int (nI ((fgM P L (L + 1) 0 nu0 0 f0).2.1)), .int ((fgM P L (L + 1) 0 nu0 0 f0).2.2.1), .ref mR, .int (nI ((fgM P L (L + 1) 0 nu0 0 f0).2.2.2.1))])), (mA, aI E 92 Al), (mR, aI E 60 (((fgM P L (L + 1) 0 nu0 0 f0).2.2.2.2)))] := hD
  refine rk_if_neB (tgt := 21) hx hb dX5_read_16 (by decide) (fun zc16 => ?_) (fun q => absurd q (by rw [ge1]; decide))
  refine lv_aload_n hx hb dX5_read_21 rfl (lv_at hl 0 rfl) ?_
  refine kV_i (E := E) (As := []) (rest := []) (wr := [(mP, aI E 80 P), (mA, aI E 92 Al)]) ⟨hx, hb, hml, hown, hts⟩ (c_X5_areDifferent (l := l) (E := E) (sz := _) (mo := mo) (mA := mA) (mK := mK) (mH := mH) (mS := mS) (mV := mV) (mF := mF) (mP := mP) (mR := mR) (hy := hy) (pl := nI L) (sp := nI ((fgM P L (L + 1) 0 nu0 0 f0).2.1)) (nu := (fgM P L (L + 1) 0 nu0 0 f0).2.2.1) (n := n) (rm := ((fgM P L (L + 1) 0 nu0 0 f0).2.2.2.1)) (f := ((fgM P L (L + 1) 0 nu0 0 f0).2.2.2.2)) (Al := Al) (gr := by first | assumption | omega)) (cwV 0 hts gX5_read_X5_areDifferent rfl rfl rfl (by decide +kernel) ⟨by rw [hR]; decide, by rw [hR]; decide⟩) hK hN hP hD hS hA [1, 3] [0, 2] rfl (by decide) rfl (by decide) (by decide) 1 5 rfl rfl rfl hl.1 rfl (Nat.le_of_ble_eq_true rfl) dX5_read_22 ⟨Nat.zero_le _, Nat.zero_le _⟩ (fun H locs hP hD hS => ?_)
  have hP : va_P E.1 vwCl [(mP, aI E 80 P), (mA, aI E 92 Al), (mo, .inr (5, [.ref mA, .ref mK, .ref mH, .int hy, .ref mS, .ref mV, .ref mF, .ref mP, .int (nI L), .int (nI ((fgM P L (L + 1) 0 nu0 0 f0).2.1)), .int ((fgM P L (L + 1) 0 nu0 0 f0).2.2.1), .ref mR, .int (nI (((fgM P L (L + 1) 0 nu0 0 f0).2.2.2.1)))])), (mR, aI E 60 ((((fgM P L (L + 1) 0 nu0 0 f0).2.2.2.2))))] H := hP
  have hD : va_D A [(mP, aI E 80 P), (mA, aI E 92 Al), (mo, .inr (5, [.ref mA, .ref mK, .ref mH, .int hy, .ref mS, .ref mV, .ref mF, .ref mP, .int (nI L), .int (nI ((fgM P L (L + 1) 0 nu0 0 f0).2.1)), .int ((fgM P L (L + 1) 0 nu0 0 f0).2.2.1), .ref mR, .int (nI (((fgM P L (L + 1) 0 nu0 0 f0).2.2.2.1)))])), (mR, aI E 60 ((((fgM P L (L + 1) 0 nu0 0 f0).2.2.2.2))))] := hD
  refine rk_if_neB (tgt := 31) hx hb dX5_read_25 (by decide) (fun zc25 => ?_) (fun q => absurd q (by rw [ge2]; decide))
  refine lv_aload_n hx hb dX5_read_31 rfl (lv_at hl 0 rfl) ?_
  refine rk_get (ci := 5) (C := RX5) (T := TX5) (N := 13) hx hb hts iw_X5_read_5 hown hK hP 2 rfl rfl 0 (by decide) fl_X5_read_7 rfl (v := .ref mA) rfl dX5_read_32 ?_
  refine lv_iconst (v := nI 1) hx hb dX5_read_35 (by decide) ?_
  refine rk_iald hx hb hK hP 1 rfl (by omega) (by omega) (v := nI k) (by exact gA1) dX5_read_36 ?_
  refine lv_aload_n hx hb dX5_read_37 rfl (lv_at hl 0 rfl) ?_
  refine rk_get (ci := 5) (C := RX5) (T := TX5) (N := 13) hx hb hts iw_X5_read_5 hown hK hP 2 rfl rfl 12 (by decide) fl_X5_read_172 rfl (v := .int (nI (((fgM P L (L + 1) 0 nu0 0 f0).2.2.2.1)))) rfl dX5_read_38 ?_
  refine rk_iaddN hx hb dX5_read_41 ?_
  refine lv_bipush (v := nI 30) hx hb dX5_read_42 (by decide) ?_
  refine rk_leN (tgt := 50) hx hb (by omega) (by omega) dX5_read_44 (by decide) (fun q => absurd q (by omega)) (fun zc44 => ?_)
  refine lv_bipush (v := (-4)) hx hb dX5_read_47 (by decide) ?_
  exact ret_i hQ hx hb hr hlocks (hP.sub [2, 1, 0, 3] rfl) (hD.sub [2, 1, 0, 3] (by decide) rfl) hS dX5_read_49 (rfl)
theorem iw_X5_undo_5 : ∀ w ∈ u_ws RX5 TX5 13, w ∈ wsX5_undo := by decide +kernel
theorem fl_X5_undo_34 : Cond.fieldLink RX5 34 (TX5 3).1 (TX5 3).2.1 (TX5 3).2.2.1 ∈ wsX5_undo := by decide +kernel
set_option maxHeartbeats 400000 in
set_option maxRecDepth 100000 in
theorem c_X5_undo_none (l : Launch) (E : EE) (sz : Nat) (mo mA mK mH mS mV mF mP mR : Nat) (pl sp nu rm : Int32)  : Ci l yX5_undo wsX5_undo 0 0 E [.ref mo] [(mo, .inr (5, [.ref mA, .ref mK, .ref mH, .int (nI 0), .ref mS, .ref mV, .ref mF, .ref mP, .int pl, .int sp, .int nu, .ref mR, .int rm]))] sz (-5) [(mo, .inr (5, [.ref mA, .ref mK, .ref mH, .int (nI 0), .ref mS, .ref mV, .ref mF, .ref mP, .int pl, .int sp, .int nu, .ref mR, .int rm]))] := by
  refine C_of (QQ := QI E (-5) [(mo, .inr (5, [.ref mA, .ref mK, .ref mH, .int (nI 0), .ref mS, .ref mV, .ref mF, .ref mP, .int pl, .int sp, .int nu, .ref mR, .int rm]))]) (cc := cX5_undo) (maxL := 2) (ret := (some .int)) (by decide +kernel) rfl (Nat.le_of_ble_eq_true rfl) ?_
  intro p e s m args below meth c A R Q ls hx hb hr hts hown hml hlocks hA hK hN hP hD hS hl hR hQ
  have hown : s.vm.findClass RX5 = some m.cls := hown
  have hl : lv_has ls 2 [(0, .ref mo)] := hl
  refine lv_aload_n hx hb dX5_undo_0 rfl (lv_at hl 0 rfl) ?_
  refine rk_get (ci := 5) (C := RX5) (T := TX5) (N := 13) hx hb hts iw_X5_undo_5 hown hK hP 0 rfl rfl 3 (by decide) fl_X5_undo_34 rfl (v := .int (nI 0)) rfl dX5_undo_1 ?_
  refine lv_if_ne (tgt := 10) hx hb dX5_undo_4 (by decide) (fun q => absurd q (by decide)) (fun _ => ?_)
  refine lv_bipush (v := (-5)) hx hb dX5_undo_7 (by decide) ?_
  exact ret_i hQ hx hb hr hlocks (hP.sub [0] rfl) (hD.sub [0] (by decide) rfl) hS dX5_undo_9 (rfl)
theorem fl_X5_undo_7 : Cond.fieldLink RX5 7 (TX5 0).1 (TX5 0).2.1 (TX5 0).2.2.1 ∈ wsX5_undo := by decide +kernel
theorem fl_X5_undo_16 : Cond.fieldLink RX5 16 (TX5 2).1 (TX5 2).2.1 (TX5 2).2.2.1 ∈ wsX5_undo := by decide +kernel
set_option maxHeartbeats 400000 in
set_option maxRecDepth 100000 in
theorem c_X5_undo_ok (l : Launch) (E : EE) (sz : Nat) (mo mA mK mH mS mV mF mP mR : Nat) (pl sp nu rm : Int32) (hy : Nat) (Al Hc : Nat → Int32) (gh : hy < 6) : Ci l yX5_undo wsX5_undo 0 0 E [.ref mo] [(mo, .inr (5, [.ref mA, .ref mK, .ref mH, .int (nI (hy + 1)), .ref mS, .ref mV, .ref mF, .ref mP, .int pl, .int sp, .int nu, .ref mR, .int rm])), (mA, aI E 92 Al), (mH, aI E 552 Hc)] sz (nI hy) [(mo, .inr (5, [.ref mA, .ref mK, .ref mH, .int (nI hy), .ref mS, .ref mV, .ref mF, .ref mP, .int pl, .int sp, .int nu, .ref mR, .int rm])), (mA, aI E 92 (lsf Al (hsF Hc (92 * hy)) 92)), (mH, aI E 552 Hc)] := by
  refine C_of (QQ := QI E (nI hy) [(mo, .inr (5, [.ref mA, .ref mK, .ref mH, .int (nI hy), .ref mS, .ref mV, .ref mF, .ref mP, .int pl, .int sp, .int nu, .ref mR, .int rm])), (mA, aI E 92 (lsf Al (hsF Hc (92 * hy)) 92)), (mH, aI E 552 Hc)]) (cc := cX5_undo) (maxL := 2) (ret := (some .int)) (by decide +kernel) rfl (Nat.le_of_ble_eq_true rfl) ?_
  intro p e s m args below meth c A R Q ls hx hb hr hts hown hml hlocks hA hK hN hP hD hS hl hR hQ
  have hown : s.vm.findClass RX5 = some m.cls := hown
  have hl : lv_has ls 2 [(0, .ref mo)] := hl
  refine lv_aload_n hx hb dX5_undo_0 rfl (lv_at hl 0 rfl) ?_
  refine rk_get (ci := 5) (C := RX5) (T := TX5) (N := 13) hx hb hts iw_X5_undo_5 hown hK hP 0 rfl rfl 3 (by decide) fl_X5_undo_34 rfl (v := .int (nI (hy + 1))) rfl dX5_undo_1 ?_
  refine rk_if_neN (tgt := 10) hx hb (by omega) dX5_undo_4 (by decide) (fun zc4 => ?_) (fun q => absurd q (by omega))
  refine lv_aload_n hx hb dX5_undo_10 rfl (lv_at hl 0 rfl) ?_
  refine lv_dup hx hb dX5_undo_11 rfl ?_
  refine rk_get (ci := 5) (C := RX5) (T := TX5) (N := 13) hx hb hts iw_X5_undo_5 hown hK hP 0 rfl rfl 3 (by decide) fl_X5_undo_34 rfl (v := .int (nI (hy + 1))) rfl dX5_undo_12 ?_
  refine lv_iconst (v := nI 1) hx hb dX5_undo_15 (by decide) ?_
  refine rk_isubN hx hb (by omega) dX5_undo_16 ?_
  refine rk_put (ci := 5) (C := RX5) (T := TX5) (N := 13) hx hb hts iw_X5_undo_5 tyX5 tyX5_ok nmX5 hown hK hP hD hS 0 rfl rfl 3 (by decide) fl_X5_undo_34 rfl rfl (tyX5_ok 3 (by decide)) rfl rfl (Nat.le_of_ble_eq_true rfl) (ws' := [(mo, .inr (5, [.ref mA, .ref mK, .ref mH, .int (nI ((hy + 1) - 1)), .ref mS, .ref mV, .ref mF, .ref mP, .int pl, .int sp, .int nu, .ref mR, .int rm])), (mA, aI E 92 Al), (mH, aI E 552 Hc)]) rfl dX5_undo_17 (fun H locs hP hD hS => ?_)
  have hfe : nI ((hy + 1) - 1) = nI hy := by rw [show hy + 1 - 1 = hy by omega]
  rw [hfe] at hP hD
  refine lv_iconst (v := nI 0) hx hb dX5_undo_20 (by decide) ?_
  refine lv_istore_n (lv' := [(1, .int (nI 0)), (0, .ref mo)]) hx hb dX5_undo_21 rfl hl (by decide) rfl (fun ls hl => ?_)
  have L22 : ∀ (fu : Nat) (i : Nat) (f : Nat → Int32), (ef : f = lsf Al (hsF Hc (92 * hy)) i) → (gi : i ≤ 92) → 92 - i < fu → ∀ (H : Heap) (locs : List Loc), va_P E.1 vwCl [(mo, .inr (5, [.ref mA, .ref mK, .ref mH, .int (nI hy), .ref mS, .ref mV, .ref mF, .ref mP, .int pl, .int sp, .int nu, .ref mR, .int rm])), (mA, aI E 92 f), (mH, aI E 552 Hc)] H → va_D A [(mo, .inr (5, [.ref mA, .ref mK, .ref mH, .int (nI hy), .ref mS, .ref mV, .ref mF, .ref mP, .int pl, .int sp, .int nu, .ref mR, .int rm])), (mA, aI E 92 f), (mH, aI E 552 Hc)] → va_S A s.heap H locs → ∀ (ls : Array Slot), lv_has ls 2 [(1, .int (nI i)), (0, .ref mo)] → W p l e R s m args below meth c H locs 0 0 Q (F0 m 22 ls []) := by
    intro fu
    induction fu with
    | zero => intro i f ef gi hfu; exact absurd hfu (Nat.not_lt_zero _)
    | succ fu ih22 =>
      intro i f ef gi hfu H locs hP hD hS ls hl
      refine lv_iload_n hx hb dX5_undo_22 rfl (lv_at hl 0 rfl) ?_
      refine lv_bipush (v := nI 92) hx hb dX5_undo_23 (by decide) ?_
      refine rk_geN (tgt := 54) hx hb (by omega) (by omega) dX5_undo_25 (by decide) (fun zc25 => ?_) (fun zc25 => ?_)
      · obtain rfl : 92 = i := by omega
        subst ef
        refine lv_aload_n hx hb dX5_undo_54 rfl (lv_at hl 1 rfl) ?_
        refine rk_get (ci := 5) (C := RX5) (T := TX5) (N := 13) hx hb hts iw_X5_undo_5 hown hK hP 0 rfl rfl 3 (by decide) fl_X5_undo_34 rfl (v := .int (nI hy)) rfl dX5_undo_55 ?_
        exact ret_i hQ hx hb hr hlocks (hP.sub [0, 1, 2] rfl) (hD.sub [0, 1, 2] (by decide) rfl) hS dX5_undo_58 (rfl)
      · refine lv_aload_n hx hb dX5_undo_28 rfl (lv_at hl 1 rfl) ?_
        refine rk_get (ci := 5) (C := RX5) (T := TX5) (N := 13) hx hb hts iw_X5_undo_5 hown hK hP 0 rfl rfl 0 (by decide) fl_X5_undo_7 rfl (v := .ref mA) rfl dX5_undo_29 ?_
        refine lv_iload_n hx hb dX5_undo_32 rfl (lv_at hl 0 rfl) ?_
        refine lv_aload_n hx hb dX5_undo_33 rfl (lv_at hl 1 rfl) ?_
        refine rk_get (ci := 5) (C := RX5) (T := TX5) (N := 13) hx hb hts iw_X5_undo_5 hown hK hP 0 rfl rfl 2 (by decide) fl_X5_undo_16 rfl (v := .ref mH) rfl dX5_undo_34 ?_
        refine lv_bipush (v := nI 92) hx hb dX5_undo_37 (by decide) ?_
        refine lv_aload_n hx hb dX5_undo_39 rfl (lv_at hl 1 rfl) ?_
        refine rk_get (ci := 5) (C := RX5) (T := TX5) (N := 13) hx hb hts iw_X5_undo_5 hown hK hP 0 rfl rfl 3 (by decide) fl_X5_undo_34 rfl (v := .int (nI hy)) rfl dX5_undo_40 ?_
        refine rk_imulN hx hb dX5_undo_43 ?_
        refine lv_iload_n hx hb dX5_undo_44 rfl (lv_at hl 0 rfl) ?_
        refine rk_iaddN hx hb dX5_undo_45 ?_
        refine rk_iald hx hb hK hP 2 rfl (by omega) (by omega) (v := Hc ((92 * hy) + i)) (rfl) dX5_undo_46 ?_
        refine rk_iast hx hb hK hP hD hS 1 rfl (by omega) (by omega) (ws' := [(mo, .inr (5, [.ref mA, .ref mK, .ref mH, .int (nI hy), .ref mS, .ref mV, .ref mF, .ref mP, .int pl, .int sp, .int nu, .ref mR, .int rm])), (mA, aI E 92 (upd f i (Hc ((92 * hy) + i)))), (mH, aI E 552 Hc)]) rfl dX5_undo_47 (fun H locs hP hD hS => ?_)
        refine lv_iinc (v := nI (i + 1)) (lv' := [(1, .int (nI (i + 1))), (0, .ref mo)]) hx hb dX5_undo_48 hl (k := 0) rfl (by rw [show Int32.ofInt 1 = nI 1 by decide]; exact nI_add _ _) (by decide) rfl (fun ls hl => ?_)
        refine lv_goto (tgt := 22) hx hb dX5_undo_51 (by decide) ?_
        exact ih22 (i + 1) (upd f i (Hc ((92 * hy) + i))) (by rw [ef]; exact lsf_1 Al (hsF Hc (92 * hy)) i) (by first | assumption | omega | rfl) (by omega) _ _ (hP.sub [0, 1, 2] rfl) (hD.sub [0, 1, 2] (by decide) rfl) hS ls (lv_sub hl [0, 1] rfl)
  exact L22 ((92 - 0) + 1) 0 Al (by exact (lsf_0 _ _).symm) (by first | assumption | omega | rfl) (Nat.lt_succ_self _) _ _ (hP.sub [0, 1, 2] rfl) (hD.sub [0, 1, 2] (by decide) rfl) hS ls (lv_sub hl [0, 1] rfl)
set_option maxHeartbeats 400000 in
set_option maxRecDepth 100000 in
theorem c_X5_save_bad (l : Launch) (E : EE) (sz : Nat) (mo mA mK mH mS mV mF mP mR : Nat) (hy pl sp nu rm : Int32) (w : Int32) (gw : w < nI 0 ∨ nI 1 < w) : Ci l yX5_save wsX5_save 1 25 E [.ref mo, .int w] [(mo, .inr (5, [.ref mA, .ref mK, .ref mH, .int hy, .ref mS, .ref mV, .ref mF, .ref mP, .int pl, .int sp, .int nu, .ref mR, .int rm]))] sz (-2) [(mo, .inr (5, [.ref mA, .ref mK, .ref mH, .int hy, .ref mS, .ref mV, .ref mF, .ref mP, .int pl, .int sp, .int nu, .ref mR, .int rm]))] := by
  refine C_of (QQ := QI E (-2) [(mo, .inr (5, [.ref mA, .ref mK, .ref mH, .int hy, .ref mS, .ref mV, .ref mF, .ref mP, .int pl, .int sp, .int nu, .ref mR, .int rm]))]) (cc := cX5_save) (maxL := 3) (ret := (some .int)) (by decide +kernel) rfl (Nat.le_of_ble_eq_true rfl) ?_
  intro p e s m args below meth c A R Q ls hx hb hr hts hown hml hlocks hA hK hN hP hD hS hl hR hQ
  have hown : s.vm.findClass RX5 = some m.cls := hown
  have hl : lv_has ls 3 [(0, .ref mo), (1, .int w)] := hl
  refine lv_iload_n hx hb dX5_save_0 rfl (lv_at hl 1 rfl) ?_
  refine lv_i2l hx hb dX5_save_1 rfl ?_
  refine lv_lconst (v := 0) hx hb dX5_save_2 (by decide) ?_
  refine lv_lconst (v := 1) hx hb dX5_save_3 (by decide) ?_
  refine kS_i (E := E) (As := [.long w.toInt64, .long ((0 : Int64)), .long ((1 : Int64))]) (rest := []) (wr := [(mo, .inr (5, [.ref mA, .ref mK, .ref mH, .int hy, .ref mS, .ref mV, .ref mF, .ref mP, .int pl, .int sp, .int nu, .ref mR, .int rm]))]) ⟨hx, hb, hml, hown, hts⟩ (c_X5_in (l := l) (E := E) (sz := _) (v := w.toInt64) (lo9 := (0 : Int64)) (hi9 := (1 : Int64)) ) (cwS 3 hts gX5_save_X5_in rfl rfl rfl (by decide +kernel) ⟨by rw [hR]; decide, by rw [hR]; decide⟩) hK hN hP hD hS hA [] [0] rfl (by decide) rfl (by decide) (by decide) rfl hl.1 rfl (Nat.le_of_ble_eq_true rfl) dX5_save_4 ⟨Nat.zero_le _, Nat.zero_le _⟩ (fun H locs hP hD hS => ?_)
  have hP : va_P E.1 vwCl [(mo, .inr (5, [.ref mA, .ref mK, .ref mH, .int hy, .ref mS, .ref mV, .ref mF, .ref mP, .int pl, .int sp, .int nu, .ref mR, .int rm]))] H := hP
  have hD : va_D A [(mo, .inr (5, [.ref mA, .ref mK, .ref mH, .int hy, .ref mS, .ref mV, .ref mF, .ref mP, .int pl, .int sp, .int nu, .ref mR, .int rm]))] := hD
  refine rk_if_neB (tgt := 13) hx hb dX5_save_7 (by decide) (fun q => absurd (q.symm.trans (inLw_f (a := 0) (b := 1) (by decide) (by decide) gw)) (by decide)) (fun zc7 => ?_)
  refine lv_bipush (v := (-2)) hx hb dX5_save_10 (by decide) ?_
  exact ret_i hQ hx hb hr hlocks (hP.sub [0] rfl) (hD.sub [0] (by decide) rfl) hS dX5_save_12 (rfl)
theorem iw_X5_save_5 : ∀ w ∈ u_ws RX5 TX5 13, w ∈ wsX5_save := by decide +kernel
theorem fl_X5_save_22 : Cond.fieldLink RX5 22 (TX5 5).1 (TX5 5).2.1 (TX5 5).2.2.1 ∈ wsX5_save := by decide +kernel
theorem fl_X5_save_7 : Cond.fieldLink RX5 7 (TX5 0).1 (TX5 0).2.1 (TX5 0).2.2.1 ∈ wsX5_save := by decide +kernel
theorem fl_X5_save_19 : Cond.fieldLink RX5 19 (TX5 4).1 (TX5 4).2.1 (TX5 4).2.2.1 ∈ wsX5_save := by decide +kernel
set_option maxHeartbeats 400000 in
set_option maxRecDepth 100000 in
theorem c_X5_save_ok (l : Launch) (E : EE) (sz : Nat) (mo mA mK mH mS mV mF mP mR : Nat) (hy pl sp nu rm : Int32) (n k : Nat) (Al : Nat → Int32) (j : Nat) (Sl sv : Nat → Int32) (gA1 : Al 1 = nI k) (gj : j < 2) : Ci l yX5_save wsX5_save 1 25 E [.ref mo, .int (nI j)] [(mo, .inr (5, [.ref mA, .ref mK, .ref mH, .int hy, .ref mS, .ref mV, .ref mF, .ref mP, .int pl, .int sp, .int nu, .ref mR, .int rm])), (mA, aI E 92 Al), (mS, aI E 184 Sl), (mV, aI E 2 sv)] sz (nI k) [(mo, .inr (5, [.ref mA, .ref mK, .ref mH, .int hy, .ref mS, .ref mV, .ref mF, .ref mP, .int pl, .int sp, .int nu, .ref mR, .int rm])), (mA, aI E 92 Al), (mS, aI E 184 (putH Sl Al (92 * j) 92)), (mV, aI E 2 (upd sv j (nI 1)))] := by
  refine C_of (QQ := QI E (nI k) [(mo, .inr (5, [.ref mA, .ref mK, .ref mH, .int hy, .ref mS, .ref mV, .ref mF, .ref mP, .int pl, .int sp, .int nu, .ref mR, .int rm])), (mA, aI E 92 Al), (mS, aI E 184 (putH Sl Al (92 * j) 92)), (mV, aI E 2 (upd sv j (nI 1)))]) (cc := cX5_save) (maxL := 3) (ret := (some .int)) (by decide +kernel) rfl (Nat.le_of_ble_eq_true rfl) ?_
  intro p e s m args below meth c A R Q ls hx hb hr hts hown hml hlocks hA hK hN hP hD hS hl hR hQ
  have hown : s.vm.findClass RX5 = some m.cls := hown
  have hl : lv_has ls 3 [(0, .ref mo), (1, .int (nI j))] := hl
  refine lv_iload_n hx hb dX5_save_0 rfl (lv_at hl 1 rfl) ?_
  refine lv_i2l hx hb dX5_save_1 rfl ?_
  refine lv_lconst (v := 0) hx hb dX5_save_2 (by decide) ?_
  refine lv_lconst (v := 1) hx hb dX5_save_3 (by decide) ?_
  refine kS_i (E := E) (As := [.long ((nI j).toInt64), .long ((0 : Int64)), .long ((1 : Int64))]) (rest := []) (wr := [(mo, .inr (5, [.ref mA, .ref mK, .ref mH, .int hy, .ref mS, .ref mV, .ref mF, .ref mP, .int pl, .int sp, .int nu, .ref mR, .int rm])), (mA, aI E 92 Al), (mS, aI E 184 Sl), (mV, aI E 2 sv)]) ⟨hx, hb, hml, hown, hts⟩ (c_X5_in (l := l) (E := E) (sz := _) (v := (nI j).toInt64) (lo9 := (0 : Int64)) (hi9 := (1 : Int64)) ) (cwS 3 hts gX5_save_X5_in rfl rfl rfl (by decide +kernel) ⟨by rw [hR]; decide, by rw [hR]; decide⟩) hK hN hP hD hS hA [] [0, 1, 2, 3] rfl (by decide) rfl (by decide) (by decide) rfl hl.1 rfl (Nat.le_of_ble_eq_true rfl) dX5_save_4 ⟨Nat.zero_le _, Nat.zero_le _⟩ (fun H locs hP hD hS => ?_)
  have hP : va_P E.1 vwCl [(mo, .inr (5, [.ref mA, .ref mK, .ref mH, .int hy, .ref mS, .ref mV, .ref mF, .ref mP, .int pl, .int sp, .int nu, .ref mR, .int rm])), (mA, aI E 92 Al), (mS, aI E 184 Sl), (mV, aI E 2 sv)] H := hP
  have hD : va_D A [(mo, .inr (5, [.ref mA, .ref mK, .ref mH, .int hy, .ref mS, .ref mV, .ref mF, .ref mP, .int pl, .int sp, .int nu, .ref mR, .int rm])), (mA, aI E 92 Al), (mS, aI E 184 Sl), (mV, aI E 2 sv)] := hD
  refine rk_if_neB (tgt := 13) hx hb dX5_save_7 (by decide) (fun zc7 => ?_) (fun q => absurd (q.symm.trans (inLn_t (a := 0) (b := 1) (by decide) (by omega) (by omega))) (by decide))
  refine lv_iconst (v := nI 0) hx hb dX5_save_13 (by decide) ?_
  refine lv_istore_n (lv' := [(2, .int (nI 0)), (0, .ref mo), (1, .int (nI j))]) hx hb dX5_save_14 rfl hl (by decide) rfl (fun ls hl => ?_)
  have L15 : ∀ (fu : Nat) (i : Nat) (f : Nat → Int32), (ef : f = putH Sl Al (92 * j) i) → (gi : i ≤ 92) → 92 - i < fu → ∀ (H : Heap) (locs : List Loc), va_P E.1 vwCl [(mo, .inr (5, [.ref mA, .ref mK, .ref mH, .int hy, .ref mS, .ref mV, .ref mF, .ref mP, .int pl, .int sp, .int nu, .ref mR, .int rm])), (mA, aI E 92 Al), (mS, aI E 184 f), (mV, aI E 2 sv)] H → va_D A [(mo, .inr (5, [.ref mA, .ref mK, .ref mH, .int hy, .ref mS, .ref mV, .ref mF, .ref mP, .int pl, .int sp, .int nu, .ref mR, .int rm])), (mA, aI E 92 Al), (mS, aI E 184 f), (mV, aI E 2 sv)] → va_S A s.heap H locs → ∀ (ls : Array Slot), lv_has ls 3 [(2, .int (nI i)), (0, .ref mo), (1, .int (nI j))] → W p l e R s m args below meth c H locs 0 0 Q (F0 m 15 ls []) := by
    intro fu
    induction fu with
    | zero => intro i f ef gi hfu; exact absurd hfu (Nat.not_lt_zero _)
    | succ fu ih15 =>
      intro i f ef gi hfu H locs hP hD hS ls hl
      refine lv_iload_n hx hb dX5_save_15 rfl (lv_at hl 0 rfl) ?_
      refine lv_bipush (v := nI 92) hx hb dX5_save_16 (by decide) ?_
      refine rk_geN (tgt := 44) hx hb (by omega) (by omega) dX5_save_18 (by decide) (fun zc18 => ?_) (fun zc18 => ?_)
      · obtain rfl : 92 = i := by omega
        subst ef
        refine lv_aload_n hx hb dX5_save_44 rfl (lv_at hl 1 rfl) ?_
        refine rk_get (ci := 5) (C := RX5) (T := TX5) (N := 13) hx hb hts iw_X5_save_5 hown hK hP 0 rfl rfl 5 (by decide) fl_X5_save_22 rfl (v := .ref mV) rfl dX5_save_45 ?_
        refine lv_iload_n hx hb dX5_save_48 rfl (lv_at hl 2 rfl) ?_
        refine lv_iconst (v := nI 1) hx hb dX5_save_49 (by decide) ?_
        refine rk_iast hx hb hK hP hD hS 3 rfl (by omega) (by omega) (ws' := [(mo, .inr (5, [.ref mA, .ref mK, .ref mH, .int hy, .ref mS, .ref mV, .ref mF, .ref mP, .int pl, .int sp, .int nu, .ref mR, .int rm])), (mA, aI E 92 Al), (mS, aI E 184 ((putH Sl Al (92 * j) 92))), (mV, aI E 2 (upd sv j (nI 1)))]) rfl dX5_save_50 (fun H locs hP hD hS => ?_)
        refine lv_aload_n hx hb dX5_save_51 rfl (lv_at hl 1 rfl) ?_
        refine rk_get (ci := 5) (C := RX5) (T := TX5) (N := 13) hx hb hts iw_X5_save_5 hown hK hP 0 rfl rfl 0 (by decide) fl_X5_save_7 rfl (v := .ref mA) rfl dX5_save_52 ?_
        refine lv_iconst (v := nI 1) hx hb dX5_save_55 (by decide) ?_
        refine rk_iald hx hb hK hP 1 rfl (by omega) (by omega) (v := nI k) (by exact gA1) dX5_save_56 ?_
        exact ret_i hQ hx hb hr hlocks (hP.sub [0, 1, 2, 3] rfl) (hD.sub [0, 1, 2, 3] (by decide) rfl) hS dX5_save_57 (rfl)
      · refine lv_aload_n hx hb dX5_save_21 rfl (lv_at hl 1 rfl) ?_
        refine rk_get (ci := 5) (C := RX5) (T := TX5) (N := 13) hx hb hts iw_X5_save_5 hown hK hP 0 rfl rfl 4 (by decide) fl_X5_save_19 rfl (v := .ref mS) rfl dX5_save_22 ?_
        refine lv_bipush (v := nI 92) hx hb dX5_save_25 (by decide) ?_
        refine lv_iload_n hx hb dX5_save_27 rfl (lv_at hl 2 rfl) ?_
        refine rk_imulN hx hb dX5_save_28 ?_
        refine lv_iload_n hx hb dX5_save_29 rfl (lv_at hl 0 rfl) ?_
        refine rk_iaddN hx hb dX5_save_30 ?_
        refine lv_aload_n hx hb dX5_save_31 rfl (lv_at hl 1 rfl) ?_
        refine rk_get (ci := 5) (C := RX5) (T := TX5) (N := 13) hx hb hts iw_X5_save_5 hown hK hP 0 rfl rfl 0 (by decide) fl_X5_save_7 rfl (v := .ref mA) rfl dX5_save_32 ?_
        refine lv_iload_n hx hb dX5_save_35 rfl (lv_at hl 0 rfl) ?_
        refine rk_iald hx hb hK hP 1 rfl (by omega) (by omega) (v := Al i) (rfl) dX5_save_36 ?_
        refine rk_iast hx hb hK hP hD hS 2 rfl (by omega) (by omega) (ws' := [(mo, .inr (5, [.ref mA, .ref mK, .ref mH, .int hy, .ref mS, .ref mV, .ref mF, .ref mP, .int pl, .int sp, .int nu, .ref mR, .int rm])), (mA, aI E 92 Al), (mS, aI E 184 (upd f ((92 * j) + i) (Al i))), (mV, aI E 2 sv)]) rfl dX5_save_37 (fun H locs hP hD hS => ?_)
        refine lv_iinc (v := nI (i + 1)) (lv' := [(2, .int (nI (i + 1))), (0, .ref mo), (1, .int (nI j))]) hx hb dX5_save_38 hl (k := 0) rfl (by rw [show Int32.ofInt 1 = nI 1 by decide]; exact nI_add _ _) (by decide) rfl (fun ls hl => ?_)
        refine lv_goto (tgt := 15) hx hb dX5_save_41 (by decide) ?_
        exact ih15 (i + 1) (upd f ((92 * j) + i) (Al i)) (by rw [ef]; exact putH_1 Sl Al (92 * j) i) (by first | assumption | omega | rfl) (by omega) _ _ (hP.sub [0, 1, 2, 3] rfl) (hD.sub [0, 1, 2, 3] (by decide) rfl) hS ls (lv_sub hl [0, 1, 2] rfl)
  exact L15 ((92 - 0) + 1) 0 Sl (by exact (putH_0 _ _ _).symm) (by first | assumption | omega | rfl) (Nat.lt_succ_self _) _ _ (hP.sub [0, 1, 2, 3] rfl) (hD.sub [0, 1, 2, 3] (by decide) rfl) hS ls (lv_sub hl [0, 1, 2] rfl)
set_option maxHeartbeats 400000 in
set_option maxRecDepth 100000 in
theorem c_X5_restore_bad (l : Launch) (E : EE) (sz : Nat) (mo mA mK mH mS mV mF mP mR : Nat) (hy pl sp nu rm : Int32) (w : Int32) (gw : w < nI 0 ∨ nI 1 < w) : Ci l yX5_restore wsX5_restore 1 25 E [.ref mo, .int w] [(mo, .inr (5, [.ref mA, .ref mK, .ref mH, .int hy, .ref mS, .ref mV, .ref mF, .ref mP, .int pl, .int sp, .int nu, .ref mR, .int rm]))] sz (-2) [(mo, .inr (5, [.ref mA, .ref mK, .ref mH, .int hy, .ref mS, .ref mV, .ref mF, .ref mP, .int pl, .int sp, .int nu, .ref mR, .int rm]))] := by
  refine C_of (QQ := QI E (-2) [(mo, .inr (5, [.ref mA, .ref mK, .ref mH, .int hy, .ref mS, .ref mV, .ref mF, .ref mP, .int pl, .int sp, .int nu, .ref mR, .int rm]))]) (cc := cX5_restore) (maxL := 3) (ret := (some .int)) (by decide +kernel) rfl (Nat.le_of_ble_eq_true rfl) ?_
  intro p e s m args below meth c A R Q ls hx hb hr hts hown hml hlocks hA hK hN hP hD hS hl hR hQ
  have hown : s.vm.findClass RX5 = some m.cls := hown
  have hl : lv_has ls 3 [(0, .ref mo), (1, .int w)] := hl
  refine lv_iload_n hx hb dX5_restore_0 rfl (lv_at hl 1 rfl) ?_
  refine lv_i2l hx hb dX5_restore_1 rfl ?_
  refine lv_lconst (v := 0) hx hb dX5_restore_2 (by decide) ?_
  refine lv_lconst (v := 1) hx hb dX5_restore_3 (by decide) ?_
  refine kS_i (E := E) (As := [.long w.toInt64, .long ((0 : Int64)), .long ((1 : Int64))]) (rest := []) (wr := [(mo, .inr (5, [.ref mA, .ref mK, .ref mH, .int hy, .ref mS, .ref mV, .ref mF, .ref mP, .int pl, .int sp, .int nu, .ref mR, .int rm]))]) ⟨hx, hb, hml, hown, hts⟩ (c_X5_in (l := l) (E := E) (sz := _) (v := w.toInt64) (lo9 := (0 : Int64)) (hi9 := (1 : Int64)) ) (cwS 3 hts gX5_restore_X5_in rfl rfl rfl (by decide +kernel) ⟨by rw [hR]; decide, by rw [hR]; decide⟩) hK hN hP hD hS hA [] [0] rfl (by decide) rfl (by decide) (by decide) rfl hl.1 rfl (Nat.le_of_ble_eq_true rfl) dX5_restore_4 ⟨Nat.zero_le _, Nat.zero_le _⟩ (fun H locs hP hD hS => ?_)
  have hP : va_P E.1 vwCl [(mo, .inr (5, [.ref mA, .ref mK, .ref mH, .int hy, .ref mS, .ref mV, .ref mF, .ref mP, .int pl, .int sp, .int nu, .ref mR, .int rm]))] H := hP
  have hD : va_D A [(mo, .inr (5, [.ref mA, .ref mK, .ref mH, .int hy, .ref mS, .ref mV, .ref mF, .ref mP, .int pl, .int sp, .int nu, .ref mR, .int rm]))] := hD
  refine rk_if_neB (tgt := 13) hx hb dX5_restore_7 (by decide) (fun q => absurd (q.symm.trans (inLw_f (a := 0) (b := 1) (by decide) (by decide) gw)) (by decide)) (fun zc7 => ?_)
  refine lv_bipush (v := (-2)) hx hb dX5_restore_10 (by decide) ?_
  exact ret_i hQ hx hb hr hlocks (hP.sub [0] rfl) (hD.sub [0] (by decide) rfl) hS dX5_restore_12 (rfl)
set_option maxHeartbeats 400000 in
set_option maxRecDepth 100000 in
theorem c_X5_restore_none (l : Launch) (E : EE) (sz : Nat) (mo mA mK mH mS mV mF mP mR : Nat) (hy pl sp nu rm : Int32) (j : Nat) (sv : Nat → Int32) (gj : j < 2) (gsv : sv j = 0) : Ci l yX5_restore wsX5_restore 1 25 E [.ref mo, .int (nI j)] [(mo, .inr (5, [.ref mA, .ref mK, .ref mH, .int hy, .ref mS, .ref mV, .ref mF, .ref mP, .int pl, .int sp, .int nu, .ref mR, .int rm])), (mV, aI E 2 sv)] sz (-5) [(mo, .inr (5, [.ref mA, .ref mK, .ref mH, .int hy, .ref mS, .ref mV, .ref mF, .ref mP, .int pl, .int sp, .int nu, .ref mR, .int rm])), (mV, aI E 2 sv)] := by
  refine C_of (QQ := QI E (-5) [(mo, .inr (5, [.ref mA, .ref mK, .ref mH, .int hy, .ref mS, .ref mV, .ref mF, .ref mP, .int pl, .int sp, .int nu, .ref mR, .int rm])), (mV, aI E 2 sv)]) (cc := cX5_restore) (maxL := 3) (ret := (some .int)) (by decide +kernel) rfl (Nat.le_of_ble_eq_true rfl) ?_
  intro p e s m args below meth c A R Q ls hx hb hr hts hown hml hlocks hA hK hN hP hD hS hl hR hQ
  have hown : s.vm.findClass RX5 = some m.cls := hown
  have hl : lv_has ls 3 [(0, .ref mo), (1, .int (nI j))] := hl
  refine lv_iload_n hx hb dX5_restore_0 rfl (lv_at hl 1 rfl) ?_
  refine lv_i2l hx hb dX5_restore_1 rfl ?_
  refine lv_lconst (v := 0) hx hb dX5_restore_2 (by decide) ?_
  refine lv_lconst (v := 1) hx hb dX5_restore_3 (by decide) ?_
  refine kS_i (E := E) (As := [.long ((nI j).toInt64), .long ((0 : Int64)), .long ((1 : Int64))]) (rest := []) (wr := [(mo, .inr (5, [.ref mA, .ref mK, .ref mH, .int hy, .ref mS, .ref mV, .ref mF, .ref mP, .int pl, .int sp, .int nu, .ref mR, .int rm])), (mV, aI E 2 sv)]) ⟨hx, hb, hml, hown, hts⟩ (c_X5_in (l := l) (E := E) (sz := _) (v := (nI j).toInt64) (lo9 := (0 : Int64)) (hi9 := (1 : Int64)) ) (cwS 3 hts gX5_restore_X5_in rfl rfl rfl (by decide +kernel) ⟨by rw [hR]; decide, by rw [hR]; decide⟩) hK hN hP hD hS hA [] [0, 1] rfl (by decide) rfl (by decide) (by decide) rfl hl.1 rfl (Nat.le_of_ble_eq_true rfl) dX5_restore_4 ⟨Nat.zero_le _, Nat.zero_le _⟩ (fun H locs hP hD hS => ?_)
  have hP : va_P E.1 vwCl [(mo, .inr (5, [.ref mA, .ref mK, .ref mH, .int hy, .ref mS, .ref mV, .ref mF, .ref mP, .int pl, .int sp, .int nu, .ref mR, .int rm])), (mV, aI E 2 sv)] H := hP
  have hD : va_D A [(mo, .inr (5, [.ref mA, .ref mK, .ref mH, .int hy, .ref mS, .ref mV, .ref mF, .ref mP, .int pl, .int sp, .int nu, .ref mR, .int rm])), (mV, aI E 2 sv)] := hD
  refine rk_if_neB (tgt := 13) hx hb dX5_restore_7 (by decide) (fun zc7 => ?_) (fun q => absurd (q.symm.trans (inLn_t (a := 0) (b := 1) (by decide) (by omega) (by omega))) (by decide))
  refine lv_aload_n hx hb dX5_restore_13 rfl (lv_at hl 0 rfl) ?_
  refine rk_get (ci := 5) (C := RX5) (T := TX5) (N := 13) hx hb hts iw_X5_restore_5 hown hK hP 0 rfl rfl 5 (by decide) fl_X5_restore_22 rfl (v := .ref mV) rfl dX5_restore_14 ?_
  refine lv_iload_n hx hb dX5_restore_17 rfl (lv_at hl 1 rfl) ?_
  refine rk_iald hx hb hK hP 1 rfl (by omega) (by omega) (v := sv j) (rfl) dX5_restore_18 ?_
  refine lv_if_ne (tgt := 25) hx hb dX5_restore_19 (by decide) (fun q => absurd gsv q) (fun zc19 => ?_)
  refine lv_bipush (v := (-5)) hx hb dX5_restore_22 (by decide) ?_
  exact ret_i hQ hx hb hr hlocks (hP.sub [0, 1] rfl) (hD.sub [0, 1] (by decide) rfl) hS dX5_restore_24 (rfl)
