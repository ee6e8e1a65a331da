theorem iw_X5_pairsLost_5 : ∀ w ∈ u_ws RX5 TX5 13, w ∈ wsX5_pairsLost := by decide +kernel
theorem fl_X5_pairsLost_7 : Cond.fieldLink RX5 7 (TX5 0).1 (TX5 0).2.1 (TX5 0).2.2.1 ∈ wsX5_pairsLost := by decide +kernel
set_option maxHeartbeats 400000 in
set_option maxRecDepth 100000 in
theorem c_X5_pairsLost (l : Launch) (E : EE) (sz : Nat) (mo mA mK mH mS mV mF mP mR : Nat) (hy pl sp nu rm : Int32) (n k : Nat) (Al : Nat → Int32) (r : Nat) (gA1 : Al 1 = nI k) (gk : k ≤ 30) (gok : okA Al k) (gr : r < k) : Ci l yX5_pairsLost wsX5_pairsLost 3 70 E [.ref mo, .int (nI r)] [(mo, .inr (5, [.ref mA, .ref mK, .ref mH, .int hy, .ref mS, .ref mV, .ref mF, .ref mP, .int pl, .int sp, .int nu, .ref mR, .int rm])), (mA, aI E 92 Al)] sz (nI (plM Al k r)) [(mo, .inr (5, [.ref mA, .ref mK, .ref mH, .int hy, .ref mS, .ref mV, .ref mF, .ref mP, .int pl, .int sp, .int nu, .ref mR, .int rm])), (mA, aI E 92 Al)] := by
  refine C_of (QQ := QI E (nI (plM Al k r)) [(mo, .inr (5, [.ref mA, .ref mK, .ref mH, .int hy, .ref mS, .ref mV, .ref mF, .ref mP, .int pl, .int sp, .int nu, .ref mR, .int rm])), (mA, aI E 92 Al)]) (cc := cX5_pairsLost) (maxL := 2) (ret := (some .int)) (by decide +kernel) rfl (Nat.le_of_ble_eq_true rfl) ?_
  intro p e s m args below meth c A R Q ls hx hb hr hts hown hml hlocks hA hK hN hP hD hS hl hR hQ
  have hown : s.vm.findClass RX5 = some m.cls := hown
  have hl : lv_has ls 2 [(0, .ref mo), (1, .int (nI r))] := hl
  refine lv_aload_n hx hb dX5_pairsLost_0 rfl (lv_at hl 0 rfl) ?_
  refine lv_iload_n hx hb dX5_pairsLost_1 rfl (lv_at hl 1 rfl) ?_
  refine kV_i (E := E) (As := [.int (nI r)]) (rest := []) (wr := []) ⟨hx, hb, hml, hown, hts⟩ (c_X5_parts (l := l) (E := E) (sz := _) (mo := mo) (mA := mA) (mK := mK) (mH := mH) (mS := mS) (mV := mV) (mF := mF) (mP := mP) (mR := mR) (hy := hy) (pl := pl) (sp := sp) (nu := nu) (rm := rm) (n := n) (k := k) (Al := Al) (r := r) (gA1 := by first | assumption | omega) (gk := by first | assumption | omega) (gok := by first | assumption | omega) (gr := by first | assumption | omega)) (cwV 1 hts gX5_pairsLost_X5_parts rfl rfl rfl (by decide +kernel) ⟨by rw [hR]; decide, by rw [hR]; decide⟩) hK hN hP hD hS hA [0, 1] [] rfl (by decide) rfl (by decide) (by decide) 0 5 rfl rfl rfl hl.1 rfl (Nat.le_of_ble_eq_true rfl) dX5_pairsLost_2 ⟨Nat.zero_le _, Nat.zero_le _⟩ (fun H locs hP hD hS => ?_)
  have hP : va_P E.1 vwCl [(mo, .inr (5, [.ref mA, .ref mK, .ref mH, .int hy, .ref mS, .ref mV, .ref mF, .ref mP, .int pl, .int sp, .int nu, .ref mR, .int rm])), (mA, aI E 92 Al)] H := hP
  have hD : va_D A [(mo, .inr (5, [.ref mA, .ref mK, .ref mH, .int hy, .ref mS, .ref mV, .ref mF, .ref mP, .int pl, .int sp, .int nu, .ref mR, .int rm])), (mA, aI E 92 Al)] := hD
  refine rk_if_eqB (tgt := 53) hx hb dX5_pairsLost_5 (by decide) (fun zc5 => ?_) (fun zc5 => ?_)
  · refine lv_iconst (v := nI 0) hx hb dX5_pairsLost_53 (by decide) ?_
    exact ret_i hQ hx hb hr hlocks (hP.sub [0, 1] rfl) (hD.sub [0, 1] (by decide) rfl) hS dX5_pairsLost_54 (by rw [plM, if_neg (by rw [zc5]; decide)])
  · refine lv_aload_n hx hb dX5_pairsLost_8 rfl (lv_at hl 0 rfl) ?_
    refine lv_aload_n hx hb dX5_pairsLost_9 rfl (lv_at hl 0 rfl) ?_
    refine rk_get (ci := 5) (C := RX5) (T := TX5) (N := 13) hx hb hts iw_X5_pairsLost_5 hown hK hP 0 rfl rfl 0 (by decide) fl_X5_pairsLost_7 rfl (v := .ref mA) rfl dX5_pairsLost_10 ?_
    refine lv_iconst (v := nI 2) hx hb dX5_pairsLost_13 (by decide) ?_
    refine lv_iload_n hx hb dX5_pairsLost_14 rfl (lv_at hl 1 rfl) ?_
    refine rk_iaddN hx hb dX5_pairsLost_15 ?_
    refine rk_iald hx hb hK hP 1 rfl (by omega) (by omega) (v := nI (mlo Al r)) ((gok r (by omega)).1) dX5_pairsLost_16 ?_
    refine lv_iconst (v := nI 1) hx hb dX5_pairsLost_17 (by decide) ?_
    refine lv_iload_n hx hb dX5_pairsLost_18 rfl (lv_at hl 1 rfl) ?_
    refine lv_ishl hx hb dX5_pairsLost_19 ?_
    refine lv_bipush (v := (-6)) hx hb dX5_pairsLost_20 (by decide) ?_
    refine kV_i (E := E) (As := [.int (nI (mlo Al r)), .int ((nI 1) <<< ((nI r) &&& 31)), .int ((-6))]) (rest := []) (wr := []) ⟨hx, hb, hml, hown, hts⟩ (c_X5_reach (l := l) (E := E) (sz := _) (mo := mo) (mA := mA) (mK := mK) (mH := mH) (mS := mS) (mV := mV) (mF := mF) (mP := mP) (mR := mR) (hy := hy) (pl := pl) (sp := sp) (nu := nu) (rm := rm) (n := n) (k := k) (Al := Al) (q := mlo Al r) (w := (nI 1) <<< ((nI r) &&& 31)) (z := (-6)) (gA1 := by first | assumption | omega) (gk := by first | assumption | omega) (gok := by first | assumption | omega) (gq := (gok r gr).2.1)) (cwV 3 hts gX5_pairsLost_X5_reach rfl rfl rfl (by decide +kernel) ⟨by rw [hR]; decide, by rw [hR]; decide⟩) hK hN hP hD hS hA [0, 1] [] rfl (by decide) rfl (by decide) (by decide) 0 5 rfl rfl rfl hl.1 rfl (Nat.le_of_ble_eq_true rfl) dX5_pairsLost_22 ⟨Nat.zero_le _, Nat.zero_le _⟩ (fun H locs hP hD hS => ?_)
    have hP : va_P E.1 vwCl [(mo, .inr (5, [.ref mA, .ref mK, .ref mH, .int hy, .ref mS, .ref mV, .ref mF, .ref mP, .int pl, .int sp, .int nu, .ref mR, .int rm])), (mA, aI E 92 Al)] H := hP
    have hD : va_D A [(mo, .inr (5, [.ref mA, .ref mK, .ref mH, .int hy, .ref mS, .ref mV, .ref mF, .ref mP, .int pl, .int sp, .int nu, .ref mR, .int rm])), (mA, aI E 92 Al)] := hD
    refine kS_i (E := E) (As := [.int (rsM Al ((nI 1) <<< ((nI r) &&& 31)) ((-6)) k (mlo Al r))]) (rest := []) (wr := [(mo, .inr (5, [.ref mA, .ref mK, .ref mH, .int hy, .ref mS, .ref mV, .ref mF, .ref mP, .int pl, .int sp, .int nu, .ref mR, .int rm])), (mA, aI E 92 Al)]) ⟨hx, hb, hml, hown, hts⟩ (c_X5_bits (l := l) (E := E) (sz := _) (x := rsM Al ((nI 1) <<< ((nI r) &&& 31)) ((-6)) k (mlo Al r)) ) (cwS 1 hts gX5_pairsLost_X5_bits rfl rfl rfl (by decide +kernel) ⟨by rw [hR]; decide, by rw [hR]; decide⟩) hK hN hP hD hS hA [] [0, 1] rfl (by decide) rfl (by decide) (by decide) rfl hl.1 rfl (Nat.le_of_ble_eq_true rfl) dX5_pairsLost_25 ⟨Nat.zero_le _, Nat.zero_le _⟩ (fun H locs hP hD hS => ?_)
    have hP : va_P E.1 vwCl [(mo, .inr (5, [.ref mA, .ref mK, .ref mH, .int hy, .ref mS, .ref mV, .ref mF, .ref mP, .int pl, .int sp, .int nu, .ref mR, .int rm])), (mA, aI E 92 Al)] H := hP
    have hD : va_D A [(mo, .inr (5, [.ref mA, .ref mK, .ref mH, .int hy, .ref mS, .ref mV, .ref mF, .ref mP, .int pl, .int sp, .int nu, .ref mR, .int rm])), (mA, aI E 92 Al)] := hD
    refine lv_aload_n hx hb dX5_pairsLost_28 rfl (lv_at hl 0 rfl) ?_
    refine lv_aload_n hx hb dX5_pairsLost_29 rfl (lv_at hl 0 rfl) ?_
    refine rk_get (ci := 5) (C := RX5) (T := TX5) (N := 13) hx hb hts iw_X5_pairsLost_5 hown hK hP 0 rfl rfl 0 (by decide) fl_X5_pairsLost_7 rfl (v := .ref mA) rfl dX5_pairsLost_30 ?_
    refine lv_bipush (v := nI 32) hx hb dX5_pairsLost_33 (by decide) ?_
    refine lv_iload_n hx hb dX5_pairsLost_35 rfl (lv_at hl 1 rfl) ?_
    refine rk_iaddN hx hb dX5_pairsLost_36 ?_
    refine rk_iald hx hb hK hP 1 rfl (by omega) (by omega) (v := nI (mhi Al r)) ((gok r (by omega)).2.2.1) dX5_pairsLost_37 ?_
    refine lv_iconst (v := nI 1) hx hb dX5_pairsLost_38 (by decide) ?_
    refine lv_iload_n hx hb dX5_pairsLost_39 rfl (lv_at hl 1 rfl) ?_
    refine lv_ishl hx hb dX5_pairsLost_40 ?_
    refine lv_bipush (v := (-6)) hx hb dX5_pairsLost_41 (by decide) ?_
    refine kV_i (E := E) (As := [.int (nI (mhi Al r)), .int ((nI 1) <<< ((nI r) &&& 31)), .int ((-6))]) (rest := [.int (nI (popc (rsM Al ((nI 1) <<< ((nI r) &&& 31)) ((-6)) k (mlo Al r))))]) (wr := []) ⟨hx, hb, hml, hown, hts⟩ (c_X5_reach (l := l) (E := E) (sz := _) (mo := mo) (mA := mA) (mK := mK) (mH := mH) (mS := mS) (mV := mV) (mF := mF) (mP := mP) (mR := mR) (hy := hy) (pl := pl) (sp := sp) (nu := nu) (rm := rm) (n := n) (k := k) (Al := Al) (q := mhi Al r) (w := (nI 1) <<< ((nI r) &&& 31)) (z := (-6)) (gA1 := by first | assumption | omega) (gk := by first | assumption | omega) (gok := by first | assumption | omega) (gq := (gok r gr).2.2.2)) (cwV 3 hts gX5_pairsLost_X5_reach rfl rfl rfl (by decide +kernel) ⟨by rw [hR]; decide, by rw [hR]; decide⟩) hK hN hP hD hS hA [0, 1] [] rfl (by decide) rfl (by decide) (by decide) 0 5 rfl rfl rfl hl.1 rfl (Nat.le_of_ble_eq_true rfl) dX5_pairsLost_43 ⟨Nat.zero_le _, Nat.zero_le _⟩ (fun H locs hP hD hS => ?_)
    have hP : va_P E.1 vwCl [(mo, .inr (5, [.ref mA, .ref mK, .ref mH, .int hy, .ref mS, .ref mV, .ref mF, .ref mP, .int pl, .int sp, .int nu, .ref mR, .int rm])), (mA, aI E 92 Al)] H := hP
    have hD : va_D A [(mo, .inr (5, [.ref mA, .ref mK, .ref mH, .int hy, .ref mS, .ref mV, .ref mF, .ref mP, .int pl, .int sp, .int nu, .ref mR, .int rm])), (mA, aI E 92 Al)] := hD
    refine kS_i (E := E) (As := [.int (rsM Al ((nI 1) <<< ((nI r) &&& 31)) ((-6)) k (mhi Al r))]) (rest := [.int (nI (popc (rsM Al ((nI 1) <<< ((nI r) &&& 31)) ((-6)) k (mlo Al r))))]) (wr := [(mo, .inr (5, [.ref mA, .ref mK, .ref mH, .int hy, .ref mS, .ref mV, .ref mF, .ref mP, .int pl, .int sp, .int nu, .ref mR, .int rm])), (mA, aI E 92 Al)]) ⟨hx, hb, hml, hown, hts⟩ (c_X5_bits (l := l) (E := E) (sz := _) (x := rsM Al ((nI 1) <<< ((nI r) &&& 31)) ((-6)) k (mhi Al r)) ) (cwS 1 hts gX5_pairsLost_X5_bits rfl rfl rfl (by decide +kernel) ⟨by rw [hR]; decide, by rw [hR]; decide⟩) hK hN hP hD hS hA [] [0, 1] rfl (by decide) rfl (by decide) (by decide) rfl hl.1 rfl (Nat.le_of_ble_eq_true rfl) dX5_pairsLost_46 ⟨Nat.zero_le _, Nat.zero_le _⟩ (fun H locs hP hD hS => ?_)
    have hP : va_P E.1 vwCl [(mo, .inr (5, [.ref mA, .ref mK, .ref mH, .int hy, .ref mS, .ref mV, .ref mF, .ref mP, .int pl, .int sp, .int nu, .ref mR, .int rm])), (mA, aI E 92 Al)] H := hP
    have hD : va_D A [(mo, .inr (5, [.ref mA, .ref mK, .ref mH, .int hy, .ref mS, .ref mV, .ref mF, .ref mP, .int pl, .int sp, .int nu, .ref mR, .int rm])), (mA, aI E 92 Al)] := hD
    refine rk_imulN hx hb dX5_pairsLost_49 ?_
    refine lv_goto (tgt := 54) hx hb dX5_pairsLost_50 (by decide) ?_
    exact ret_i hQ hx hb hr hlocks (hP.sub [0, 1] rfl) (hD.sub [0, 1] (by decide) rfl) hS dX5_pairsLost_54 (by rw [plM, if_pos zc5])
set_option maxHeartbeats 400000 in
set_option maxRecDepth 100000 in
theorem c_X5_morePieces (l : Launch) (E : EE) (sz : Nat) (mo mA mK mH mS mV mF mP mR : Nat) (hy pl sp nu rm : Int32) (n k : Nat) (Al : Nat → Int32) (x : Nat) (gA0 : Al 0 = nI n) (gn : n ≤ 16) (gA1 : Al 1 = nI k) (gk : k ≤ 30) (gok : okA Al k) (gx : x < 16) : Ci l yX5_morePieces wsX5_morePieces 4 93 E [.ref mo, .int (nI x)] [(mo, .inr (5, [.ref mA, .ref mK, .ref mH, .int hy, .ref mS, .ref mV, .ref mF, .ref mP, .int pl, .int sp, .int nu, .ref mR, .int rm])), (mA, aI E 92 Al)] sz (mpM Al k n x) [(mo, .inr (5, [.ref mA, .ref mK, .ref mH, .int hy, .ref mS, .ref mV, .ref mF, .ref mP, .int pl, .int sp, .int nu, .ref mR, .int rm])), (mA, aI E 92 Al)] := by
  refine C_of (QQ := QI E (mpM Al k n x) [(mo, .inr (5, [.ref mA, .ref mK, .ref mH, .int hy, .ref mS, .ref mV, .ref mF, .ref mP, .int pl, .int sp, .int nu, .ref mR, .int rm])), (mA, aI E 92 Al)]) (cc := cX5_morePieces) (maxL := 3) (ret := (some .int)) (by decide +kernel) rfl (Nat.le_of_ble_eq_true rfl) ?_
  intro p e s m args below meth c A R Q ls hx hb hr hts hown hml hlocks hA hK hN hP hD hS hl hR hQ
  have hown : s.vm.findClass RX5 = some m.cls := hown
  have hl : lv_has ls 3 [(0, .ref mo), (1, .int (nI x))] := hl
  refine lv_aload_n hx hb dX5_morePieces_0 rfl (lv_at hl 0 rfl) ?_
  refine kV_i (E := E) (As := []) (rest := []) (wr := []) ⟨hx, hb, hml, hown, hts⟩ (c_X5_pieces (l := l) (E := E) (sz := _) (mo := mo) (mA := mA) (mK := mK) (mH := mH) (mS := mS) (mV := mV) (mF := mF) (mP := mP) (mR := mR) (hy := hy) (pl := pl) (sp := sp) (nu := nu) (rm := rm) (n := n) (k := k) (Al := Al) (gA0 := by first | assumption | omega) (gn := by first | assumption | omega) (gA1 := by first | assumption | omega) (gk := by first | assumption | omega) (gok := by first | assumption | omega)) (cwV 0 hts gX5_morePieces_X5_pieces rfl rfl rfl (by decide +kernel) ⟨by rw [hR]; decide, by rw [hR]; decide⟩) hK hN hP hD hS hA [0, 1] [] rfl (by decide) rfl (by decide) (by decide) 0 5 rfl rfl rfl hl.1 rfl (Nat.le_of_ble_eq_true rfl) dX5_morePieces_1 ⟨Nat.zero_le _, Nat.zero_le _⟩ (fun H locs hP hD hS => ?_)
  have hP : va_P E.1 vwCl [(mo, .inr (5, [.ref mA, .ref mK, .ref mH, .int hy, .ref mS, .ref mV, .ref mF, .ref mP, .int pl, .int sp, .int nu, .ref mR, .int rm])), (mA, aI E 92 Al)] H := hP
  have hD : va_D A [(mo, .inr (5, [.ref mA, .ref mK, .ref mH, .int hy, .ref mS, .ref mV, .ref mF, .ref mP, .int pl, .int sp, .int nu, .ref mR, .int rm])), (mA, aI E 92 Al)] := hD
  refine lv_aload_n hx hb dX5_morePieces_4 rfl (lv_at hl 0 rfl) ?_
  refine lv_iload_n hx hb dX5_morePieces_5 rfl (lv_at hl 1 rfl) ?_
  refine kV_i (E := E) (As := [.int (nI x)]) (rest := [.int (nI (piM Al k n))]) (wr := []) ⟨hx, hb, hml, hown, hts⟩ (c_X5_pieceOf (l := l) (E := E) (sz := _) (mo := mo) (mA := mA) (mK := mK) (mH := mH) (mS := mS) (mV := mV) (mF := mF) (mP := mP) (mR := mR) (hy := hy) (pl := pl) (sp := sp) (nu := nu) (rm := rm) (n := n) (k := k) (Al := Al) (q := x) (gA1 := by first | assumption | omega) (gk := by first | assumption | omega) (gok := by first | assumption | omega) (gq := gx)) (cwV 1 hts gX5_morePieces_X5_pieceOf rfl rfl rfl (by decide +kernel) ⟨by rw [hR]; decide, by rw [hR]; decide⟩) hK hN hP hD hS hA [0, 1] [] rfl (by decide) rfl (by decide) (by decide) 0 5 rfl rfl rfl hl.1 rfl (Nat.le_of_ble_eq_true rfl) dX5_morePieces_6 ⟨Nat.zero_le _, Nat.zero_le _⟩ (fun H locs hP hD hS => ?_)
  have hP : va_P E.1 vwCl [(mo, .inr (5, [.ref mA, .ref mK, .ref mH, .int hy, .ref mS, .ref mV, .ref mF, .ref mP, .int pl, .int sp, .int nu, .ref mR, .int rm])), (mA, aI E 92 Al)] H := hP
  have hD : va_D A [(mo, .inr (5, [.ref mA, .ref mK, .ref mH, .int hy, .ref mS, .ref mV, .ref mF, .ref mP, .int pl, .int sp, .int nu, .ref mR, .int rm])), (mA, aI E 92 Al)] := hD
  refine lv_iconst (v := nI 1) hx hb dX5_morePieces_9 (by decide) ?_
  refine lv_iload_n hx hb dX5_morePieces_10 rfl (lv_at hl 1 rfl) ?_
  refine lv_ishl hx hb dX5_morePieces_11 ?_
  refine lv_icmp_ne (tgt := 19) hx hb dX5_morePieces_12 (by decide) (fun zc12 => ?_) (fun zc12 => ?_)
  · refine lv_iconst (v := nI 0) hx hb dX5_morePieces_19 (by decide) ?_
    refine lv_isub hx hb dX5_morePieces_20 ?_
    refine lv_istore_n (lv' := [(2, .int ((nI (piM Al k n)) - (nI 0))), (0, .ref mo), (1, .int (nI x))]) hx hb dX5_morePieces_21 rfl hl (by decide) rfl (fun ls hl => ?_)
    refine lv_aload_n hx hb dX5_morePieces_22 rfl (lv_at hl 1 rfl) ?_
    refine lv_iconst (v := nI 0) hx hb dX5_morePieces_23 (by decide) ?_
    refine lv_iload_n hx hb dX5_morePieces_24 rfl (lv_at hl 2 rfl) ?_
    refine kV_i (E := E) (As := [.int (nI 0), .int (nI x)]) (rest := []) (wr := []) ⟨hx, hb, hml, hown, hts⟩ (c_X5_piecesWithout (l := l) (E := E) (sz := _) (mo := mo) (mA := mA) (mK := mK) (mH := mH) (mS := mS) (mV := mV) (mF := mF) (mP := mP) (mR := mR) (hy := hy) (pl := pl) (sp := sp) (nu := nu) (rm := rm) (n := n) (k := k) (Al := Al) (w := nI 0) (z := nI x) (gA0 := by first | assumption | omega) (gn := by first | assumption | omega) (gA1 := by first | assumption | omega) (gk := by first | assumption | omega) (gok := by first | assumption | omega)) (cwV 2 hts gX5_morePieces_X5_piecesWithout rfl rfl rfl (by decide +kernel) ⟨by rw [hR]; decide, by rw [hR]; decide⟩) hK hN hP hD hS hA [0, 1] [] rfl (by decide) rfl (by decide) (by decide) 0 5 rfl rfl rfl hl.1 rfl (Nat.le_of_ble_eq_true rfl) dX5_morePieces_25 ⟨Nat.zero_le _, Nat.zero_le _⟩ (fun H locs hP hD hS => ?_)
    have hP : va_P E.1 vwCl [(mo, .inr (5, [.ref mA, .ref mK, .ref mH, .int hy, .ref mS, .ref mV, .ref mF, .ref mP, .int pl, .int sp, .int nu, .ref mR, .int rm])), (mA, aI E 92 Al)] H := hP
    have hD : va_D A [(mo, .inr (5, [.ref mA, .ref mK, .ref mH, .int hy, .ref mS, .ref mV, .ref mF, .ref mP, .int pl, .int sp, .int nu, .ref mR, .int rm])), (mA, aI E 92 Al)] := hD
    refine lv_iload_n hx hb dX5_morePieces_28 rfl (lv_at hl 0 rfl) ?_
    refine lv_isub hx hb dX5_morePieces_29 ?_
    exact ret_i hQ hx hb hr hlocks (hP.sub [0, 1] rfl) (hD.sub [0, 1] (by decide) rfl) hS dX5_morePieces_30 (by rw [mpM, if_neg zc12])
  · refine lv_iconst (v := nI 1) hx hb dX5_morePieces_15 (by decide) ?_
    refine lv_goto (tgt := 20) hx hb dX5_morePieces_16 (by decide) ?_
    refine lv_isub hx hb dX5_morePieces_20 ?_
    refine lv_istore_n (lv' := [(2, .int ((nI (piM Al k n)) - (nI 1))), (0, .ref mo), (1, .int (nI x))]) hx hb dX5_morePieces_21 rfl hl (by decide) rfl (fun ls hl => ?_)
    refine lv_aload_n hx hb dX5_morePieces_22 rfl (lv_at hl 1 rfl) ?_
    refine lv_iconst (v := nI 0) hx hb dX5_morePieces_23 (by decide) ?_
    refine lv_iload_n hx hb dX5_morePieces_24 rfl (lv_at hl 2 rfl) ?_
    refine kV_i (E := E) (As := [.int (nI 0), .int (nI x)]) (rest := []) (wr := []) ⟨hx, hb, hml, hown, hts⟩ (c_X5_piecesWithout (l := l) (E := E) (sz := _) (mo := mo) (mA := mA) (mK := mK) (mH := mH) (mS := mS) (mV := mV) (mF := mF) (mP := mP) (mR := mR) (hy := hy) (pl := pl) (sp := sp) (nu := nu) (rm := rm) (n := n) (k := k) (Al := Al) (w := nI 0) (z := nI x) (gA0 := by first | assumption | omega) (gn := by first | assumption | omega) (gA1 := by first | assumption | omega) (gk := by first | assumption | omega) (gok := by first | assumption | omega)) (cwV 2 hts gX5_morePieces_X5_piecesWithout rfl rfl rfl (by decide +kernel) ⟨by rw [hR]; decide, by rw [hR]; decide⟩) hK hN hP hD hS hA [0, 1] [] rfl (by decide) rfl (by decide) (by decide) 0 5 rfl rfl rfl hl.1 rfl (Nat.le_of_ble_eq_true rfl) dX5_morePieces_25 ⟨Nat.zero_le _, Nat.zero_le _⟩ (fun H locs hP hD hS => ?_)
    have hP : va_P E.1 vwCl [(mo, .inr (5, [.ref mA, .ref mK, .ref mH, .int hy, .ref mS, .ref mV, .ref mF, .ref mP, .int pl, .int sp, .int nu, .ref mR, .int rm])), (mA, aI E 92 Al)] H := hP
    have hD : va_D A [(mo, .inr (5, [.ref mA, .ref mK, .ref mH, .int hy, .ref mS, .ref mV, .ref mF, .ref mP, .int pl, .int sp, .int nu, .ref mR, .int rm])), (mA, aI E 92 Al)] := hD
    refine lv_iload_n hx hb dX5_morePieces_28 rfl (lv_at hl 0 rfl) ?_
    refine lv_isub hx hb dX5_morePieces_29 ?_
    exact ret_i hQ hx hb hr hlocks (hP.sub [0, 1] rfl) (hD.sub [0, 1] (by decide) rfl) hS dX5_morePieces_30 (by rw [mpM, if_pos zc12])
theorem iw_X5_adds_5 : ∀ w ∈ u_ws RX5 TX5 13, w ∈ wsX5_adds := by decide +kernel
theorem fl_X5_adds_7 : Cond.fieldLink RX5 7 (TX5 0).1 (TX5 0).2.1 (TX5 0).2.2.1 ∈ wsX5_adds := by decide +kernel
set_option maxHeartbeats 400000 in
set_option maxRecDepth 100000 in
theorem c_X5_adds (l : Launch) (E : EE) (sz : Nat) (mo mA mK mH mS mV mF mP mR : Nat) (hy pl sp nu rm : Int32) (k : Nat) (Al : Nat → Int32) (x y z9 : Int32) (gA1 : Al 1 = nI k) (gk2 : k < 30) : Cv l yX5_adds wsX5_adds 0 0 E [.ref mo, .int x, .int y, .int z9] [(mo, .inr (5, [.ref mA, .ref mK, .ref mH, .int hy, .ref mS, .ref mV, .ref mF, .ref mP, .int pl, .int sp, .int nu, .ref mR, .int rm])), (mA, aI E 92 Al)] sz [(mo, .inr (5, [.ref mA, .ref mK, .ref mH, .int hy, .ref mS, .ref mV, .ref mF, .ref mP, .int pl, .int sp, .int nu, .ref mR, .int rm])), (mA, aI E 92 (upd (upd (upd (upd Al (2 + k) (if y ≤ x then y else x)) (32 + k) (if y ≤ x then x else y)) (62 + k) z9) 1 (nI (k + 1))))] := by
  refine C_of (QQ := QV E [(mo, .inr (5, [.ref mA, .ref mK, .ref mH, .int hy, .ref mS, .ref mV, .ref mF, .ref mP, .int pl, .int sp, .int nu, .ref mR, .int rm])), (mA, aI E 92 (upd (upd (upd (upd Al (2 + k) (if y ≤ x then y else x)) (32 + k) (if y ≤ x then x else y)) (62 + k) z9) 1 (nI (k + 1))))]) (cc := cX5_adds) (maxL := 4) (ret := none) (by decide +kernel) rfl (Nat.le_of_ble_eq_true rfl) ?_
  intro p e s m args below meth c A R Q ls hx hb hr hts hown hml hlocks hA hK hN hP hD hS hl hR hQ
  have hown : s.vm.findClass RX5 = some m.cls := hown
  have hl : lv_has ls 4 [(0, .ref mo), (1, .int x), (2, .int y), (3, .int z9)] := hl
  refine lv_aload_n hx hb dX5_adds_0 rfl (lv_at hl 0 rfl) ?_
  refine rk_get (ci := 5) (C := RX5) (T := TX5) (N := 13) hx hb hts iw_X5_adds_5 hown hK hP 0 rfl rfl 0 (by decide) fl_X5_adds_7 rfl (v := .ref mA) rfl dX5_adds_1 ?_
  refine lv_iconst (v := nI 2) hx hb dX5_adds_4 (by decide) ?_
  refine lv_aload_n hx hb dX5_adds_5 rfl (lv_at hl 0 rfl) ?_
  refine rk_get (ci := 5) (C := RX5) (T := TX5) (N := 13) hx hb hts iw_X5_adds_5 hown hK hP 0 rfl rfl 0 (by decide) fl_X5_adds_7 rfl (v := .ref mA) rfl dX5_adds_6 ?_
  refine lv_iconst (v := nI 1) hx hb dX5_adds_9 (by decide) ?_
  refine rk_iald hx hb hK hP 1 rfl (by omega) (by omega) (v := nI k) (by exact gA1) dX5_adds_10 ?_
  refine rk_iaddN hx hb dX5_adds_11 ?_
  refine lv_iload_n hx hb dX5_adds_12 rfl (lv_at hl 1 rfl) ?_
  refine lv_iload_n hx hb dX5_adds_13 rfl (lv_at hl 2 rfl) ?_
  refine lv_icmp_ge (tgt := 21) hx hb dX5_adds_14 (by decide) (fun zc14 => ?_) (fun zc14 => ?_)
  · refine lv_iload_n hx hb dX5_adds_21 rfl (lv_at hl 2 rfl) ?_
    refine rk_iast hx hb hK hP hD hS 1 rfl (by omega) (by omega) (ws' := [(mo, .inr (5, [.ref mA, .ref mK, .ref mH, .int hy, .ref mS, .ref mV, .ref mF, .ref mP, .int pl, .int sp, .int nu, .ref mR, .int rm])), (mA, aI E 92 (upd Al (2 + k) y))]) rfl dX5_adds_22 (fun H locs hP hD hS => ?_)
    refine lv_aload_n hx hb dX5_adds_23 rfl (lv_at hl 0 rfl) ?_
    refine rk_get (ci := 5) (C := RX5) (T := TX5) (N := 13) hx hb hts iw_X5_adds_5 hown hK hP 0 rfl rfl 0 (by decide) fl_X5_adds_7 rfl (v := .ref mA) rfl dX5_adds_24 ?_
    refine lv_bipush (v := nI 32) hx hb dX5_adds_27 (by decide) ?_
    refine lv_aload_n hx hb dX5_adds_29 rfl (lv_at hl 0 rfl) ?_
    refine rk_get (ci := 5) (C := RX5) (T := TX5) (N := 13) hx hb hts iw_X5_adds_5 hown hK hP 0 rfl rfl 0 (by decide) fl_X5_adds_7 rfl (v := .ref mA) rfl dX5_adds_30 ?_
    refine lv_iconst (v := nI 1) hx hb dX5_adds_33 (by decide) ?_
    refine rk_iald hx hb hK hP 1 rfl (by omega) (by omega) (v := nI k) (by rw [pk_un (by omega)]; exact gA1) dX5_adds_34 ?_
    refine rk_iaddN hx hb dX5_adds_35 ?_
    refine lv_iload_n hx hb dX5_adds_36 rfl (lv_at hl 1 rfl) ?_
    refine lv_iload_n hx hb dX5_adds_37 rfl (lv_at hl 2 rfl) ?_
    refine lv_icmp_ge (tgt := 45) hx hb dX5_adds_38 (by decide) (fun zc38 => ?_) (fun q => absurd zc14 q)
    refine lv_iload_n hx hb dX5_adds_45 rfl (lv_at hl 1 rfl) ?_
    refine rk_iast hx hb hK hP hD hS 1 rfl (by omega) (by omega) (ws' := [(mo, .inr (5, [.ref mA, .ref mK, .ref mH, .int hy, .ref mS, .ref mV, .ref mF, .ref mP, .int pl, .int sp, .int nu, .ref mR, .int rm])), (mA, aI E 92 (upd (upd Al (2 + k) y) (32 + k) x))]) rfl dX5_adds_46 (fun H locs hP hD hS => ?_)
    refine lv_aload_n hx hb dX5_adds_47 rfl (lv_at hl 0 rfl) ?_
    refine rk_get (ci := 5) (C := RX5) (T := TX5) (N := 13) hx hb hts iw_X5_adds_5 hown hK hP 0 rfl rfl 0 (by decide) fl_X5_adds_7 rfl (v := .ref mA) rfl dX5_adds_48 ?_
    refine lv_bipush (v := nI 62) hx hb dX5_adds_51 (by decide) ?_
    refine lv_aload_n hx hb dX5_adds_53 rfl (lv_at hl 0 rfl) ?_
    refine rk_get (ci := 5) (C := RX5) (T := TX5) (N := 13) hx hb hts iw_X5_adds_5 hown hK hP 0 rfl rfl 0 (by decide) fl_X5_adds_7 rfl (v := .ref mA) rfl dX5_adds_54 ?_
    refine lv_iconst (v := nI 1) hx hb dX5_adds_57 (by decide) ?_
    refine rk_iald hx hb hK hP 1 rfl (by omega) (by omega) (v := nI k) (by rw [pk_un (by omega)]; rw [pk_un (by omega)]; exact gA1) dX5_adds_58 ?_
    refine rk_iaddN hx hb dX5_adds_59 ?_
    refine lv_iload_n hx hb dX5_adds_60 rfl (lv_at hl 3 rfl) ?_
    refine rk_iast hx hb hK hP hD hS 1 rfl (by omega) (by omega) (ws' := [(mo, .inr (5, [.ref mA, .ref mK, .ref mH, .int hy, .ref mS, .ref mV, .ref mF, .ref mP, .int pl, .int sp, .int nu, .ref mR, .int rm])), (mA, aI E 92 (upd (upd (upd Al (2 + k) y) (32 + k) x) (62 + k) z9))]) rfl dX5_adds_61 (fun H locs hP hD hS => ?_)
    refine lv_aload_n hx hb dX5_adds_62 rfl (lv_at hl 0 rfl) ?_
    refine rk_get (ci := 5) (C := RX5) (T := TX5) (N := 13) hx hb hts iw_X5_adds_5 hown hK hP 0 rfl rfl 0 (by decide) fl_X5_adds_7 rfl (v := .ref mA) rfl dX5_adds_63 ?_
    refine lv_iconst (v := nI 1) hx hb dX5_adds_66 (by decide) ?_
    refine lv_dup2_11 hx hb dX5_adds_67 rfl rfl ?_
    refine rk_iald hx hb hK hP 1 rfl (by omega) (by omega) (v := nI k) (by rw [pk_un (by omega)]; rw [pk_un (by omega)]; rw [pk_un (by omega)]; exact gA1) dX5_adds_68 ?_
    refine lv_iconst (v := nI 1) hx hb dX5_adds_69 (by decide) ?_
    refine rk_iaddN hx hb dX5_adds_70 ?_
    refine rk_iast hx hb hK hP hD hS 1 rfl (by omega) (by omega) (ws' := [(mo, .inr (5, [.ref mA, .ref mK, .ref mH, .int hy, .ref mS, .ref mV, .ref mF, .ref mP, .int pl, .int sp, .int nu, .ref mR, .int rm])), (mA, aI E 92 (upd (upd (upd (upd Al (2 + k) y) (32 + k) x) (62 + k) z9) 1 (nI (k + 1))))]) rfl dX5_adds_71 (fun H locs hP hD hS => ?_)
    have hP9 : va_P E.1 vwCl [(mo, .inr (5, [.ref mA, .ref mK, .ref mH, .int hy, .ref mS, .ref mV, .ref mF, .ref mP, .int pl, .int sp, .int nu, .ref mR, .int rm])), (mA, aI E 92 (upd (upd (upd (upd Al (2 + k) y) (32 + k) x) (62 + k) z9) 1 (nI (k + 1))))] _ := hP.sub [0, 1] rfl
    have hD9 : va_D A [(mo, .inr (5, [.ref mA, .ref mK, .ref mH, .int hy, .ref mS, .ref mV, .ref mF, .ref mP, .int pl, .int sp, .int nu, .ref mR, .int rm])), (mA, aI E 92 (upd (upd (upd (upd Al (2 + k) y) (32 + k) x) (62 + k) z9) 1 (nI (k + 1))))] := hD.sub [0, 1] (by decide) rfl
    have hW9 : ([(mo, .inr (5, [.ref mA, .ref mK, .ref mH, .int hy, .ref mS, .ref mV, .ref mF, .ref mP, .int pl, .int sp, .int nu, .ref mR, .int rm])), (mA, aI E 92 (upd (upd (upd (upd Al (2 + k) y) (32 + k) x) (62 + k) z9) 1 (nI (k + 1))))] : va_W) = [(mo, .inr (5, [.ref mA, .ref mK, .ref mH, .int hy, .ref mS, .ref mV, .ref mF, .ref mP, .int pl, .int sp, .int nu, .ref mR, .int rm])), (mA, aI E 92 (upd (upd (upd (upd Al (2 + k) (if y ≤ x then y else x)) (32 + k) (if y ≤ x then x else y)) (62 + k) z9) 1 (nI (k + 1))))] := by rw [if_pos zc14, if_pos zc14]
    rw [hW9] at hP9 hD9
    exact ret_v hQ hx hb hr hlocks hP9 hD9 hS dX5_adds_72
  · refine lv_iload_n hx hb dX5_adds_17 rfl (lv_at hl 1 rfl) ?_
    refine lv_goto (tgt := 22) hx hb dX5_adds_18 (by decide) ?_
    refine rk_iast hx hb hK hP hD hS 1 rfl (by omega) (by omega) (ws' := [(mo, .inr (5, [.ref mA, .ref mK, .ref mH, .int hy, .ref mS, .ref mV, .ref mF, .ref mP, .int pl, .int sp, .int nu, .ref mR, .int rm])), (mA, aI E 92 (upd Al (2 + k) x))]) rfl dX5_adds_22 (fun H locs hP hD hS => ?_)
    refine lv_aload_n hx hb dX5_adds_23 rfl (lv_at hl 0 rfl) ?_
    refine rk_get (ci := 5) (C := RX5) (T := TX5) (N := 13) hx hb hts iw_X5_adds_5 hown hK hP 0 rfl rfl 0 (by decide) fl_X5_adds_7 rfl (v := .ref mA) rfl dX5_adds_24 ?_
    refine lv_bipush (v := nI 32) hx hb dX5_adds_27 (by decide) ?_
    refine lv_aload_n hx hb dX5_adds_29 rfl (lv_at hl 0 rfl) ?_
    refine rk_get (ci := 5) (C := RX5) (T := TX5) (N := 13) hx hb hts iw_X5_adds_5 hown hK hP 0 rfl rfl 0 (by decide) fl_X5_adds_7 rfl (v := .ref mA) rfl dX5_adds_30 ?_
    refine lv_iconst (v := nI 1) hx hb dX5_adds_33 (by decide) ?_
    refine rk_iald hx hb hK hP 1 rfl (by omega) (by omega) (v := nI k) (by rw [pk_un (by omega)]; exact gA1) dX5_adds_34 ?_
    refine rk_iaddN hx hb dX5_adds_35 ?_
    refine lv_iload_n hx hb dX5_adds_36 rfl (lv_at hl 1 rfl) ?_
    refine lv_iload_n hx hb dX5_adds_37 rfl (lv_at hl 2 rfl) ?_
    refine lv_icmp_ge (tgt := 45) hx hb dX5_adds_38 (by decide) (fun q => absurd q zc14) (fun zc38 => ?_)
    refine lv_iload_n hx hb dX5_adds_41 rfl (lv_at hl 2 rfl) ?_
    refine lv_goto (tgt := 46) hx hb dX5_adds_42 (by decide) ?_
    refine rk_iast hx hb hK hP hD hS 1 rfl (by omega) (by omega) (ws' := [(mo, .inr (5, [.ref mA, .ref mK, .ref mH, .int hy, .ref mS, .ref mV, .ref mF, .ref mP, .int pl, .int sp, .int nu, .ref mR, .int rm])), (mA, aI E 92 (upd (upd Al (2 + k) x) (32 + k) y))]) rfl dX5_adds_46 (fun H locs hP hD hS => ?_)
    refine lv_aload_n hx hb dX5_adds_47 rfl (lv_at hl 0 rfl) ?_
    refine rk_get (ci := 5) (C := RX5) (T := TX5) (N := 13) hx hb hts iw_X5_adds_5 hown hK hP 0 rfl rfl 0 (by decide) fl_X5_adds_7 rfl (v := .ref mA) rfl dX5_adds_48 ?_
    refine lv_bipush (v := nI 62) hx hb dX5_adds_51 (by decide) ?_
    refine lv_aload_n hx hb dX5_adds_53 rfl (lv_at hl 0 rfl) ?_
    refine rk_get (ci := 5) (C := RX5) (T := TX5) (N := 13) hx hb hts iw_X5_adds_5 hown hK hP 0 rfl rfl 0 (by decide) fl_X5_adds_7 rfl (v := .ref mA) rfl dX5_adds_54 ?_
    refine lv_iconst (v := nI 1) hx hb dX5_adds_57 (by decide) ?_
    refine rk_iald hx hb hK hP 1 rfl (by omega) (by omega) (v := nI k) (by rw [pk_un (by omega)]; rw [pk_un (by omega)]; exact gA1) dX5_adds_58 ?_
    refine rk_iaddN hx hb dX5_adds_59 ?_
    refine lv_iload_n hx hb dX5_adds_60 rfl (lv_at hl 3 rfl) ?_
    refine rk_iast hx hb hK hP hD hS 1 rfl (by omega) (by omega) (ws' := [(mo, .inr (5, [.ref mA, .ref mK, .ref mH, .int hy, .ref mS, .ref mV, .ref mF, .ref mP, .int pl, .int sp, .int nu, .ref mR, .int rm])), (mA, aI E 92 (upd (upd (upd Al (2 + k) x) (32 + k) y) (62 + k) z9))]) rfl dX5_adds_61 (fun H locs hP hD hS => ?_)
    refine lv_aload_n hx hb dX5_adds_62 rfl (lv_at hl 0 rfl) ?_
    refine rk_get (ci := 5) (C := RX5) (T := TX5) (N := 13) hx hb hts iw_X5_adds_5 hown hK hP 0 rfl rfl 0 (by decide) fl_X5_adds_7 rfl (v := .ref mA) rfl dX5_adds_63 ?_
    refine lv_iconst (v := nI 1) hx hb dX5_adds_66 (by decide) ?_
    refine lv_dup2_11 hx hb dX5_adds_67 rfl rfl ?_
    refine rk_iald hx hb hK hP 1 rfl (by omega) (by omega) (v := nI k) (by rw [pk_un (by omega)]; rw [pk_un (by omega)]; rw [pk_un (by omega)]; exact gA1) dX5_adds_68 ?_
    refine lv_iconst (v := nI 1) hx hb dX5_adds_69 (by decide) ?_
    refine rk_iaddN hx hb dX5_adds_70 ?_
    refine rk_iast hx hb hK hP hD hS 1 rfl (by omega) (by omega) (ws' := [(mo, .inr (5, [.ref mA, .ref mK, .ref mH, .int hy, .ref mS, .ref mV, .ref mF, .ref mP, .int pl, .int sp, .int nu, .ref mR, .int rm])), (mA, aI E 92 (upd (upd (upd (upd Al (2 + k) x) (32 + k) y) (62 + k) z9) 1 (nI (k + 1))))]) rfl dX5_adds_71 (fun H locs hP hD hS => ?_)
    have hP9 : va_P E.1 vwCl [(mo, .inr (5, [.ref mA, .ref mK, .ref mH, .int hy, .ref mS, .ref mV, .ref mF, .ref mP, .int pl, .int sp, .int nu, .ref mR, .int rm])), (mA, aI E 92 (upd (upd (upd (upd Al (2 + k) x) (32 + k) y) (62 + k) z9) 1 (nI (k + 1))))] _ := hP.sub [0, 1] rfl
    have hD9 : va_D A [(mo, .inr (5, [.ref mA, .ref mK, .ref mH, .int hy, .ref mS, .ref mV, .ref mF, .ref mP, .int pl, .int sp, .int nu, .ref mR, .int rm])), (mA, aI E 92 (upd (upd (upd (upd Al (2 + k) x) (32 + k) y) (62 + k) z9) 1 (nI (k + 1))))] := hD.sub [0, 1] (by decide) rfl
    have hW9 : ([(mo, .inr (5, [.ref mA, .ref mK, .ref mH, .int hy, .ref mS, .ref mV, .ref mF, .ref mP, .int pl, .int sp, .int nu, .ref mR, .int rm])), (mA, aI E 92 (upd (upd (upd (upd Al (2 + k) x) (32 + k) y) (62 + k) z9) 1 (nI (k + 1))))] : va_W) = [(mo, .inr (5, [.ref mA, .ref mK, .ref mH, .int hy, .ref mS, .ref mV, .ref mF, .ref mP, .int pl, .int sp, .int nu, .ref mR, .int rm])), (mA, aI E 92 (upd (upd (upd (upd Al (2 + k) (if y ≤ x then y else x)) (32 + k) (if y ≤ x then x else y)) (62 + k) z9) 1 (nI (k + 1))))] := by rw [if_neg zc14, if_neg zc14]
    rw [hW9] at hP9 hD9
    exact ret_v hQ hx hb hr hlocks hP9 hD9 hS dX5_adds_72
theorem iw_X5_findsFar_5 : ∀ w ∈ u_ws RX5 TX5 13, w ∈ wsX5_findsFar := by decide +kernel
theorem fl_X5_findsFar_7 : Cond.fieldLink RX5 7 (TX5 0).1 (TX5 0).2.1 (TX5 0).2.2.1 ∈ wsX5_findsFar := by decide +kernel
theorem fl_X5_findsFar_25 : Cond.fieldLink RX5 25 (TX5 6).1 (TX5 6).2.1 (TX5 6).2.2.1 ∈ wsX5_findsFar := by decide +kernel
theorem ct90_X5_findsFar : Cond.constant RX5 90 (nI 100000) ∈ wsX5_findsFar := by decide +kernel
set_option maxHeartbeats 400000 in
set_option maxRecDepth 100000 in
theorem c_X5_findsFar_len (l : Launch) (E : EE) (sz : Nat) (mo mA mK mH mS mV mF mP mR : Nat) (hy pl sp nu rm : Int32) (n k : Nat) (Al : Nat → Int32) (q : Nat) (w : Int32) (F : Nat → Int32) (gA1 : Al 1 = nI k) (gk : k ≤ 30) (gok : okA Al k) (gq : q < 16) : Cv l yX5_findsFar wsX5_findsFar 0 0 E [.ref mo, .int (nI q), .int w, .int (nI 1)] [(mo, .inr (5, [.ref mA, .ref mK, .ref mH, .int hy, .ref mS, .ref mV, .ref mF, .ref mP, .int pl, .int sp, .int nu, .ref mR, .int rm])), (mA, aI E 92 Al), (mF, aI E 16 F)] sz [(mo, .inr (5, [.ref mA, .ref mK, .ref mH, .int hy, .ref mS, .ref mV, .ref mF, .ref mP, .int pl, .int sp, .int nu, .ref mR, .int rm])), (mA, aI E 92 Al), (mF, aI E 16 (farM Al w true F k q))] := by
  refine C_of (QQ := QV E [(mo, .inr (5, [.ref mA, .ref mK, .ref mH, .int hy, .ref mS, .ref mV, .ref mF, .ref mP, .int pl, .int sp, .int nu, .ref mR, .int rm])), (mA, aI E 92 Al), (mF, aI E 16 (farM Al w true F k q))]) (cc := cX5_findsFar) (maxL := 9) (ret := none) (by decide +kernel) rfl (Nat.le_of_ble_eq_true rfl) ?_
  intro p e s m args below meth c A R Q ls hx hb hr hts hown hml hlocks hA hK hN hP hD hS hl hR hQ
  have hown : s.vm.findClass RX5 = some m.cls := hown
  have hl : lv_has ls 9 [(0, .ref mo), (1, .int (nI q)), (2, .int w), (3, .int (nI 1))] := hl
  refine lv_iconst (v := nI 0) hx hb dX5_findsFar_0 (by decide) ?_
  refine lv_istore (lv' := [(4, .int (nI 0)), (0, .ref mo), (1, .int (nI q)), (2, .int w), (3, .int (nI 1))]) hx hb dX5_findsFar_1 hl (by decide) rfl (fun ls hl => ?_)
  have L3 : ∀ (fu : Nat) (i : Nat) (f : Nat → Int32), (ef : f = fiM F q i) → (gi : i ≤ 16) → 16 - i < fu → ∀ (H : Heap) (locs : List Loc), va_P E.1 vwCl [(mo, .inr (5, [.ref mA, .ref mK, .ref mH, .int hy, .ref mS, .ref mV, .ref mF, .ref mP, .int pl, .int sp, .int nu, .ref mR, .int rm])), (mA, aI E 92 Al), (mF, aI E 16 f)] H → va_D A [(mo, .inr (5, [.ref mA, .ref mK, .ref mH, .int hy, .ref mS, .ref mV, .ref mF, .ref mP, .int pl, .int sp, .int nu, .ref mR, .int rm])), (mA, aI E 92 Al), (mF, aI E 16 f)] → va_S A s.heap H locs → ∀ (ls : Array Slot), lv_has ls 9 [(4, .int (nI i)), (0, .ref mo), (1, .int (nI q)), (2, .int w), (3, .int (nI 1))] → W p l e R s m args below meth c H locs 0 0 Q (F0 m 3 ls []) := by
    intro fu
    induction fu with
    | zero => intro i f ef gi hfu; exact absurd hfu (Nat.not_lt_zero _)
    | succ fu ih3 =>
      intro i f ef gi hfu H locs hP hD hS ls hl
      refine lv_iload hx hb dX5_findsFar_3 (lv_at hl 0 rfl) ?_
      refine lv_bipush (v := nI 16) hx hb dX5_findsFar_5 (by decide) ?_
      refine rk_geN (tgt := 35) hx hb (by omega) (by omega) dX5_findsFar_7 (by decide) (fun zc7 => ?_) (fun zc7 => ?_)
      · obtain rfl : 16 = i := by omega
        subst ef
        refine lv_iconst (v := nI 0) hx hb dX5_findsFar_35 (by decide) ?_
        refine lv_istore (lv' := [(4, .int (nI 0)), (0, .ref mo), (1, .int (nI q)), (2, .int w), (3, .int (nI 1))]) hx hb dX5_findsFar_36 hl (by decide) rfl (fun ls hl => ?_)
        have L38 : ∀ (fu : Nat) (j : Nat) (f2 : Nat → Int32), (ef2 : f2 = frM Al w true (fiM F q 16) k j) → (gj : j ≤ 16) → 16 - j < fu → ∀ (H : Heap) (locs : List Loc), va_P E.1 vwCl [(mo, .inr (5, [.ref mA, .ref mK, .ref mH, .int hy, .ref mS, .ref mV, .ref mF, .ref mP, .int pl, .int sp, .int nu, .ref mR, .int rm])), (mA, aI E 92 Al), (mF, aI E 16 f2)] H → va_D A [(mo, .inr (5, [.ref mA, .ref mK, .ref mH, .int hy, .ref mS, .ref mV, .ref mF, .ref mP, .int pl, .int sp, .int nu, .ref mR, .int rm])), (mA, aI E 92 Al), (mF, aI E 16 f2)] → va_S A s.heap H locs → ∀ (ls : Array Slot), lv_has ls 9 [(4, .int (nI j)), (0, .ref mo), (1, .int (nI q)), (2, .int w), (3, .int (nI 1))] → W p l e R s m args below meth c H locs 0 0 Q (F0 m 38 ls []) := by
          intro fu
          induction fu with
          | zero => intro j f2 ef2 gj hfu; exact absurd hfu (Nat.not_lt_zero _)
          | succ fu ih38 =>
            intro j f2 ef2 gj hfu H locs hP hD hS ls hl
            refine lv_iload hx hb dX5_findsFar_38 (lv_at hl 0 rfl) ?_
            refine lv_bipush (v := nI 16) hx hb dX5_findsFar_40 (by decide) ?_
            refine rk_geN (tgt := 223) hx hb (by omega) (by omega) dX5_findsFar_42 (by decide) (fun zc42 => ?_) (fun zc42 => ?_)
            · obtain rfl : 16 = j := by omega
              subst ef2
              have hP9 : va_P E.1 vwCl [(mo, .inr (5, [.ref mA, .ref mK, .ref mH, .int hy, .ref mS, .ref mV, .ref mF, .ref mP, .int pl, .int sp, .int nu, .ref mR, .int rm])), (mA, aI E 92 Al), (mF, aI E 16 ((frM Al w true (fiM F q 16) k 16)))] _ := hP.sub [0, 1, 2] rfl
              have hD9 : va_D A [(mo, .inr (5, [.ref mA, .ref mK, .ref mH, .int hy, .ref mS, .ref mV, .ref mF, .ref mP, .int pl, .int sp, .int nu, .ref mR, .int rm])), (mA, aI E 92 Al), (mF, aI E 16 ((frM Al w true (fiM F q 16) k 16)))] := hD.sub [0, 1, 2] (by decide) rfl
              have hW9 : ([(mo, .inr (5, [.ref mA, .ref mK, .ref mH, .int hy, .ref mS, .ref mV, .ref mF, .ref mP, .int pl, .int sp, .int nu, .ref mR, .int rm])), (mA, aI E 92 Al), (mF, aI E 16 ((frM Al w true (fiM F q 16) k 16)))] : va_W) = [(mo, .inr (5, [.ref mA, .ref mK, .ref mH, .int hy, .ref mS, .ref mV, .ref mF, .ref mP, .int pl, .int sp, .int nu, .ref mR, .int rm])), (mA, aI E 92 Al), (mF, aI E 16 (farM Al w true F k q))] := by rfl
              rw [hW9] at hP9 hD9
              exact ret_v hQ hx hb hr hlocks hP9 hD9 hS dX5_findsFar_223
            · refine lv_iconst (v := nI 0) hx hb dX5_findsFar_45 (by decide) ?_
              refine lv_istore (lv' := [(5, .int (nI 0)), (4, .int (nI j)), (0, .ref mo), (1, .int (nI q)), (2, .int w), (3, .int (nI 1))]) hx hb dX5_findsFar_46 hl (by decide) rfl (fun ls hl => ?_)
              have L48 : ∀ (fu : Nat) (i : Nat) (f3 : Nat → Int32), (ef3 : f3 = fpM Al w true f2 i) → (gi : i ≤ k) → k - i < fu → ∀ (H : Heap) (locs : List Loc), va_P E.1 vwCl [(mo, .inr (5, [.ref mA, .ref mK, .ref mH, .int hy, .ref mS, .ref mV, .ref mF, .ref mP, .int pl, .int sp, .int nu, .ref mR, .int rm])), (mA, aI E 92 Al), (mF, aI E 16 f3)] H → va_D A [(mo, .inr (5, [.ref mA, .ref mK, .ref mH, .int hy, .ref mS, .ref mV, .ref mF, .ref mP, .int pl, .int sp, .int nu, .ref mR, .int rm])), (mA, aI E 92 Al), (mF, aI E 16 f3)] → va_S A s.heap H locs → ∀ (ls : Array Slot), lv_has ls 9 [(5, .int (nI i)), (4, .int (nI j)), (0, .ref mo), (1, .int (nI q)), (2, .int w), (3, .int (nI 1))] → W p l e R s m args below meth c H locs 0 0 Q (F0 m 48 ls []) := by
                intro fu
                induction fu with
                | zero => intro i f3 ef3 gi hfu; exact absurd hfu (Nat.not_lt_zero _)
                | succ fu ih48 =>
                  intro i f3 ef3 gi hfu H locs hP hD hS ls hl
                  refine lv_iload hx hb dX5_findsFar_48 (lv_at hl 0 rfl) ?_
                  refine lv_aload_n hx hb dX5_findsFar_50 rfl (lv_at hl 2 rfl) ?_
                  refine rk_get (ci := 5) (C := RX5) (T := TX5) (N := 13) hx hb hts iw_X5_findsFar_5 hown hK hP 0 rfl rfl 0 (by decide) fl_X5_findsFar_7 rfl (v := .ref mA) rfl dX5_findsFar_51 ?_
                  refine lv_iconst (v := nI 1) hx hb dX5_findsFar_54 (by decide) ?_
                  refine rk_iald hx hb hK hP 1 rfl (by omega) (by omega) (v := nI k) (by exact gA1) dX5_findsFar_55 ?_
                  refine rk_geN (tgt := 217) hx hb (by omega) (by omega) dX5_findsFar_56 (by decide) (fun zc56 => ?_) (fun zc56 => ?_)
                  · refine lv_iinc (v := nI (j + 1)) (lv' := [(4, .int (nI (j + 1))), (5, .int (nI i)), (0, .ref mo), (1, .int (nI q)), (2, .int w), (3, .int (nI 1))]) hx hb dX5_findsFar_217 hl (k := 1) rfl (by rw [show Int32.ofInt 1 = nI 1 by decide]; exact nI_add _ _) (by decide) rfl (fun ls hl => ?_)
                    refine lv_goto (tgt := 38) hx hb dX5_findsFar_220 (by decide) ?_
                    exact ih38 (j + 1) f3 (by obtain rfl : k = i := (by omega); rw [ef3, ef2]; rfl) (by first | assumption | omega | rfl) (by omega) _ _ (hP.sub [0, 1, 2] rfl) (hD.sub [0, 1, 2] (by decide) rfl) hS ls (lv_sub hl [0, 2, 3, 4, 5] rfl)
                  · refine lv_iload_n hx hb dX5_findsFar_59 rfl (lv_at hl 4 rfl) ?_
                    refine lv_iload hx hb dX5_findsFar_60 (lv_at hl 0 rfl) ?_
                    refine lv_ishr hx hb dX5_findsFar_62 ?_
                    refine lv_iconst (v := nI 1) hx hb dX5_findsFar_63 (by decide) ?_
                    refine lv_iand hx hb dX5_findsFar_64 ?_
                    refine lv_iconst (v := nI 1) hx hb dX5_findsFar_65 (by decide) ?_
                    refine lv_icmp_ne (tgt := 74) hx hb dX5_findsFar_66 (by decide) (fun zc66 => ?_) (fun zc66 => ?_)
                    · refine lv_iload_n hx hb dX5_findsFar_74 rfl (lv_at hl 5 rfl) ?_
                      refine lv_if_eq (tgt := 91) hx hb dX5_findsFar_75 (by decide) (fun q => absurd q (by decide)) (fun _ => ?_)
                      refine lv_aload_n hx hb dX5_findsFar_78 rfl (lv_at hl 2 rfl) ?_
                      refine rk_get (ci := 5) (C := RX5) (T := TX5) (N := 13) hx hb hts iw_X5_findsFar_5 hown hK hP 0 rfl rfl 0 (by decide) fl_X5_findsFar_7 rfl (v := .ref mA) rfl dX5_findsFar_79 ?_
                      refine lv_bipush (v := nI 62) hx hb dX5_findsFar_82 (by decide) ?_
                      refine lv_iload hx hb dX5_findsFar_84 (lv_at hl 0 rfl) ?_
                      refine rk_iaddN hx hb dX5_findsFar_86 ?_
                      refine rk_iald hx hb hK hP 1 rfl (by omega) (by omega) (v := Al (62 + i)) (rfl) dX5_findsFar_87 ?_
                      refine lv_goto (tgt := 92) hx hb dX5_findsFar_88 (by decide) ?_
                      refine lv_istore (lv' := [(6, .int (Al (62 + i))), (5, .int (nI i)), (4, .int (nI j)), (0, .ref mo), (1, .int (nI q)), (2, .int w), (3, .int (nI 1))]) hx hb dX5_findsFar_92 hl (by decide) rfl (fun ls hl => ?_)
                      refine lv_aload_n hx hb dX5_findsFar_94 rfl (lv_at hl 3 rfl) ?_
                      refine rk_get (ci := 5) (C := RX5) (T := TX5) (N := 13) hx hb hts iw_X5_findsFar_5 hown hK hP 0 rfl rfl 0 (by decide) fl_X5_findsFar_7 rfl (v := .ref mA) rfl dX5_findsFar_95 ?_
                      refine lv_iconst (v := nI 2) hx hb dX5_findsFar_98 (by decide) ?_
                      refine lv_iload hx hb dX5_findsFar_99 (lv_at hl 1 rfl) ?_
                      refine rk_iaddN hx hb dX5_findsFar_101 ?_
                      refine rk_iald hx hb hK hP 1 rfl (by omega) (by omega) (v := nI (mlo Al i)) ((gok i (by omega)).1) dX5_findsFar_102 ?_
                      refine lv_istore (lv' := [(7, .int (nI (mlo Al i))), (6, .int (Al (62 + i))), (5, .int (nI i)), (4, .int (nI j)), (0, .ref mo), (1, .int (nI q)), (2, .int w), (3, .int (nI 1))]) hx hb dX5_findsFar_103 hl (by decide) rfl (fun ls hl => ?_)
                      refine lv_aload_n hx hb dX5_findsFar_105 rfl (lv_at hl 4 rfl) ?_
                      refine rk_get (ci := 5) (C := RX5) (T := TX5) (N := 13) hx hb hts iw_X5_findsFar_5 hown hK hP 0 rfl rfl 0 (by decide) fl_X5_findsFar_7 rfl (v := .ref mA) rfl dX5_findsFar_106 ?_
                      refine lv_bipush (v := nI 32) hx hb dX5_findsFar_109 (by decide) ?_
                      refine lv_iload hx hb dX5_findsFar_111 (lv_at hl 2 rfl) ?_
                      refine rk_iaddN hx hb dX5_findsFar_113 ?_
                      refine rk_iald hx hb hK hP 1 rfl (by omega) (by omega) (v := nI (mhi Al i)) ((gok i (by omega)).2.2.1) dX5_findsFar_114 ?_
                      refine lv_istore (lv' := [(8, .int (nI (mhi Al i))), (7, .int (nI (mlo Al i))), (6, .int (Al (62 + i))), (5, .int (nI i)), (4, .int (nI j)), (0, .ref mo), (1, .int (nI q)), (2, .int w), (3, .int (nI 1))]) hx hb dX5_findsFar_115 hl (by decide) rfl (fun ls hl => ?_)
                      refine lv_aload_n hx hb dX5_findsFar_117 rfl (lv_at hl 5 rfl) ?_
                      refine rk_get (ci := 5) (C := RX5) (T := TX5) (N := 13) hx hb hts iw_X5_findsFar_5 hown hK hP 0 rfl rfl 6 (by decide) fl_X5_findsFar_25 rfl (v := .ref mF) rfl dX5_findsFar_118 ?_
                      refine lv_iload hx hb dX5_findsFar_121 (lv_at hl 0 rfl) ?_
                      refine lv_aload_n hx hb dX5_findsFar_123 rfl (lv_at hl 5 rfl) ?_
                      refine rk_get (ci := 5) (C := RX5) (T := TX5) (N := 13) hx hb hts iw_X5_findsFar_5 hown hK hP 0 rfl rfl 6 (by decide) fl_X5_findsFar_25 rfl (v := .ref mF) rfl dX5_findsFar_124 ?_
                      refine lv_iload hx hb dX5_findsFar_127 (lv_at hl 1 rfl) ?_
                      refine rk_iald hx hb hK hP 2 rfl ((gok i (by omega)).2.1) (by omega) (v := f3 (mlo Al i)) (rfl) dX5_findsFar_129 ?_
                      refine lv_iload hx hb dX5_findsFar_130 (lv_at hl 2 rfl) ?_
                      refine lv_iadd hx hb dX5_findsFar_132 ?_
                      refine lv_aload_n hx hb dX5_findsFar_133 rfl (lv_at hl 5 rfl) ?_
                      refine rk_get (ci := 5) (C := RX5) (T := TX5) (N := 13) hx hb hts iw_X5_findsFar_5 hown hK hP 0 rfl rfl 6 (by decide) fl_X5_findsFar_25 rfl (v := .ref mF) rfl dX5_findsFar_134 ?_
                      refine lv_iload hx hb dX5_findsFar_137 (lv_at hl 0 rfl) ?_
                      refine rk_iald hx hb hK hP 2 rfl ((gok i (by omega)).2.2.2) (by omega) (v := f3 (mhi Al i)) (rfl) dX5_findsFar_139 ?_
                      refine lv_icmp_ge (tgt := 156) hx hb dX5_findsFar_140 (by decide) (fun zc140 => ?_) (fun zc140 => ?_)
                      · refine lv_aload_n hx hb dX5_findsFar_156 rfl (lv_at hl 5 rfl) ?_
                        refine rk_get (ci := 5) (C := RX5) (T := TX5) (N := 13) hx hb hts iw_X5_findsFar_5 hown hK hP 0 rfl rfl 6 (by decide) fl_X5_findsFar_25 rfl (v := .ref mF) rfl dX5_findsFar_157 ?_
                        refine lv_iload hx hb dX5_findsFar_160 (lv_at hl 0 rfl) ?_
                        refine rk_iald hx hb hK hP 2 rfl ((gok i (by omega)).2.2.2) (by omega) (v := f3 (mhi Al i)) (rfl) dX5_findsFar_162 ?_
                        refine rk_iast hx hb hK hP hD hS 2 rfl ((gok i (by omega)).2.2.2) (by omega) (ws' := [(mo, .inr (5, [.ref mA, .ref mK, .ref mH, .int hy, .ref mS, .ref mV, .ref mF, .ref mP, .int pl, .int sp, .int nu, .ref mR, .int rm])), (mA, aI E 92 Al), (mF, aI E 16 (upd f3 (mhi Al i) (f3 (mhi Al i))))]) rfl dX5_findsFar_163 (fun H locs hP hD hS => ?_)
                        refine lv_aload_n hx hb dX5_findsFar_164 rfl (lv_at hl 5 rfl) ?_
                        refine rk_get (ci := 5) (C := RX5) (T := TX5) (N := 13) hx hb hts iw_X5_findsFar_5 hown hK hP 0 rfl rfl 6 (by decide) fl_X5_findsFar_25 rfl (v := .ref mF) rfl dX5_findsFar_165 ?_
                        refine lv_iload hx hb dX5_findsFar_168 (lv_at hl 1 rfl) ?_
                        refine lv_aload_n hx hb dX5_findsFar_170 rfl (lv_at hl 5 rfl) ?_
                        refine rk_get (ci := 5) (C := RX5) (T := TX5) (N := 13) hx hb hts iw_X5_findsFar_5 hown hK hP 0 rfl rfl 6 (by decide) fl_X5_findsFar_25 rfl (v := .ref mF) rfl dX5_findsFar_171 ?_
                        refine lv_iload hx hb dX5_findsFar_174 (lv_at hl 0 rfl) ?_
                        refine rk_iald hx hb hK hP 2 rfl ((gok i (by omega)).2.2.2) (by omega) (v := (upd f3 (mhi Al i) (f3 (mhi Al i))) (mhi Al i)) (rfl) dX5_findsFar_176 ?_
                        refine lv_iload hx hb dX5_findsFar_177 (lv_at hl 2 rfl) ?_
                        refine lv_iadd hx hb dX5_findsFar_179 ?_
                        refine lv_aload_n hx hb dX5_findsFar_180 rfl (lv_at hl 5 rfl) ?_
                        refine rk_get (ci := 5) (C := RX5) (T := TX5) (N := 13) hx hb hts iw_X5_findsFar_5 hown hK hP 0 rfl rfl 6 (by decide) fl_X5_findsFar_25 rfl (v := .ref mF) rfl dX5_findsFar_181 ?_
                        refine lv_iload hx hb dX5_findsFar_184 (lv_at hl 1 rfl) ?_
                        refine rk_iald hx hb hK hP 2 rfl ((gok i (by omega)).2.1) (by omega) (v := (upd f3 (mhi Al i) (f3 (mhi Al i))) (mlo Al i)) (rfl) dX5_findsFar_186 ?_
                        refine lv_icmp_ge (tgt := 203) hx hb dX5_findsFar_187 (by decide) (fun zc187 => ?_) (fun zc187 => ?_)
                        · refine lv_aload_n hx hb dX5_findsFar_203 rfl (lv_at hl 5 rfl) ?_
                          refine rk_get (ci := 5) (C := RX5) (T := TX5) (N := 13) hx hb hts iw_X5_findsFar_5 hown hK hP 0 rfl rfl 6 (by decide) fl_X5_findsFar_25 rfl (v := .ref mF) rfl dX5_findsFar_204 ?_
                          refine lv_iload hx hb dX5_findsFar_207 (lv_at hl 1 rfl) ?_
                          refine rk_iald hx hb hK hP 2 rfl ((gok i (by omega)).2.1) (by omega) (v := (upd f3 (mhi Al i) (f3 (mhi Al i))) (mlo Al i)) (rfl) dX5_findsFar_209 ?_
                          refine rk_iast hx hb hK hP hD hS 2 rfl ((gok i (by omega)).2.1) (by omega) (ws' := [(mo, .inr (5, [.ref mA, .ref mK, .ref mH, .int hy, .ref mS, .ref mV, .ref mF, .ref mP, .int pl, .int sp, .int nu, .ref mR, .int rm])), (mA, aI E 92 Al), (mF, aI E 16 (upd (upd f3 (mhi Al i) (f3 (mhi Al i))) (mlo Al i) ((upd f3 (mhi Al i) (f3 (mhi Al i))) (mlo Al i))))]) rfl dX5_findsFar_210 (fun H locs hP hD hS => ?_)
                          refine lv_iinc (v := nI (i + 1)) (lv' := [(5, .int (nI (i + 1))), (8, .int (nI (mhi Al i))), (7, .int (nI (mlo Al i))), (6, .int (Al (62 + i))), (4, .int (nI j)), (0, .ref mo), (1, .int (nI q)), (2, .int w), (3, .int (nI 1))]) hx hb dX5_findsFar_211 hl (k := 3) rfl (by rw [show Int32.ofInt 1 = nI 1 by decide]; exact nI_add _ _) (by decide) rfl (fun ls hl => ?_)
                          refine lv_goto (tgt := 48) hx hb dX5_findsFar_214 (by decide) ?_
                          exact ih48 (i + 1) (upd (upd f3 (mhi Al i) (f3 (mhi Al i))) (mlo Al i) ((upd f3 (mhi Al i) (f3 (mhi Al i))) (mlo Al i))) (by rw [shoM_t zc140] at zc187 ⊢; rw [shoM_t zc187, ef3, fpM, byM2 (cnt_0 zc66)]) (by first | assumption | omega | rfl) (by omega) _ _ (hP.sub [0, 1, 2] rfl) (hD.sub [0, 1, 2] (by decide) rfl) hS ls (lv_sub hl [0, 4, 5, 6, 7, 8] rfl)
                        · refine lv_aload_n hx hb dX5_findsFar_190 rfl (lv_at hl 5 rfl) ?_
                          refine rk_get (ci := 5) (C := RX5) (T := TX5) (N := 13) hx hb hts iw_X5_findsFar_5 hown hK hP 0 rfl rfl 6 (by decide) fl_X5_findsFar_25 rfl (v := .ref mF) rfl dX5_findsFar_191 ?_
                          refine lv_iload hx hb dX5_findsFar_194 (lv_at hl 0 rfl) ?_
                          refine rk_iald hx hb hK hP 2 rfl ((gok i (by omega)).2.2.2) (by omega) (v := (upd f3 (mhi Al i) (f3 (mhi Al i))) (mhi Al i)) (rfl) dX5_findsFar_196 ?_
                          refine lv_iload hx hb dX5_findsFar_197 (lv_at hl 2 rfl) ?_
                          refine lv_iadd hx hb dX5_findsFar_199 ?_
                          refine lv_goto (tgt := 210) hx hb dX5_findsFar_200 (by decide) ?_
                          refine rk_iast hx hb hK hP hD hS 2 rfl ((gok i (by omega)).2.1) (by omega) (ws' := [(mo, .inr (5, [.ref mA, .ref mK, .ref mH, .int hy, .ref mS, .ref mV, .ref mF, .ref mP, .int pl, .int sp, .int nu, .ref mR, .int rm])), (mA, aI E 92 Al), (mF, aI E 16 (upd (upd f3 (mhi Al i) (f3 (mhi Al i))) (mlo Al i) (((upd f3 (mhi Al i) (f3 (mhi Al i))) (mhi Al i)) + (Al (62 + i)))))]) rfl dX5_findsFar_210 (fun H locs hP hD hS => ?_)
                          refine lv_iinc (v := nI (i + 1)) (lv' := [(5, .int (nI (i + 1))), (8, .int (nI (mhi Al i))), (7, .int (nI (mlo Al i))), (6, .int (Al (62 + i))), (4, .int (nI j)), (0, .ref mo), (1, .int (nI q)), (2, .int w), (3, .int (nI 1))]) hx hb dX5_findsFar_211 hl (k := 3) rfl (by rw [show Int32.ofInt 1 = nI 1 by decide]; exact nI_add _ _) (by decide) rfl (fun ls hl => ?_)
                          refine lv_goto (tgt := 48) hx hb dX5_findsFar_214 (by decide) ?_
                          exact ih48 (i + 1) (upd (upd f3 (mhi Al i) (f3 (mhi Al i))) (mlo Al i) (((upd f3 (mhi Al i) (f3 (mhi Al i))) (mhi Al i)) + (Al (62 + i)))) (by rw [shoM_t zc140] at zc187 ⊢; rw [shoM_f zc187, ef3, fpM, byM2 (cnt_0 zc66)]) (by first | assumption | omega | rfl) (by omega) _ _ (hP.sub [0, 1, 2] rfl) (hD.sub [0, 1, 2] (by decide) rfl) hS ls (lv_sub hl [0, 4, 5, 6, 7, 8] rfl)
                      · refine lv_aload_n hx hb dX5_findsFar_143 rfl (lv_at hl 5 rfl) ?_
                        refine rk_get (ci := 5) (C := RX5) (T := TX5) (N := 13) hx hb hts iw_X5_findsFar_5 hown hK hP 0 rfl rfl 6 (by decide) fl_X5_findsFar_25 rfl (v := .ref mF) rfl dX5_findsFar_144 ?_
                        refine lv_iload hx hb dX5_findsFar_147 (lv_at hl 1 rfl) ?_
                        refine rk_iald hx hb hK hP 2 rfl ((gok i (by omega)).2.1) (by omega) (v := f3 (mlo Al i)) (rfl) dX5_findsFar_149 ?_
                        refine lv_iload hx hb dX5_findsFar_150 (lv_at hl 2 rfl) ?_
                        refine lv_iadd hx hb dX5_findsFar_152 ?_
                        refine lv_goto (tgt := 163) hx hb dX5_findsFar_153 (by decide) ?_
                        refine rk_iast hx hb hK hP hD hS 2 rfl ((gok i (by omega)).2.2.2) (by omega) (ws' := [(mo, .inr (5, [.ref mA, .ref mK, .ref mH, .int hy, .ref mS, .ref mV, .ref mF, .ref mP, .int pl, .int sp, .int nu, .ref mR, .int rm])), (mA, aI E 92 Al), (mF, aI E 16 (upd f3 (mhi Al i) ((f3 (mlo Al i)) + (Al (62 + i)))))]) rfl dX5_findsFar_163 (fun H locs hP hD hS => ?_)
                        refine lv_aload_n hx hb dX5_findsFar_164 rfl (lv_at hl 5 rfl) ?_
                        refine rk_get (ci := 5) (C := RX5) (T := TX5) (N := 13) hx hb hts iw_X5_findsFar_5 hown hK hP 0 rfl rfl 6 (by decide) fl_X5_findsFar_25 rfl (v := .ref mF) rfl dX5_findsFar_165 ?_
                        refine lv_iload hx hb dX5_findsFar_168 (lv_at hl 1 rfl) ?_
                        refine lv_aload_n hx hb dX5_findsFar_170 rfl (lv_at hl 5 rfl) ?_
                        refine rk_get (ci := 5) (C := RX5) (T := TX5) (N := 13) hx hb hts iw_X5_findsFar_5 hown hK hP 0 rfl rfl 6 (by decide) fl_X5_findsFar_25 rfl (v := .ref mF) rfl dX5_findsFar_171 ?_
                        refine lv_iload hx hb dX5_findsFar_174 (lv_at hl 0 rfl) ?_
                        refine rk_iald hx hb hK hP 2 rfl ((gok i (by omega)).2.2.2) (by omega) (v := (upd f3 (mhi Al i) ((f3 (mlo Al i)) + (Al (62 + i)))) (mhi Al i)) (rfl) dX5_findsFar_176 ?_
                        refine lv_iload hx hb dX5_findsFar_177 (lv_at hl 2 rfl) ?_
                        refine lv_iadd hx hb dX5_findsFar_179 ?_
                        refine lv_aload_n hx hb dX5_findsFar_180 rfl (lv_at hl 5 rfl) ?_
                        refine rk_get (ci := 5) (C := RX5) (T := TX5) (N := 13) hx hb hts iw_X5_findsFar_5 hown hK hP 0 rfl rfl 6 (by decide) fl_X5_findsFar_25 rfl (v := .ref mF) rfl dX5_findsFar_181 ?_
                        refine lv_iload hx hb dX5_findsFar_184 (lv_at hl 1 rfl) ?_
                        refine rk_iald hx hb hK hP 2 rfl ((gok i (by omega)).2.1) (by omega) (v := (upd f3 (mhi Al i) ((f3 (mlo Al i)) + (Al (62 + i)))) (mlo Al i)) (rfl) dX5_findsFar_186 ?_
                        refine lv_icmp_ge (tgt := 203) hx hb dX5_findsFar_187 (by decide) (fun zc187 => ?_) (fun zc187 => ?_)
                        · refine lv_aload_n hx hb dX5_findsFar_203 rfl (lv_at hl 5 rfl) ?_
                          refine rk_get (ci := 5) (C := RX5) (T := TX5) (N := 13) hx hb hts iw_X5_findsFar_5 hown hK hP 0 rfl rfl 6 (by decide) fl_X5_findsFar_25 rfl (v := .ref mF) rfl dX5_findsFar_204 ?_
                          refine lv_iload hx hb dX5_findsFar_207 (lv_at hl 1 rfl) ?_
                          refine rk_iald hx hb hK hP 2 rfl ((gok i (by omega)).2.1) (by omega) (v := (upd f3 (mhi Al i) ((f3 (mlo Al i)) + (Al (62 + i)))) (mlo Al i)) (rfl) dX5_findsFar_209 ?_
                          refine rk_iast hx hb hK hP hD hS 2 rfl ((gok i (by omega)).2.1) (by omega) (ws' := [(mo, .inr (5, [.ref mA, .ref mK, .ref mH, .int hy, .ref mS, .ref mV, .ref mF, .ref mP, .int pl, .int sp, .int nu, .ref mR, .int rm])), (mA, aI E 92 Al), (mF, aI E 16 (upd (upd f3 (mhi Al i) ((f3 (mlo Al i)) + (Al (62 + i)))) (mlo Al i) ((upd f3 (mhi Al i) ((f3 (mlo Al i)) + (Al (62 + i)))) (mlo Al i))))]) rfl dX5_findsFar_210 (fun H locs hP hD hS => ?_)
                          refine lv_iinc (v := nI (i + 1)) (lv' := [(5, .int (nI (i + 1))), (8, .int (nI (mhi Al i))), (7, .int (nI (mlo Al i))), (6, .int (Al (62 + i))), (4, .int (nI j)), (0, .ref mo), (1, .int (nI q)), (2, .int w), (3, .int (nI 1))]) hx hb dX5_findsFar_211 hl (k := 3) rfl (by rw [show Int32.ofInt 1 = nI 1 by decide]; exact nI_add _ _) (by decide) rfl (fun ls hl => ?_)
                          refine lv_goto (tgt := 48) hx hb dX5_findsFar_214 (by decide) ?_
                          exact ih48 (i + 1) (upd (upd f3 (mhi Al i) ((f3 (mlo Al i)) + (Al (62 + i)))) (mlo Al i) ((upd f3 (mhi Al i) ((f3 (mlo Al i)) + (Al (62 + i)))) (mlo Al i))) (by rw [shoM_f zc140] at zc187 ⊢; rw [shoM_t zc187, ef3, fpM, byM2 (cnt_0 zc66)]) (by first | assumption | omega | rfl) (by omega) _ _ (hP.sub [0, 1, 2] rfl) (hD.sub [0, 1, 2] (by decide) rfl) hS ls (lv_sub hl [0, 4, 5, 6, 7, 8] rfl)
                        · refine lv_aload_n hx hb dX5_findsFar_190 rfl (lv_at hl 5 rfl) ?_
                          refine rk_get (ci := 5) (C := RX5) (T := TX5) (N := 13) hx hb hts iw_X5_findsFar_5 hown hK hP 0 rfl rfl 6 (by decide) fl_X5_findsFar_25 rfl (v := .ref mF) rfl dX5_findsFar_191 ?_
                          refine lv_iload hx hb dX5_findsFar_194 (lv_at hl 0 rfl) ?_
                          refine rk_iald hx hb hK hP 2 rfl ((gok i (by omega)).2.2.2) (by omega) (v := (upd f3 (mhi Al i) ((f3 (mlo Al i)) + (Al (62 + i)))) (mhi Al i)) (rfl) dX5_findsFar_196 ?_
                          refine lv_iload hx hb dX5_findsFar_197 (lv_at hl 2 rfl) ?_
                          refine lv_iadd hx hb dX5_findsFar_199 ?_
                          refine lv_goto (tgt := 210) hx hb dX5_findsFar_200 (by decide) ?_
                          refine rk_iast hx hb hK hP hD hS 2 rfl ((gok i (by omega)).2.1) (by omega) (ws' := [(mo, .inr (5, [.ref mA, .ref mK, .ref mH, .int hy, .ref mS, .ref mV, .ref mF, .ref mP, .int pl, .int sp, .int nu, .ref mR, .int rm])), (mA, aI E 92 Al), (mF, aI E 16 (upd (upd f3 (mhi Al i) ((f3 (mlo Al i)) + (Al (62 + i)))) (mlo Al i) (((upd f3 (mhi Al i) ((f3 (mlo Al i)) + (Al (62 + i)))) (mhi Al i)) + (Al (62 + i)))))]) rfl dX5_findsFar_210 (fun H locs hP hD hS => ?_)
                          refine lv_iinc (v := nI (i + 1)) (lv' := [(5, .int (nI (i + 1))), (8, .int (nI (mhi Al i))), (7, .int (nI (mlo Al i))), (6, .int (Al (62 + i))), (4, .int (nI j)), (0, .ref mo), (1, .int (nI q)), (2, .int w), (3, .int (nI 1))]) hx hb dX5_findsFar_211 hl (k := 3) rfl (by rw [show Int32.ofInt 1 = nI 1 by decide]; exact nI_add _ _) (by decide) rfl (fun ls hl => ?_)
                          refine lv_goto (tgt := 48) hx hb dX5_findsFar_214 (by decide) ?_
                          exact ih48 (i + 1) (upd (upd f3 (mhi Al i) ((f3 (mlo Al i)) + (Al (62 + i)))) (mlo Al i) (((upd f3 (mhi Al i) ((f3 (mlo Al i)) + (Al (62 + i)))) (mhi Al i)) + (Al (62 + i)))) (by rw [shoM_f zc140] at zc187 ⊢; rw [shoM_f zc187, ef3, fpM, byM2 (cnt_0 zc66)]) (by first | assumption | omega | rfl) (by omega) _ _ (hP.sub [0, 1, 2] rfl) (hD.sub [0, 1, 2] (by decide) rfl) hS ls (lv_sub hl [0, 4, 5, 6, 7, 8] rfl)
                    · refine lv_ldc (v := nI 100000) hx hb hown (hts _ ct90_X5_findsFar) dX5_findsFar_69 ?_
                      refine lv_goto (tgt := 92) hx hb dX5_findsFar_71 (by decide) ?_
                      refine lv_istore (lv' := [(6, .int (nI 100000)), (5, .int (nI i)), (4, .int (nI j)), (0, .ref mo), (1, .int (nI q)), (2, .int w), (3, .int (nI 1))]) hx hb dX5_findsFar_92 hl (by decide) rfl (fun ls hl => ?_)
                      refine lv_aload_n hx hb dX5_findsFar_94 rfl (lv_at hl 3 rfl) ?_
                      refine rk_get (ci := 5) (C := RX5) (T := TX5) (N := 13) hx hb hts iw_X5_findsFar_5 hown hK hP 0 rfl rfl 0 (by decide) fl_X5_findsFar_7 rfl (v := .ref mA) rfl dX5_findsFar_95 ?_
                      refine lv_iconst (v := nI 2) hx hb dX5_findsFar_98 (by decide) ?_
                      refine lv_iload hx hb dX5_findsFar_99 (lv_at hl 1 rfl) ?_
                      refine rk_iaddN hx hb dX5_findsFar_101 ?_
                      refine rk_iald hx hb hK hP 1 rfl (by omega) (by omega) (v := nI (mlo Al i)) ((gok i (by omega)).1) dX5_findsFar_102 ?_
                      refine lv_istore (lv' := [(7, .int (nI (mlo Al i))), (6, .int (nI 100000)), (5, .int (nI i)), (4, .int (nI j)), (0, .ref mo), (1, .int (nI q)), (2, .int w), (3, .int (nI 1))]) hx hb dX5_findsFar_103 hl (by decide) rfl (fun ls hl => ?_)
                      refine lv_aload_n hx hb dX5_findsFar_105 rfl (lv_at hl 4 rfl) ?_
                      refine rk_get (ci := 5) (C := RX5) (T := TX5) (N := 13) hx hb hts iw_X5_findsFar_5 hown hK hP 0 rfl rfl 0 (by decide) fl_X5_findsFar_7 rfl (v := .ref mA) rfl dX5_findsFar_106 ?_
                      refine lv_bipush (v := nI 32) hx hb dX5_findsFar_109 (by decide) ?_
                      refine lv_iload hx hb dX5_findsFar_111 (lv_at hl 2 rfl) ?_
                      refine rk_iaddN hx hb dX5_findsFar_113 ?_
                      refine rk_iald hx hb hK hP 1 rfl (by omega) (by omega) (v := nI (mhi Al i)) ((gok i (by omega)).2.2.1) dX5_findsFar_114 ?_
                      refine lv_istore (lv' := [(8, .int (nI (mhi Al i))), (7, .int (nI (mlo Al i))), (6, .int (nI 100000)), (5, .int (nI i)), (4, .int (nI j)), (0, .ref mo), (1, .int (nI q)), (2, .int w), (3, .int (nI 1))]) hx hb dX5_findsFar_115 hl (by decide) rfl (fun ls hl => ?_)
                      refine lv_aload_n hx hb dX5_findsFar_117 rfl (lv_at hl 5 rfl) ?_
                      refine rk_get (ci := 5) (C := RX5) (T := TX5) (N := 13) hx hb hts iw_X5_findsFar_5 hown hK hP 0 rfl rfl 6 (by decide) fl_X5_findsFar_25 rfl (v := .ref mF) rfl dX5_findsFar_118 ?_
                      refine lv_iload hx hb dX5_findsFar_121 (lv_at hl 0 rfl) ?_
                      refine lv_aload_n hx hb dX5_findsFar_123 rfl (lv_at hl 5 rfl) ?_
                      refine rk_get (ci := 5) (C := RX5) (T := TX5) (N := 13) hx hb hts iw_X5_findsFar_5 hown hK hP 0 rfl rfl 6 (by decide) fl_X5_findsFar_25 rfl (v := .ref mF) rfl dX5_findsFar_124 ?_
                      refine lv_iload hx hb dX5_findsFar_127 (lv_at hl 1 rfl) ?_
                      refine rk_iald hx hb hK hP 2 rfl ((gok i (by omega)).2.1) (by omega) (v := f3 (mlo Al i)) (rfl) dX5_findsFar_129 ?_
                      refine lv_iload hx hb dX5_findsFar_130 (lv_at hl 2 rfl) ?_
                      refine lv_iadd hx hb dX5_findsFar_132 ?_
                      refine lv_aload_n hx hb dX5_findsFar_133 rfl (lv_at hl 5 rfl) ?_
                      refine rk_get (ci := 5) (C := RX5) (T := TX5) (N := 13) hx hb hts iw_X5_findsFar_5 hown hK hP 0 rfl rfl 6 (by decide) fl_X5_findsFar_25 rfl (v := .ref mF) rfl dX5_findsFar_134 ?_
                      refine lv_iload hx hb dX5_findsFar_137 (lv_at hl 0 rfl) ?_
                      refine rk_iald hx hb hK hP 2 rfl ((gok i (by omega)).2.2.2) (by omega) (v := f3 (mhi Al i)) (rfl) dX5_findsFar_139 ?_
                      refine lv_icmp_ge (tgt := 156) hx hb dX5_findsFar_140 (by decide) (fun zc140 => ?_) (fun zc140 => ?_)
                      · refine lv_aload_n hx hb dX5_findsFar_156 rfl (lv_at hl 5 rfl) ?_
                        refine rk_get (ci := 5) (C := RX5) (T := TX5) (N := 13) hx hb hts iw_X5_findsFar_5 hown hK hP 0 rfl rfl 6 (by decide) fl_X5_findsFar_25 rfl (v := .ref mF) rfl dX5_findsFar_157 ?_
                        refine lv_iload hx hb dX5_findsFar_160 (lv_at hl 0 rfl) ?_
                        refine rk_iald hx hb hK hP 2 rfl ((gok i (by omega)).2.2.2) (by omega) (v := f3 (mhi Al i)) (rfl) dX5_findsFar_162 ?_
                        refine rk_iast hx hb hK hP hD hS 2 rfl ((gok i (by omega)).2.2.2) (by omega) (ws' := [(mo, .inr (5, [.ref mA, .ref mK, .ref mH, .int hy, .ref mS, .ref mV, .ref mF, .ref mP, .int pl, .int sp, .int nu, .ref mR, .int rm])), (mA, aI E 92 Al), (mF, aI E 16 (upd f3 (mhi Al i) (f3 (mhi Al i))))]) rfl dX5_findsFar_163 (fun H locs hP hD hS => ?_)
                        refine lv_aload_n hx hb dX5_findsFar_164 rfl (lv_at hl 5 rfl) ?_
                        refine rk_get (ci := 5) (C := RX5) (T := TX5) (N := 13) hx hb hts iw_X5_findsFar_5 hown hK hP 0 rfl rfl 6 (by decide) fl_X5_findsFar_25 rfl (v := .ref mF) rfl dX5_findsFar_165 ?_
                        refine lv_iload hx hb dX5_findsFar_168 (lv_at hl 1 rfl) ?_
                        refine lv_aload_n hx hb dX5_findsFar_170 rfl (lv_at hl 5 rfl) ?_
                        refine rk_get (ci := 5) (C := RX5) (T := TX5) (N := 13) hx hb hts iw_X5_findsFar_5 hown hK hP 0 rfl rfl 6 (by decide) fl_X5_findsFar_25 rfl (v := .ref mF) rfl dX5_findsFar_171 ?_
                        refine lv_iload hx hb dX5_findsFar_174 (lv_at hl 0 rfl) ?_
                        refine rk_iald hx hb hK hP 2 rfl ((gok i (by omega)).2.2.2) (by omega) (v := (upd f3 (mhi Al i) (f3 (mhi Al i))) (mhi Al i)) (rfl) dX5_findsFar_176 ?_
                        refine lv_iload hx hb dX5_findsFar_177 (lv_at hl 2 rfl) ?_
                        refine lv_iadd hx hb dX5_findsFar_179 ?_
                        refine lv_aload_n hx hb dX5_findsFar_180 rfl (lv_at hl 5 rfl) ?_
                        refine rk_get (ci := 5) (C := RX5) (T := TX5) (N := 13) hx hb hts iw_X5_findsFar_5 hown hK hP 0 rfl rfl 6 (by decide) fl_X5_findsFar_25 rfl (v := .ref mF) rfl dX5_findsFar_181 ?_
                        refine lv_iload hx hb dX5_findsFar_184 (lv_at hl 1 rfl) ?_
                        refine rk_iald hx hb hK hP 2 rfl ((gok i (by omega)).2.1) (by omega) (v := (upd f3 (mhi Al i) (f3 (mhi Al i))) (mlo Al i)) (rfl) dX5_findsFar_186 ?_
                        refine lv_icmp_ge (tgt := 203) hx hb dX5_findsFar_187 (by decide) (fun zc187 => ?_) (fun zc187 => ?_)
                        · refine lv_aload_n hx hb dX5_findsFar_203 rfl (lv_at hl 5 rfl) ?_
                          refine rk_get (ci := 5) (C := RX5) (T := TX5) (N := 13) hx hb hts iw_X5_findsFar_5 hown hK hP 0 rfl rfl 6 (by decide) fl_X5_findsFar_25 rfl (v := .ref mF) rfl dX5_findsFar_204 ?_
                          refine lv_iload hx hb dX5_findsFar_207 (lv_at hl 1 rfl) ?_
                          refine rk_iald hx hb hK hP 2 rfl ((gok i (by omega)).2.1) (by omega) (v := (upd f3 (mhi Al i) (f3 (mhi Al i))) (mlo Al i)) (rfl) dX5_findsFar_209 ?_
                          refine rk_iast hx hb hK hP hD hS 2 rfl ((gok i (by omega)).2.1) (by omega) (ws' := [(mo, .inr (5, [.ref mA, .ref mK, .ref mH, .int hy, .ref mS, .ref mV, .ref mF, .ref mP, .int pl, .int sp, .int nu, .ref mR, .int rm])), (mA, aI E 92 Al), (mF, aI E 16 (upd (upd f3 (mhi Al i) (f3 (mhi Al i))) (mlo Al i) ((upd f3 (mhi Al i) (f3 (mhi Al i))) (mlo Al i))))]) rfl dX5_findsFar_210 (fun H locs hP hD hS => ?_)
                          refine lv_iinc (v := nI (i + 1)) (lv' := [(5, .int (nI (i + 1))), (8, .int (nI (mhi Al i))), (7, .int (nI (mlo Al i))), (6, .int (nI 100000)), (4, .int (nI j)), (0, .ref mo), (1, .int (nI q)), (2, .int w), (3, .int (nI 1))]) hx hb dX5_findsFar_211 hl (k := 3) rfl (by rw [show Int32.ofInt 1 = nI 1 by decide]; exact nI_add _ _) (by decide) rfl (fun ls hl => ?_)
                          refine lv_goto (tgt := 48) hx hb dX5_findsFar_214 (by decide) ?_
                          exact ih48 (i + 1) (upd (upd f3 (mhi Al i) (f3 (mhi Al i))) (mlo Al i) ((upd f3 (mhi Al i) (f3 (mhi Al i))) (mlo Al i))) (by rw [shoM_t zc140] at zc187 ⊢; rw [shoM_t zc187, ef3, fpM, byM1 (cnt_1 zc66)]) (by first | assumption | omega | rfl) (by omega) _ _ (hP.sub [0, 1, 2] rfl) (hD.sub [0, 1, 2] (by decide) rfl) hS ls (lv_sub hl [0, 4, 5, 6, 7, 8] rfl)
                        · refine lv_aload_n hx hb dX5_findsFar_190 rfl (lv_at hl 5 rfl) ?_
                          refine rk_get (ci := 5) (C := RX5) (T := TX5) (N := 13) hx hb hts iw_X5_findsFar_5 hown hK hP 0 rfl rfl 6 (by decide) fl_X5_findsFar_25 rfl (v := .ref mF) rfl dX5_findsFar_191 ?_
                          refine lv_iload hx hb dX5_findsFar_194 (lv_at hl 0 rfl) ?_
                          refine rk_iald hx hb hK hP 2 rfl ((gok i (by omega)).2.2.2) (by omega) (v := (upd f3 (mhi Al i) (f3 (mhi Al i))) (mhi Al i)) (rfl) dX5_findsFar_196 ?_
                          refine lv_iload hx hb dX5_findsFar_197 (lv_at hl 2 rfl) ?_
                          refine lv_iadd hx hb dX5_findsFar_199 ?_
                          refine lv_goto (tgt := 210) hx hb dX5_findsFar_200 (by decide) ?_
                          refine rk_iast hx hb hK hP hD hS 2 rfl ((gok i (by omega)).2.1) (by omega) (ws' := [(mo, .inr (5, [.ref mA, .ref mK, .ref mH, .int hy, .ref mS, .ref mV, .ref mF, .ref mP, .int pl, .int sp, .int nu, .ref mR, .int rm])), (mA, aI E 92 Al), (mF, aI E 16 (upd (upd f3 (mhi Al i) (f3 (mhi Al i))) (mlo Al i) (((upd f3 (mhi Al i) (f3 (mhi Al i))) (mhi Al i)) + (nI 100000))))]) rfl dX5_findsFar_210 (fun H locs hP hD hS => ?_)
                          refine lv_iinc (v := nI (i + 1)) (lv' := [(5, .int (nI (i + 1))), (8, .int (nI (mhi Al i))), (7, .int (nI (mlo Al i))), (6, .int (nI 100000)), (4, .int (nI j)), (0, .ref mo), (1, .int (nI q)), (2, .int w), (3, .int (nI 1))]) hx hb dX5_findsFar_211 hl (k := 3) rfl (by rw [show Int32.ofInt 1 = nI 1 by decide]; exact nI_add _ _) (by decide) rfl (fun ls hl => ?_)
                          refine lv_goto (tgt := 48) hx hb dX5_findsFar_214 (by decide) ?_
                          exact ih48 (i + 1) (upd (upd f3 (mhi Al i) (f3 (mhi Al i))) (mlo Al i) (((upd f3 (mhi Al i) (f3 (mhi Al i))) (mhi Al i)) + (nI 100000))) (by rw [shoM_t zc140] at zc187 ⊢; rw [shoM_f zc187, ef3, fpM, byM1 (cnt_1 zc66)]) (by first | assumption | omega | rfl) (by omega) _ _ (hP.sub [0, 1, 2] rfl) (hD.sub [0, 1, 2] (by decide) rfl) hS ls (lv_sub hl [0, 4, 5, 6, 7, 8] rfl)
                      · refine lv_aload_n hx hb dX5_findsFar_143 rfl (lv_at hl 5 rfl) ?_
                        refine rk_get (ci := 5) (C := RX5) (T := TX5) (N := 13) hx hb hts iw_X5_findsFar_5 hown hK hP 0 rfl rfl 6 (by decide) fl_X5_findsFar_25 rfl (v := .ref mF) rfl dX5_findsFar_144 ?_
                        refine lv_iload hx hb dX5_findsFar_147 (lv_at hl 1 rfl) ?_
                        refine rk_iald hx hb hK hP 2 rfl ((gok i (by omega)).2.1) (by omega) (v := f3 (mlo Al i)) (rfl) dX5_findsFar_149 ?_
                        refine lv_iload hx hb dX5_findsFar_150 (lv_at hl 2 rfl) ?_
                        refine lv_iadd hx hb dX5_findsFar_152 ?_
                        refine lv_goto (tgt := 163) hx hb dX5_findsFar_153 (by decide) ?_
                        refine rk_iast hx hb hK hP hD hS 2 rfl ((gok i (by omega)).2.2.2) (by omega) (ws' := [(mo, .inr (5, [.ref mA, .ref mK, .ref mH, .int hy, .ref mS, .ref mV, .ref mF, .ref mP, .int pl, .int sp, .int nu, .ref mR, .int rm])), (mA, aI E 92 Al), (mF, aI E 16 (upd f3 (mhi Al i) ((f3 (mlo Al i)) + (nI 100000))))]) rfl dX5_findsFar_163 (fun H locs hP hD hS => ?_)
                        refine lv_aload_n hx hb dX5_findsFar_164 rfl (lv_at hl 5 rfl) ?_
                        refine rk_get (ci := 5) (C := RX5) (T := TX5) (N := 13) hx hb hts iw_X5_findsFar_5 hown hK hP 0 rfl rfl 6 (by decide) fl_X5_findsFar_25 rfl (v := .ref mF) rfl dX5_findsFar_165 ?_
                        refine lv_iload hx hb dX5_findsFar_168 (lv_at hl 1 rfl) ?_
                        refine lv_aload_n hx hb dX5_findsFar_170 rfl (lv_at hl 5 rfl) ?_
                        refine rk_get (ci := 5) (C := RX5) (T := TX5) (N := 13) hx hb hts iw_X5_findsFar_5 hown hK hP 0 rfl rfl 6 (by decide) fl_X5_findsFar_25 rfl (v := .ref mF) rfl dX5_findsFar_171 ?_
                        refine lv_iload hx hb dX5_findsFar_174 (lv_at hl 0 rfl) ?_
                        refine rk_iald hx hb hK hP 2 rfl ((gok i (by omega)).2.2.2) (by omega) (v := (upd f3 (mhi Al i) ((f3 (mlo Al i)) + (nI 100000))) (mhi Al i)) (rfl) dX5_findsFar_176 ?_
                        refine lv_iload hx hb dX5_findsFar_177 (lv_at hl 2 rfl) ?_
                        refine lv_iadd hx hb dX5_findsFar_179 ?_
                        refine lv_aload_n hx hb dX5_findsFar_180 rfl (lv_at hl 5 rfl) ?_
                        refine rk_get (ci := 5) (C := RX5) (T := TX5) (N := 13) hx hb hts iw_X5_findsFar_5 hown hK hP 0 rfl rfl 6 (by decide) fl_X5_findsFar_25 rfl (v := .ref mF) rfl dX5_findsFar_181 ?_
                        refine lv_iload hx hb dX5_findsFar_184 (lv_at hl 1 rfl) ?_
                        refine rk_iald hx hb hK hP 2 rfl ((gok i (by omega)).2.1) (by omega) (v := (upd f3 (mhi Al i) ((f3 (mlo Al i)) + (nI 100000))) (mlo Al i)) (rfl) dX5_findsFar_186 ?_
                        refine lv_icmp_ge (tgt := 203) hx hb dX5_findsFar_187 (by decide) (fun zc187 => ?_) (fun zc187 => ?_)
                        · refine lv_aload_n hx hb dX5_findsFar_203 rfl (lv_at hl 5 rfl) ?_
                          refine rk_get (ci := 5) (C := RX5) (T := TX5) (N := 13) hx hb hts iw_X5_findsFar_5 hown hK hP 0 rfl rfl 6 (by decide) fl_X5_findsFar_25 rfl (v := .ref mF) rfl dX5_findsFar_204 ?_
                          refine lv_iload hx hb dX5_findsFar_207 (lv_at hl 1 rfl) ?_
                          refine rk_iald hx hb hK hP 2 rfl ((gok i (by omega)).2.1) (by omega) (v := (upd f3 (mhi Al i) ((f3 (mlo Al i)) + (nI 100000))) (mlo Al i)) (rfl) dX5_findsFar_209 ?_
                          refine rk_iast hx hb hK hP hD hS 2 rfl ((gok i (by omega)).2.1) (by omega) (ws' := [(mo, .inr (5, [.ref mA, .ref mK, .ref mH, .int hy, .ref mS, .ref mV, .ref mF, .ref mP, .int pl, .int sp, .int nu, .ref mR, .int rm])), (mA, aI E 92 Al), (mF, aI E 16 (upd (upd f3 (mhi Al i) ((f3 (mlo Al i)) + (nI 100000))) (mlo Al i) ((upd f3 (mhi Al i) ((f3 (mlo Al i)) + (nI 100000))) (mlo Al i))))]) rfl dX5_findsFar_210 (fun H locs hP hD hS => ?_)
                          refine lv_iinc (v := nI (i + 1)) (lv' := [(5, .int (nI (i + 1))), (8, .int (nI (mhi Al i))), (7, .int (nI (mlo Al i))), (6, .int (nI 100000)), (4, .int (nI j)), (0, .ref mo), (1, .int (nI q)), (2, .int w), (3, .int (nI 1))]) hx hb dX5_findsFar_211 hl (k := 3) rfl (by rw [show Int32.ofInt 1 = nI 1 by decide]; exact nI_add _ _) (by decide) rfl (fun ls hl => ?_)
                          refine lv_goto (tgt := 48) hx hb dX5_findsFar_214 (by decide) ?_
                          exact ih48 (i + 1) (upd (upd f3 (mhi Al i) ((f3 (mlo Al i)) + (nI 100000))) (mlo Al i) ((upd f3 (mhi Al i) ((f3 (mlo Al i)) + (nI 100000))) (mlo Al i))) (by rw [shoM_f zc140] at zc187 ⊢; rw [shoM_t zc187, ef3, fpM, byM1 (cnt_1 zc66)]) (by first | assumption | omega | rfl) (by omega) _ _ (hP.sub [0, 1, 2] rfl) (hD.sub [0, 1, 2] (by decide) rfl) hS ls (lv_sub hl [0, 4, 5, 6, 7, 8] rfl)
                        · refine lv_aload_n hx hb dX5_findsFar_190 rfl (lv_at hl 5 rfl) ?_
                          refine rk_get (ci := 5) (C := RX5) (T := TX5) (N := 13) hx hb hts iw_X5_findsFar_5 hown hK hP 0 rfl rfl 6 (by decide) fl_X5_findsFar_25 rfl (v := .ref mF) rfl dX5_findsFar_191 ?_
                          refine lv_iload hx hb dX5_findsFar_194 (lv_at hl 0 rfl) ?_
                          refine rk_iald hx hb hK hP 2 rfl ((gok i (by omega)).2.2.2) (by omega) (v := (upd f3 (mhi Al i) ((f3 (mlo Al i)) + (nI 100000))) (mhi Al i)) (rfl) dX5_findsFar_196 ?_
                          refine lv_iload hx hb dX5_findsFar_197 (lv_at hl 2 rfl) ?_
                          refine lv_iadd hx hb dX5_findsFar_199 ?_
                          refine lv_goto (tgt := 210) hx hb dX5_findsFar_200 (by decide) ?_
                          refine rk_iast hx hb hK hP hD hS 2 rfl ((gok i (by omega)).2.1) (by omega) (ws' := [(mo, .inr (5, [.ref mA, .ref mK, .ref mH, .int hy, .ref mS, .ref mV, .ref mF, .ref mP, .int pl, .int sp, .int nu, .ref mR, .int rm])), (mA, aI E 92 Al), (mF, aI E 16 (upd (upd f3 (mhi Al i) ((f3 (mlo Al i)) + (nI 100000))) (mlo Al i) (((upd f3 (mhi Al i) ((f3 (mlo Al i)) + (nI 100000))) (mhi Al i)) + (nI 100000))))]) rfl dX5_findsFar_210 (fun H locs hP hD hS => ?_)
                          refine lv_iinc (v := nI (i + 1)) (lv' := [(5, .int (nI (i + 1))), (8, .int (nI (mhi Al i))), (7, .int (nI (mlo Al i))), (6, .int (nI 100000)), (4, .int (nI j)), (0, .ref mo), (1, .int (nI q)), (2, .int w), (3, .int (nI 1))]) hx hb dX5_findsFar_211 hl (k := 3) rfl (by rw [show Int32.ofInt 1 = nI 1 by decide]; exact nI_add _ _) (by decide) rfl (fun ls hl => ?_)
                          refine lv_goto (tgt := 48) hx hb dX5_findsFar_214 (by decide) ?_
                          exact ih48 (i + 1) (upd (upd f3 (mhi Al i) ((f3 (mlo Al i)) + (nI 100000))) (mlo Al i) (((upd f3 (mhi Al i) ((f3 (mlo Al i)) + (nI 100000))) (mhi Al i)) + (nI 100000))) (by rw [shoM_f zc140] at zc187 ⊢; rw [shoM_f zc187, ef3, fpM, byM1 (cnt_1 zc66)]) (by first | assumption | omega | rfl) (by omega) _ _ (hP.sub [0, 1, 2] rfl) (hD.sub [0, 1, 2] (by decide) rfl) hS ls (lv_sub hl [0, 4, 5, 6, 7, 8] rfl)
              exact L48 ((k - 0) + 1) 0 f2 (rfl) (by first | assumption | omega | rfl) (Nat.lt_succ_self _) _ _ (hP.sub [0, 1, 2] rfl) (hD.sub [0, 1, 2] (by decide) rfl) hS ls (lv_sub hl [0, 1, 2, 3, 4, 5] rfl)
        exact L38 ((16 - 0) + 1) 0 ((fiM F q 16)) (rfl) (by first | assumption | omega | rfl) (Nat.lt_succ_self _) _ _ (hP.sub [0, 1, 2] rfl) (hD.sub [0, 1, 2] (by decide) rfl) hS ls (lv_sub hl [0, 1, 2, 3, 4] rfl)
      · refine lv_aload_n hx hb dX5_findsFar_10 rfl (lv_at hl 1 rfl) ?_
        refine rk_get (ci := 5) (C := RX5) (T := TX5) (N := 13) hx hb hts iw_X5_findsFar_5 hown hK hP 0 rfl rfl 6 (by decide) fl_X5_findsFar_25 rfl (v := .ref mF) rfl dX5_findsFar_11 ?_
        refine lv_iload hx hb dX5_findsFar_14 (lv_at hl 0 rfl) ?_
        refine lv_iload hx hb dX5_findsFar_16 (lv_at hl 0 rfl) ?_
        refine lv_iload_n hx hb dX5_findsFar_18 rfl (lv_at hl 2 rfl) ?_
        refine rk_neN (tgt := 26) hx hb (by omega) (by omega) dX5_findsFar_19 (by decide) (fun zc19 => ?_) (fun zc19 => ?_)
        · refine lv_ldc (v := nI 100000) hx hb hown (hts _ ct90_X5_findsFar) dX5_findsFar_26 ?_
          refine rk_iast hx hb hK hP hD hS 2 rfl (by omega) (by omega) (ws' := [(mo, .inr (5, [.ref mA, .ref mK, .ref mH, .int hy, .ref mS, .ref mV, .ref mF, .ref mP, .int pl, .int sp, .int nu, .ref mR, .int rm])), (mA, aI E 92 Al), (mF, aI E 16 (upd f i (nI 100000)))]) rfl dX5_findsFar_28 (fun H locs hP hD hS => ?_)
          refine lv_iinc (v := nI (i + 1)) (lv' := [(4, .int (nI (i + 1))), (0, .ref mo), (1, .int (nI q)), (2, .int w), (3, .int (nI 1))]) hx hb dX5_findsFar_29 hl (k := 0) rfl (by rw [show Int32.ofInt 1 = nI 1 by decide]; exact nI_add _ _) (by decide) rfl (fun ls hl => ?_)
          refine lv_goto (tgt := 3) hx hb dX5_findsFar_32 (by decide) ?_
          exact ih3 (i + 1) (upd f i (nI 100000)) (by rw [ef]; exact fiM_1 (if_neg zc19).symm) (by first | assumption | omega | rfl) (by omega) _ _ (hP.sub [0, 1, 2] rfl) (hD.sub [0, 1, 2] (by decide) rfl) hS ls (lv_sub hl [0, 1, 2, 3, 4] rfl)
        · refine lv_iconst (v := nI 0) hx hb dX5_findsFar_22 (by decide) ?_
          refine lv_goto (tgt := 28) hx hb dX5_findsFar_23 (by decide) ?_
          refine rk_iast hx hb hK hP hD hS 2 rfl (by omega) (by omega) (ws' := [(mo, .inr (5, [.ref mA, .ref mK, .ref mH, .int hy, .ref mS, .ref mV, .ref mF, .ref mP, .int pl, .int sp, .int nu, .ref mR, .int rm])), (mA, aI E 92 Al), (mF, aI E 16 (upd f i (nI 0)))]) rfl dX5_findsFar_28 (fun H locs hP hD hS => ?_)
          refine lv_iinc (v := nI (i + 1)) (lv' := [(4, .int (nI (i + 1))), (0, .ref mo), (1, .int (nI q)), (2, .int w), (3, .int (nI 1))]) hx hb dX5_findsFar_29 hl (k := 0) rfl (by rw [show Int32.ofInt 1 = nI 1 by decide]; exact nI_add _ _) (by decide) rfl (fun ls hl => ?_)
          refine lv_goto (tgt := 3) hx hb dX5_findsFar_32 (by decide) ?_
          exact ih3 (i + 1) (upd f i (nI 0)) (by rw [ef]; exact fiM_1 (if_pos zc19).symm) (by first | assumption | omega | rfl) (by omega) _ _ (hP.sub [0, 1, 2] rfl) (hD.sub [0, 1, 2] (by decide) rfl) hS ls (lv_sub hl [0, 1, 2, 3, 4] rfl)
  exact L3 ((16 - 0) + 1) 0 F (by exact (fiM_0 F q).symm) (by first | assumption | omega | rfl) (Nat.lt_succ_self _) _ _ (hP.sub [0, 1, 2] rfl) (hD.sub [0, 1, 2] (by decide) rfl) hS ls (lv_sub hl [0, 1, 2, 3, 4] rfl)
set_option maxHeartbeats 400000 in
set_option maxRecDepth 100000 in
theorem c_X5_findsFar_one (l : Launch) (E : EE) (sz : Nat) (mo mA mK mH mS mV mF mP mR : Nat) (hy pl sp nu rm : Int32) (n k : Nat) (Al : Nat → Int32) (q : Nat) (w : Int32) (F : Nat → Int32) (gA1 : Al 1 = nI k) (gk : k ≤ 30) (gok : okA Al k) (gq : q < 16) : Cv l yX5_findsFar wsX5_findsFar 0 0 E [.ref mo, .int (nI q), .int w, .int (nI 0)] [(mo, .inr (5, [.ref mA, .ref mK, .ref mH, .int hy, .ref mS, .ref mV, .ref mF, .ref mP, .int pl, .int sp, .int nu, .ref mR, .int rm])), (mA, aI E 92 Al), (mF, aI E 16 F)] sz [(mo, .inr (5, [.ref mA, .ref mK, .ref mH, .int hy, .ref mS, .ref mV, .ref mF, .ref mP, .int pl, .int sp, .int nu, .ref mR, .int rm])), (mA, aI E 92 Al), (mF, aI E 16 (farM Al w false F k q))] := by
  refine C_of (QQ := QV E [(mo, .inr (5, [.ref mA, .ref mK, .ref mH, .int hy, .ref mS, .ref mV, .ref mF, .ref mP, .int pl, .int sp, .int nu, .ref mR, .int rm])), (mA, aI E 92 Al), (mF, aI E 16 (farM Al w false F k q))]) (cc := cX5_findsFar) (maxL := 9) (ret := none) (by decide +kernel) rfl (Nat.le_of_ble_eq_true rfl) ?_
  intro p e s m args below meth c A R Q ls hx hb hr hts hown hml hlocks hA hK hN hP hD hS hl hR hQ
  have hown : s.vm.findClass RX5 = some m.cls := hown
  have hl : lv_has ls 9 [(0, .ref mo), (1, .int (nI q)), (2, .int w), (3, .int (nI 0))] := hl
  refine lv_iconst (v := nI 0) hx hb dX5_findsFar_0 (by decide) ?_
  refine lv_istore (lv' := [(4, .int (nI 0)), (0, .ref mo), (1, .int (nI q)), (2, .int w), (3, .int (nI 0))]) hx hb dX5_findsFar_1 hl (by decide) rfl (fun ls hl => ?_)
  have L3 : ∀ (fu : Nat) (i : Nat) (f : Nat → Int32), (ef : f = fiM F q i) → (gi : i ≤ 16) → 16 - i < fu → ∀ (H : Heap) (locs : List Loc), va_P E.1 vwCl [(mo, .inr (5, [.ref mA, .ref mK, .ref mH, .int hy, .ref mS, .ref mV, .ref mF, .ref mP, .int pl, .int sp, .int nu, .ref mR, .int rm])), (mA, aI E 92 Al), (mF, aI E 16 f)] H → va_D A [(mo, .inr (5, [.ref mA, .ref mK, .ref mH, .int hy, .ref mS, .ref mV, .ref mF, .ref mP, .int pl, .int sp, .int nu, .ref mR, .int rm])), (mA, aI E 92 Al), (mF, aI E 16 f)] → va_S A s.heap H locs → ∀ (ls : Array Slot), lv_has ls 9 [(4, .int (nI i)), (0, .ref mo), (1, .int (nI q)), (2, .int w), (3, .int (nI 0))] → W p l e R s m args below meth c H locs 0 0 Q (F0 m 3 ls []) := by
    intro fu
    induction fu with
    | zero => intro i f ef gi hfu; exact absurd hfu (Nat.not_lt_zero _)
    | succ fu ih3 =>
      intro i f ef gi hfu H locs hP hD hS ls hl
      refine lv_iload hx hb dX5_findsFar_3 (lv_at hl 0 rfl) ?_
      refine lv_bipush (v := nI 16) hx hb dX5_findsFar_5 (by decide) ?_
      refine rk_geN (tgt := 35) hx hb (by omega) (by omega) dX5_findsFar_7 (by decide) (fun zc7 => ?_) (fun zc7 => ?_)
      · obtain rfl : 16 = i := by omega
        subst ef
        refine lv_iconst (v := nI 0) hx hb dX5_findsFar_35 (by decide) ?_
        refine lv_istore (lv' := [(4, .int (nI 0)), (0, .ref mo), (1, .int (nI q)), (2, .int w), (3, .int (nI 0))]) hx hb dX5_findsFar_36 hl (by decide) rfl (fun ls hl => ?_)
        have L38 : ∀ (fu : Nat) (j : Nat) (f2 : Nat → Int32), (ef2 : f2 = frM Al w false (fiM F q 16) k j) → (gj : j ≤ 16) → 16 - j < fu → ∀ (H : Heap) (locs : List Loc), va_P E.1 vwCl [(mo, .inr (5, [.ref mA, .ref mK, .ref mH, .int hy, .ref mS, .ref mV, .ref mF, .ref mP, .int pl, .int sp, .int nu, .ref mR, .int rm])), (mA, aI E 92 Al), (mF, aI E 16 f2)] H → va_D A [(mo, .inr (5, [.ref mA, .ref mK, .ref mH, .int hy, .ref mS, .ref mV, .ref mF, .ref mP, .int pl, .int sp, .int nu, .ref mR, .int rm])), (mA, aI E 92 Al), (mF, aI E 16 f2)] → va_S A s.heap H locs → ∀ (ls : Array Slot), lv_has ls 9 [(4, .int (nI j)), (0, .ref mo), (1, .int (nI q)), (2, .int w), (3, .int (nI 0))] → W p l e R s m args below meth c H locs 0 0 Q (F0 m 38 ls []) := by
          intro fu
          induction fu with
          | zero => intro j f2 ef2 gj hfu; exact absurd hfu (Nat.not_lt_zero _)
          | succ fu ih38 =>
            intro j f2 ef2 gj hfu H locs hP hD hS ls hl
            refine lv_iload hx hb dX5_findsFar_38 (lv_at hl 0 rfl) ?_
            refine lv_bipush (v := nI 16) hx hb dX5_findsFar_40 (by decide) ?_
            refine rk_geN (tgt := 223) hx hb (by omega) (by omega) dX5_findsFar_42 (by decide) (fun zc42 => ?_) (fun zc42 => ?_)
            · obtain rfl : 16 = j := by omega
              subst ef2
              have hP9 : va_P E.1 vwCl [(mo, .inr (5, [.ref mA, .ref mK, .ref mH, .int hy, .ref mS, .ref mV, .ref mF, .ref mP, .int pl, .int sp, .int nu, .ref mR, .int rm])), (mA, aI E 92 Al), (mF, aI E 16 ((frM Al w false (fiM F q 16) k 16)))] _ := hP.sub [0, 1, 2] rfl
              have hD9 : va_D A [(mo, .inr (5, [.ref mA, .ref mK, .ref mH, .int hy, .ref mS, .ref mV, .ref mF, .ref mP, .int pl, .int sp, .int nu, .ref mR, .int rm])), (mA, aI E 92 Al), (mF, aI E 16 ((frM Al w false (fiM F q 16) k 16)))] := hD.sub [0, 1, 2] (by decide) rfl
              have hW9 : ([(mo, .inr (5, [.ref mA, .ref mK, .ref mH, .int hy, .ref mS, .ref mV, .ref mF, .ref mP, .int pl, .int sp, .int nu, .ref mR, .int rm])), (mA, aI E 92 Al), (mF, aI E 16 ((frM Al w false (fiM F q 16) k 16)))] : va_W) = [(mo, .inr (5, [.ref mA, .ref mK, .ref mH, .int hy, .ref mS, .ref mV, .ref mF, .ref mP, .int pl, .int sp, .int nu, .ref mR, .int rm])), (mA, aI E 92 Al), (mF, aI E 16 (farM Al w false F k q))] := by rfl
              rw [hW9] at hP9 hD9
              exact ret_v hQ hx hb hr hlocks hP9 hD9 hS dX5_findsFar_223
            · refine lv_iconst (v := nI 0) hx hb dX5_findsFar_45 (by decide) ?_
              refine lv_istore (lv' := [(5, .int (nI 0)), (4, .int (nI j)), (0, .ref mo), (1, .int (nI q)), (2, .int w), (3, .int (nI 0))]) hx hb dX5_findsFar_46 hl (by decide) rfl (fun ls hl => ?_)
              have L48 : ∀ (fu : Nat) (i : Nat) (f3 : Nat → Int32), (ef3 : f3 = fpM Al w false f2 i) → (gi : i ≤ k) → k - i < fu → ∀ (H : Heap) (locs : List Loc), va_P E.1 vwCl [(mo, .inr (5, [.ref mA, .ref mK, .ref mH, .int hy, .ref mS, .ref mV, .ref mF, .ref mP, .int pl, .int sp, .int nu, .ref mR, .int rm])), (mA, aI E 92 Al), (mF, aI E 16 f3)] H → va_D A [(mo, .inr (5, [.ref mA, .ref mK, .ref mH, .int hy, .ref mS, .ref mV, .ref mF, .ref mP, .int pl, .int sp, .int nu, .ref mR, .int rm])), (mA, aI E 92 Al), (mF, aI E 16 f3)] → va_S A s.heap H locs → ∀ (ls : Array Slot), lv_has ls 9 [(5, .int (nI i)), (4, .int (nI j)), (0, .ref mo), (1, .int (nI q)), (2, .int w), (3, .int (nI 0))] → W p l e R s m args below meth c H locs 0 0 Q (F0 m 48 ls []) := by
                intro fu
                induction fu with
                | zero => intro i f3 ef3 gi hfu; exact absurd hfu (Nat.not_lt_zero _)
                | succ fu ih48 =>
                  intro i f3 ef3 gi hfu H locs hP hD hS ls hl
                  refine lv_iload hx hb dX5_findsFar_48 (lv_at hl 0 rfl) ?_
                  refine lv_aload_n hx hb dX5_findsFar_50 rfl (lv_at hl 2 rfl) ?_
                  refine rk_get (ci := 5) (C := RX5) (T := TX5) (N := 13) hx hb hts iw_X5_findsFar_5 hown hK hP 0 rfl rfl 0 (by decide) fl_X5_findsFar_7 rfl (v := .ref mA) rfl dX5_findsFar_51 ?_
                  refine lv_iconst (v := nI 1) hx hb dX5_findsFar_54 (by decide) ?_
                  refine rk_iald hx hb hK hP 1 rfl (by omega) (by omega) (v := nI k) (by exact gA1) dX5_findsFar_55 ?_
                  refine rk_geN (tgt := 217) hx hb (by omega) (by omega) dX5_findsFar_56 (by decide) (fun zc56 => ?_) (fun zc56 => ?_)
                  · refine lv_iinc (v := nI (j + 1)) (lv' := [(4, .int (nI (j + 1))), (5, .int (nI i)), (0, .ref mo), (1, .int (nI q)), (2, .int w), (3, .int (nI 0))]) hx hb dX5_findsFar_217 hl (k := 1) rfl (by rw [show Int32.ofInt 1 = nI 1 by decide]; exact nI_add _ _) (by decide) rfl (fun ls hl => ?_)
                    refine lv_goto (tgt := 38) hx hb dX5_findsFar_220 (by decide) ?_
                    exact ih38 (j + 1) f3 (by obtain rfl : k = i := (by omega); rw [ef3, ef2]; rfl) (by first | assumption | omega | rfl) (by omega) _ _ (hP.sub [0, 1, 2] rfl) (hD.sub [0, 1, 2] (by decide) rfl) hS ls (lv_sub hl [0, 2, 3, 4, 5] rfl)
                  · refine lv_iload_n hx hb dX5_findsFar_59 rfl (lv_at hl 4 rfl) ?_
                    refine lv_iload hx hb dX5_findsFar_60 (lv_at hl 0 rfl) ?_
                    refine lv_ishr hx hb dX5_findsFar_62 ?_
                    refine lv_iconst (v := nI 1) hx hb dX5_findsFar_63 (by decide) ?_
                    refine lv_iand hx hb dX5_findsFar_64 ?_
                    refine lv_iconst (v := nI 1) hx hb dX5_findsFar_65 (by decide) ?_
                    refine lv_icmp_ne (tgt := 74) hx hb dX5_findsFar_66 (by decide) (fun zc66 => ?_) (fun zc66 => ?_)
                    · refine lv_iload_n hx hb dX5_findsFar_74 rfl (lv_at hl 5 rfl) ?_
                      refine lv_if_eq (tgt := 91) hx hb dX5_findsFar_75 (by decide) (fun _ => ?_) (fun q => absurd q (by decide))
                      refine lv_iconst (v := nI 1) hx hb dX5_findsFar_91 (by decide) ?_
                      refine lv_istore (lv' := [(6, .int (nI 1)), (5, .int (nI i)), (4, .int (nI j)), (0, .ref mo), (1, .int (nI q)), (2, .int w), (3, .int (nI 0))]) hx hb dX5_findsFar_92 hl (by decide) rfl (fun ls hl => ?_)
                      refine lv_aload_n hx hb dX5_findsFar_94 rfl (lv_at hl 3 rfl) ?_
                      refine rk_get (ci := 5) (C := RX5) (T := TX5) (N := 13) hx hb hts iw_X5_findsFar_5 hown hK hP 0 rfl rfl 0 (by decide) fl_X5_findsFar_7 rfl (v := .ref mA) rfl dX5_findsFar_95 ?_
                      refine lv_iconst (v := nI 2) hx hb dX5_findsFar_98 (by decide) ?_
                      refine lv_iload hx hb dX5_findsFar_99 (lv_at hl 1 rfl) ?_
                      refine rk_iaddN hx hb dX5_findsFar_101 ?_
                      refine rk_iald hx hb hK hP 1 rfl (by omega) (by omega) (v := nI (mlo Al i)) ((gok i (by omega)).1) dX5_findsFar_102 ?_
                      refine lv_istore (lv' := [(7, .int (nI (mlo Al i))), (6, .int (nI 1)), (5, .int (nI i)), (4, .int (nI j)), (0, .ref mo), (1, .int (nI q)), (2, .int w), (3, .int (nI 0))]) hx hb dX5_findsFar_103 hl (by decide) rfl (fun ls hl => ?_)
                      refine lv_aload_n hx hb dX5_findsFar_105 rfl (lv_at hl 4 rfl) ?_
                      refine rk_get (ci := 5) (C := RX5) (T := TX5) (N := 13) hx hb hts iw_X5_findsFar_5 hown hK hP 0 rfl rfl 0 (by decide) fl_X5_findsFar_7 rfl (v := .ref mA) rfl dX5_findsFar_106 ?_
                      refine lv_bipush (v := nI 32) hx hb dX5_findsFar_109 (by decide) ?_
                      refine lv_iload hx hb dX5_findsFar_111 (lv_at hl 2 rfl) ?_
                      refine rk_iaddN hx hb dX5_findsFar_113 ?_
                      refine rk_iald hx hb hK hP 1 rfl (by omega) (by omega) (v := nI (mhi Al i)) ((gok i (by omega)).2.2.1) dX5_findsFar_114 ?_
                      refine lv_istore (lv' := [(8, .int (nI (mhi Al i))), (7, .int (nI (mlo Al i))), (6, .int (nI 1)), (5, .int (nI i)), (4, .int (nI j)), (0, .ref mo), (1, .int (nI q)), (2, .int w), (3, .int (nI 0))]) hx hb dX5_findsFar_115 hl (by decide) rfl (fun ls hl => ?_)
                      refine lv_aload_n hx hb dX5_findsFar_117 rfl (lv_at hl 5 rfl) ?_
                      refine rk_get (ci := 5) (C := RX5) (T := TX5) (N := 13) hx hb hts iw_X5_findsFar_5 hown hK hP 0 rfl rfl 6 (by decide) fl_X5_findsFar_25 rfl (v := .ref mF) rfl dX5_findsFar_118 ?_
                      refine lv_iload hx hb dX5_findsFar_121 (lv_at hl 0 rfl) ?_
                      refine lv_aload_n hx hb dX5_findsFar_123 rfl (lv_at hl 5 rfl) ?_
                      refine rk_get (ci := 5) (C := RX5) (T := TX5) (N := 13) hx hb hts iw_X5_findsFar_5 hown hK hP 0 rfl rfl 6 (by decide) fl_X5_findsFar_25 rfl (v := .ref mF) rfl dX5_findsFar_124 ?_
                      refine lv_iload hx hb dX5_findsFar_127 (lv_at hl 1 rfl) ?_
                      refine rk_iald hx hb hK hP 2 rfl ((gok i (by omega)).2.1) (by omega) (v := f3 (mlo Al i)) (rfl) dX5_findsFar_129 ?_
                      refine lv_iload hx hb dX5_findsFar_130 (lv_at hl 2 rfl) ?_
                      refine lv_iadd hx hb dX5_findsFar_132 ?_
                      refine lv_aload_n hx hb dX5_findsFar_133 rfl (lv_at hl 5 rfl) ?_
                      refine rk_get (ci := 5) (C := RX5) (T := TX5) (N := 13) hx hb hts iw_X5_findsFar_5 hown hK hP 0 rfl rfl 6 (by decide) fl_X5_findsFar_25 rfl (v := .ref mF) rfl dX5_findsFar_134 ?_
                      refine lv_iload hx hb dX5_findsFar_137 (lv_at hl 0 rfl) ?_
                      refine rk_iald hx hb hK hP 2 rfl ((gok i (by omega)).2.2.2) (by omega) (v := f3 (mhi Al i)) (rfl) dX5_findsFar_139 ?_
                      refine lv_icmp_ge (tgt := 156) hx hb dX5_findsFar_140 (by decide) (fun zc140 => ?_) (fun zc140 => ?_)
                      · refine lv_aload_n hx hb dX5_findsFar_156 rfl (lv_at hl 5 rfl) ?_
                        refine rk_get (ci := 5) (C := RX5) (T := TX5) (N := 13) hx hb hts iw_X5_findsFar_5 hown hK hP 0 rfl rfl 6 (by decide) fl_X5_findsFar_25 rfl (v := .ref mF) rfl dX5_findsFar_157 ?_
                        refine lv_iload hx hb dX5_findsFar_160 (lv_at hl 0 rfl) ?_
                        refine rk_iald hx hb hK hP 2 rfl ((gok i (by omega)).2.2.2) (by omega) (v := f3 (mhi Al i)) (rfl) dX5_findsFar_162 ?_
                        refine rk_iast hx hb hK hP hD hS 2 rfl ((gok i (by omega)).2.2.2) (by omega) (ws' := [(mo, .inr (5, [.ref mA, .ref mK, .ref mH, .int hy, .ref mS, .ref mV, .ref mF, .ref mP, .int pl, .int sp, .int nu, .ref mR, .int rm])), (mA, aI E 92 Al), (mF, aI E 16 (upd f3 (mhi Al i) (f3 (mhi Al i))))]) rfl dX5_findsFar_163 (fun H locs hP hD hS => ?_)
                        refine lv_aload_n hx hb dX5_findsFar_164 rfl (lv_at hl 5 rfl) ?_
                        refine rk_get (ci := 5) (C := RX5) (T := TX5) (N := 13) hx hb hts iw_X5_findsFar_5 hown hK hP 0 rfl rfl 6 (by decide) fl_X5_findsFar_25 rfl (v := .ref mF) rfl dX5_findsFar_165 ?_
                        refine lv_iload hx hb dX5_findsFar_168 (lv_at hl 1 rfl) ?_
                        refine lv_aload_n hx hb dX5_findsFar_170 rfl (lv_at hl 5 rfl) ?_
                        refine rk_get (ci := 5) (C := RX5) (T := TX5) (N := 13) hx hb hts iw_X5_findsFar_5 hown hK hP 0 rfl rfl 6 (by decide) fl_X5_findsFar_25 rfl (v := .ref mF) rfl dX5_findsFar_171 ?_
                        refine lv_iload hx hb dX5_findsFar_174 (lv_at hl 0 rfl) ?_
                        refine rk_iald hx hb hK hP 2 rfl ((gok i (by omega)).2.2.2) (by omega) (v := (upd f3 (mhi Al i) (f3 (mhi Al i))) (mhi Al i)) (rfl) dX5_findsFar_176 ?_
                        refine lv_iload hx hb dX5_findsFar_177 (lv_at hl 2 rfl) ?_
                        refine lv_iadd hx hb dX5_findsFar_179 ?_
                        refine lv_aload_n hx hb dX5_findsFar_180 rfl (lv_at hl 5 rfl) ?_
                        refine rk_get (ci := 5) (C := RX5) (T := TX5) (N := 13) hx hb hts iw_X5_findsFar_5 hown hK hP 0 rfl rfl 6 (by decide) fl_X5_findsFar_25 rfl (v := .ref mF) rfl dX5_findsFar_181 ?_
                        refine lv_iload hx hb dX5_findsFar_184 (lv_at hl 1 rfl) ?_
                        refine rk_iald hx hb hK hP 2 rfl ((gok i (by omega)).2.1) (by omega) (v := (upd f3 (mhi Al i) (f3 (mhi Al i))) (mlo Al i)) (rfl) dX5_findsFar_186 ?_
                        refine lv_icmp_ge (tgt := 203) hx hb dX5_findsFar_187 (by decide) (fun zc187 => ?_) (fun zc187 => ?_)
                        · refine lv_aload_n hx hb dX5_findsFar_203 rfl (lv_at hl 5 rfl) ?_
                          refine rk_get (ci := 5) (C := RX5) (T := TX5) (N := 13) hx hb hts iw_X5_findsFar_5 hown hK hP 0 rfl rfl 6 (by decide) fl_X5_findsFar_25 rfl (v := .ref mF) rfl dX5_findsFar_204 ?_
                          refine lv_iload hx hb dX5_findsFar_207 (lv_at hl 1 rfl) ?_
                          refine rk_iald hx hb hK hP 2 rfl ((gok i (by omega)).2.1) (by omega) (v := (upd f3 (mhi Al i) (f3 (mhi Al i))) (mlo Al i)) (rfl) dX5_findsFar_209 ?_
                          refine rk_iast hx hb hK hP hD hS 2 rfl ((gok i (by omega)).2.1) (by omega) (ws' := [(mo, .inr (5, [.ref mA, .ref mK, .ref mH, .int hy, .ref mS, .ref mV, .ref mF, .ref mP, .int pl, .int sp, .int nu, .ref mR, .int rm])), (mA, aI E 92 Al), (mF, aI E 16 (upd (upd f3 (mhi Al i) (f3 (mhi Al i))) (mlo Al i) ((upd f3 (mhi Al i) (f3 (mhi Al i))) (mlo Al i))))]) rfl dX5_findsFar_210 (fun H locs hP hD hS => ?_)
                          refine lv_iinc (v := nI (i + 1)) (lv' := [(5, .int (nI (i + 1))), (8, .int (nI (mhi Al i))), (7, .int (nI (mlo Al i))), (6, .int (nI 1)), (4, .int (nI j)), (0, .ref mo), (1, .int (nI q)), (2, .int w), (3, .int (nI 0))]) hx hb dX5_findsFar_211 hl (k := 3) rfl (by rw [show Int32.ofInt 1 = nI 1 by decide]; exact nI_add _ _) (by decide) rfl (fun ls hl => ?_)
                          refine lv_goto (tgt := 48) hx hb dX5_findsFar_214 (by decide) ?_
                          exact ih48 (i + 1) (upd (upd f3 (mhi Al i) (f3 (mhi Al i))) (mlo Al i) ((upd f3 (mhi Al i) (f3 (mhi Al i))) (mlo Al i))) (by rw [shoM_t zc140] at zc187 ⊢; rw [shoM_t zc187, ef3, fpM, byM3 (cnt_0 zc66)]) (by first | assumption | omega | rfl) (by omega) _ _ (hP.sub [0, 1, 2] rfl) (hD.sub [0, 1, 2] (by decide) rfl) hS ls (lv_sub hl [0, 4, 5, 6, 7, 8] rfl)
                        · refine lv_aload_n hx hb dX5_findsFar_190 rfl (lv_at hl 5 rfl) ?_
                          refine rk_get (ci := 5) (C := RX5) (T := TX5) (N := 13) hx hb hts iw_X5_findsFar_5 hown hK hP 0 rfl rfl 6 (by decide) fl_X5_findsFar_25 rfl (v := .ref mF) rfl dX5_findsFar_191 ?_
                          refine lv_iload hx hb dX5_findsFar_194 (lv_at hl 0 rfl) ?_
                          refine rk_iald hx hb hK hP 2 rfl ((gok i (by omega)).2.2.2) (by omega) (v := (upd f3 (mhi Al i) (f3 (mhi Al i))) (mhi Al i)) (rfl) dX5_findsFar_196 ?_
                          refine lv_iload hx hb dX5_findsFar_197 (lv_at hl 2 rfl) ?_
                          refine lv_iadd hx hb dX5_findsFar_199 ?_
                          refine lv_goto (tgt := 210) hx hb dX5_findsFar_200 (by decide) ?_
                          refine rk_iast hx hb hK hP hD hS 2 rfl ((gok i (by omega)).2.1) (by omega) (ws' := [(mo, .inr (5, [.ref mA, .ref mK, .ref mH, .int hy, .ref mS, .ref mV, .ref mF, .ref mP, .int pl, .int sp, .int nu, .ref mR, .int rm])), (mA, aI E 92 Al), (mF, aI E 16 (upd (upd f3 (mhi Al i) (f3 (mhi Al i))) (mlo Al i) (((upd f3 (mhi Al i) (f3 (mhi Al i))) (mhi Al i)) + (nI 1))))]) rfl dX5_findsFar_210 (fun H locs hP hD hS => ?_)
                          refine lv_iinc (v := nI (i + 1)) (lv' := [(5, .int (nI (i + 1))), (8, .int (nI (mhi Al i))), (7, .int (nI (mlo Al i))), (6, .int (nI 1)), (4, .int (nI j)), (0, .ref mo), (1, .int (nI q)), (2, .int w), (3, .int (nI 0))]) hx hb dX5_findsFar_211 hl (k := 3) rfl (by rw [show Int32.ofInt 1 = nI 1 by decide]; exact nI_add _ _) (by decide) rfl (fun ls hl => ?_)
                          refine lv_goto (tgt := 48) hx hb dX5_findsFar_214 (by decide) ?_
                          exact ih48 (i + 1) (upd (upd f3 (mhi Al i) (f3 (mhi Al i))) (mlo Al i) (((upd f3 (mhi Al i) (f3 (mhi Al i))) (mhi Al i)) + (nI 1))) (by rw [shoM_t zc140] at zc187 ⊢; rw [shoM_f zc187, ef3, fpM, byM3 (cnt_0 zc66)]) (by first | assumption | omega | rfl) (by omega) _ _ (hP.sub [0, 1, 2] rfl) (hD.sub [0, 1, 2] (by decide) rfl) hS ls (lv_sub hl [0, 4, 5, 6, 7, 8] rfl)
                      · refine lv_aload_n hx hb dX5_findsFar_143 rfl (lv_at hl 5 rfl) ?_
                        refine rk_get (ci := 5) (C := RX5) (T := TX5) (N := 13) hx hb hts iw_X5_findsFar_5 hown hK hP 0 rfl rfl 6 (by decide) fl_X5_findsFar_25 rfl (v := .ref mF) rfl dX5_findsFar_144 ?_
                        refine lv_iload hx hb dX5_findsFar_147 (lv_at hl 1 rfl) ?_
                        refine rk_iald hx hb hK hP 2 rfl ((gok i (by omega)).2.1) (by omega) (v := f3 (mlo Al i)) (rfl) dX5_findsFar_149 ?_
                        refine lv_iload hx hb dX5_findsFar_150 (lv_at hl 2 rfl) ?_
                        refine lv_iadd hx hb dX5_findsFar_152 ?_
                        refine lv_goto (tgt := 163) hx hb dX5_findsFar_153 (by decide) ?_
                        refine rk_iast hx hb hK hP hD hS 2 rfl ((gok i (by omega)).2.2.2) (by omega) (ws' := [(mo, .inr (5, [.ref mA, .ref mK, .ref mH, .int hy, .ref mS, .ref mV, .ref mF, .ref mP, .int pl, .int sp, .int nu, .ref mR, .int rm])), (mA, aI E 92 Al), (mF, aI E 16 (upd f3 (mhi Al i) ((f3 (mlo Al i)) + (nI 1))))]) rfl dX5_findsFar_163 (fun H locs hP hD hS => ?_)
                        refine lv_aload_n hx hb dX5_findsFar_164 rfl (lv_at hl 5 rfl) ?_
                        refine rk_get (ci := 5) (C := RX5) (T := TX5) (N := 13) hx hb hts iw_X5_findsFar_5 hown hK hP 0 rfl rfl 6 (by decide) fl_X5_findsFar_25 rfl (v := .ref mF) rfl dX5_findsFar_165 ?_
                        refine lv_iload hx hb dX5_findsFar_168 (lv_at hl 1 rfl) ?_
                        refine lv_aload_n hx hb dX5_findsFar_170 rfl (lv_at hl 5 rfl) ?_
                        refine rk_get (ci := 5) (C := RX5) (T := TX5) (N := 13) hx hb hts iw_X5_findsFar_5 hown hK hP 0 rfl rfl 6 (by decide) fl_X5_findsFar_25 rfl (v := .ref mF) rfl dX5_findsFar_171 ?_
                        refine lv_iload hx hb dX5_findsFar_174 (lv_at hl 0 rfl) ?_
                        refine rk_iald hx hb hK hP 2 rfl ((gok i (by omega)).2.2.2) (by omega) (v := (upd f3 (mhi Al i) ((f3 (mlo Al i)) + (nI 1))) (mhi Al i)) (rfl) dX5_findsFar_176 ?_
                        refine lv_iload hx hb dX5_findsFar_177 (lv_at hl 2 rfl) ?_
                        refine lv_iadd hx hb dX5_findsFar_179 ?_
                        refine lv_aload_n hx hb dX5_findsFar_180 rfl (lv_at hl 5 rfl) ?_
                        refine rk_get (ci := 5) (C := RX5) (T := TX5) (N := 13) hx hb hts iw_X5_findsFar_5 hown hK hP 0 rfl rfl 6 (by decide) fl_X5_findsFar_25 rfl (v := .ref mF) rfl dX5_findsFar_181 ?_
                        refine lv_iload hx hb dX5_findsFar_184 (lv_at hl 1 rfl) ?_
                        refine rk_iald hx hb hK hP 2 rfl ((gok i (by omega)).2.1) (by omega) (v := (upd f3 (mhi Al i) ((f3 (mlo Al i)) + (nI 1))) (mlo Al i)) (rfl) dX5_findsFar_186 ?_
                        refine lv_icmp_ge (tgt := 203) hx hb dX5_findsFar_187 (by decide) (fun zc187 => ?_) (fun zc187 => ?_)
                        · refine lv_aload_n hx hb dX5_findsFar_203 rfl (lv_at hl 5 rfl) ?_
                          refine rk_get (ci := 5) (C := RX5) (T := TX5) (N := 13) hx hb hts iw_X5_findsFar_5 hown hK hP 0 rfl rfl 6 (by decide) fl_X5_findsFar_25 rfl (v := .ref mF) rfl dX5_findsFar_204 ?_
                          refine lv_iload hx hb dX5_findsFar_207 (lv_at hl 1 rfl) ?_
                          refine rk_iald hx hb hK hP 2 rfl ((gok i (by omega)).2.1) (by omega) (v := (upd f3 (mhi Al i) ((f3 (mlo Al i)) + (nI 1))) (mlo Al i)) (rfl) dX5_findsFar_209 ?_
                          refine rk_iast hx hb hK hP hD hS 2 rfl ((gok i (by omega)).2.1) (by omega) (ws' := [(mo, .inr (5, [.ref mA, .ref mK, .ref mH, .int hy, .ref mS, .ref mV, .ref mF, .ref mP, .int pl, .int sp, .int nu, .ref mR, .int rm])), (mA, aI E 92 Al), (mF, aI E 16 (upd (upd f3 (mhi Al i) ((f3 (mlo Al i)) + (nI 1))) (mlo Al i) ((upd f3 (mhi Al i) ((f3 (mlo Al i)) + (nI 1))) (mlo Al i))))]) rfl dX5_findsFar_210 (fun H locs hP hD hS => ?_)
                          refine lv_iinc (v := nI (i + 1)) (lv' := [(5, .int (nI (i + 1))), (8, .int (nI (mhi Al i))), (7, .int (nI (mlo Al i))), (6, .int (nI 1)), (4, .int (nI j)), (0, .ref mo), (1, .int (nI q)), (2, .int w), (3, .int (nI 0))]) hx hb dX5_findsFar_211 hl (k := 3) rfl (by rw [show Int32.ofInt 1 = nI 1 by decide]; exact nI_add _ _) (by decide) rfl (fun ls hl => ?_)
                          refine lv_goto (tgt := 48) hx hb dX5_findsFar_214 (by decide) ?_
                          exact ih48 (i + 1) (upd (upd f3 (mhi Al i) ((f3 (mlo Al i)) + (nI 1))) (mlo Al i) ((upd f3 (mhi Al i) ((f3 (mlo Al i)) + (nI 1))) (mlo Al i))) (by rw [shoM_f zc140] at zc187 ⊢; rw [shoM_t zc187, ef3, fpM, byM3 (cnt_0 zc66)]) (by first | assumption | omega | rfl) (by omega) _ _ (hP.sub [0, 1, 2] rfl) (hD.sub [0, 1, 2] (by decide) rfl) hS ls (lv_sub hl [0, 4, 5, 6, 7, 8] rfl)
                        · refine lv_aload_n hx hb dX5_findsFar_190 rfl (lv_at hl 5 rfl) ?_
                          refine rk_get (ci := 5) (C := RX5) (T := TX5) (N := 13) hx hb hts iw_X5_findsFar_5 hown hK hP 0 rfl rfl 6 (by decide) fl_X5_findsFar_25 rfl (v := .ref mF) rfl dX5_findsFar_191 ?_
                          refine lv_iload hx hb dX5_findsFar_194 (lv_at hl 0 rfl) ?_
                          refine rk_iald hx hb hK hP 2 rfl ((gok i (by omega)).2.2.2) (by omega) (v := (upd f3 (mhi Al i) ((f3 (mlo Al i)) + (nI 1))) (mhi Al i)) (rfl) dX5_findsFar_196 ?_
                          refine lv_iload hx hb dX5_findsFar_197 (lv_at hl 2 rfl) ?_
                          refine lv_iadd hx hb dX5_findsFar_199 ?_
                          refine lv_goto (tgt := 210) hx hb dX5_findsFar_200 (by decide) ?_
                          refine rk_iast hx hb hK hP hD hS 2 rfl ((gok i (by omega)).2.1) (by omega) (ws' := [(mo, .inr (5, [.ref mA, .ref mK, .ref mH, .int hy, .ref mS, .ref mV, .ref mF, .ref mP, .int pl, .int sp, .int nu, .ref mR, .int rm])), (mA, aI E 92 Al), (mF, aI E 16 (upd (upd f3 (mhi Al i) ((f3 (mlo Al i)) + (nI 1))) (mlo Al i) (((upd f3 (mhi Al i) ((f3 (mlo Al i)) + (nI 1))) (mhi Al i)) + (nI 1))))]) rfl dX5_findsFar_210 (fun H locs hP hD hS => ?_)
                          refine lv_iinc (v := nI (i + 1)) (lv' := [(5, .int (nI (i + 1))), (8, .int (nI (mhi Al i))), (7, .int (nI (mlo Al i))), (6, .int (nI 1)), (4, .int (nI j)), (0, .ref mo), (1, .int (nI q)), (2, .int w), (3, .int (nI 0))]) hx hb dX5_findsFar_211 hl (k := 3) rfl (by rw [show Int32.ofInt 1 = nI 1 by decide]; exact nI_add _ _) (by decide) rfl (fun ls hl => ?_)
                          refine lv_goto (tgt := 48) hx hb dX5_findsFar_214 (by decide) ?_
                          exact ih48 (i + 1) (upd (upd f3 (mhi Al i) ((f3 (mlo Al i)) + (nI 1))) (mlo Al i) (((upd f3 (mhi Al i) ((f3 (mlo Al i)) + (nI 1))) (mhi Al i)) + (nI 1))) (by rw [shoM_f zc140] at zc187 ⊢; rw [shoM_f zc187, ef3, fpM, byM3 (cnt_0 zc66)]) (by first | assumption | omega | rfl) (by omega) _ _ (hP.sub [0, 1, 2] rfl) (hD.sub [0, 1, 2] (by decide) rfl) hS ls (lv_sub hl [0, 4, 5, 6, 7, 8] rfl)
                    · refine lv_ldc (v := nI 100000) hx hb hown (hts _ ct90_X5_findsFar) dX5_findsFar_69 ?_
                      refine lv_goto (tgt := 92) hx hb dX5_findsFar_71 (by decide) ?_
                      refine lv_istore (lv' := [(6, .int (nI 100000)), (5, .int (nI i)), (4, .int (nI j)), (0, .ref mo), (1, .int (nI q)), (2, .int w), (3, .int (nI 0))]) hx hb dX5_findsFar_92 hl (by decide) rfl (fun ls hl => ?_)
                      refine lv_aload_n hx hb dX5_findsFar_94 rfl (lv_at hl 3 rfl) ?_
                      refine rk_get (ci := 5) (C := RX5) (T := TX5) (N := 13) hx hb hts iw_X5_findsFar_5 hown hK hP 0 rfl rfl 0 (by decide) fl_X5_findsFar_7 rfl (v := .ref mA) rfl dX5_findsFar_95 ?_
                      refine lv_iconst (v := nI 2) hx hb dX5_findsFar_98 (by decide) ?_
                      refine lv_iload hx hb dX5_findsFar_99 (lv_at hl 1 rfl) ?_
                      refine rk_iaddN hx hb dX5_findsFar_101 ?_
                      refine rk_iald hx hb hK hP 1 rfl (by omega) (by omega) (v := nI (mlo Al i)) ((gok i (by omega)).1) dX5_findsFar_102 ?_
                      refine lv_istore (lv' := [(7, .int (nI (mlo Al i))), (6, .int (nI 100000)), (5, .int (nI i)), (4, .int (nI j)), (0, .ref mo), (1, .int (nI q)), (2, .int w), (3, .int (nI 0))]) hx hb dX5_findsFar_103 hl (by decide) rfl (fun ls hl => ?_)
                      refine lv_aload_n hx hb dX5_findsFar_105 rfl (lv_at hl 4 rfl) ?_
                      refine rk_get (ci := 5) (C := RX5) (T := TX5) (N := 13) hx hb hts iw_X5_findsFar_5 hown hK hP 0 rfl rfl 0 (by decide) fl_X5_findsFar_7 rfl (v := .ref mA) rfl dX5_findsFar_106 ?_
                      refine lv_bipush (v := nI 32) hx hb dX5_findsFar_109 (by decide) ?_
                      refine lv_iload hx hb dX5_findsFar_111 (lv_at hl 2 rfl) ?_
                      refine rk_iaddN hx hb dX5_findsFar_113 ?_
                      refine rk_iald hx hb hK hP 1 rfl (by omega) (by omega) (v := nI (mhi Al i)) ((gok i (by omega)).2.2.1) dX5_findsFar_114 ?_
                      refine lv_istore (lv' := [(8, .int (nI (mhi Al i))), (7, .int (nI (mlo Al i))), (6, .int (nI 100000)), (5, .int (nI i)), (4, .int (nI j)), (0, .ref mo), (1, .int (nI q)), (2, .int w), (3, .int (nI 0))]) hx hb dX5_findsFar_115 hl (by decide) rfl (fun ls hl => ?_)
                      refine lv_aload_n hx hb dX5_findsFar_117 rfl (lv_at hl 5 rfl) ?_
                      refine rk_get (ci := 5) (C := RX5) (T := TX5) (N := 13) hx hb hts iw_X5_findsFar_5 hown hK hP 0 rfl rfl 6 (by decide) fl_X5_findsFar_25 rfl (v := .ref mF) rfl dX5_findsFar_118 ?_
                      refine lv_iload hx hb dX5_findsFar_121 (lv_at hl 0 rfl) ?_
                      refine lv_aload_n hx hb dX5_findsFar_123 rfl (lv_at hl 5 rfl) ?_
                      refine rk_get (ci := 5) (C := RX5) (T := TX5) (N := 13) hx hb hts iw_X5_findsFar_5 hown hK hP 0 rfl rfl 6 (by decide) fl_X5_findsFar_25 rfl (v := .ref mF) rfl dX5_findsFar_124 ?_
                      refine lv_iload hx hb dX5_findsFar_127 (lv_at hl 1 rfl) ?_
                      refine rk_iald hx hb hK hP 2 rfl ((gok i (by omega)).2.1) (by omega) (v := f3 (mlo Al i)) (rfl) dX5_findsFar_129 ?_
                      refine lv_iload hx hb dX5_findsFar_130 (lv_at hl 2 rfl) ?_
                      refine lv_iadd hx hb dX5_findsFar_132 ?_
                      refine lv_aload_n hx hb dX5_findsFar_133 rfl (lv_at hl 5 rfl) ?_
                      refine rk_get (ci := 5) (C := RX5) (T := TX5) (N := 13) hx hb hts iw_X5_findsFar_5 hown hK hP 0 rfl rfl 6 (by decide) fl_X5_findsFar_25 rfl (v := .ref mF) rfl dX5_findsFar_134 ?_
                      refine lv_iload hx hb dX5_findsFar_137 (lv_at hl 0 rfl) ?_
                      refine rk_iald hx hb hK hP 2 rfl ((gok i (by omega)).2.2.2) (by omega) (v := f3 (mhi Al i)) (rfl) dX5_findsFar_139 ?_
                      refine lv_icmp_ge (tgt := 156) hx hb dX5_findsFar_140 (by decide) (fun zc140 => ?_) (fun zc140 => ?_)
                      · refine lv_aload_n hx hb dX5_findsFar_156 rfl (lv_at hl 5 rfl) ?_
                        refine rk_get (ci := 5) (C := RX5) (T := TX5) (N := 13) hx hb hts iw_X5_findsFar_5 hown hK hP 0 rfl rfl 6 (by decide) fl_X5_findsFar_25 rfl (v := .ref mF) rfl dX5_findsFar_157 ?_
                        refine lv_iload hx hb dX5_findsFar_160 (lv_at hl 0 rfl) ?_
                        refine rk_iald hx hb hK hP 2 rfl ((gok i (by omega)).2.2.2) (by omega) (v := f3 (mhi Al i)) (rfl) dX5_findsFar_162 ?_
                        refine rk_iast hx hb hK hP hD hS 2 rfl ((gok i (by omega)).2.2.2) (by omega) (ws' := [(mo, .inr (5, [.ref mA, .ref mK, .ref mH, .int hy, .ref mS, .ref mV, .ref mF, .ref mP, .int pl, .int sp, .int nu, .ref mR, .int rm])), (mA, aI E 92 Al), (mF, aI E 16 (upd f3 (mhi Al i) (f3 (mhi Al i))))]) rfl dX5_findsFar_163 (fun H locs hP hD hS => ?_)
                        refine lv_aload_n hx hb dX5_findsFar_164 rfl (lv_at hl 5 rfl) ?_
                        refine rk_get (ci := 5) (C := RX5) (T := TX5) (N := 13) hx hb hts iw_X5_findsFar_5 hown hK hP 0 rfl rfl 6 (by decide) fl_X5_findsFar_25 rfl (v := .ref mF) rfl dX5_findsFar_165 ?_
                        refine lv_iload hx hb dX5_findsFar_168 (lv_at hl 1 rfl) ?_
                        refine lv_aload_n hx hb dX5_findsFar_170 rfl (lv_at hl 5 rfl) ?_
                        refine rk_get (ci := 5) (C := RX5) (T := TX5) (N := 13) hx hb hts iw_X5_findsFar_5 hown hK hP 0 rfl rfl 6 (by decide) fl_X5_findsFar_25 rfl (v := .ref mF) rfl dX5_findsFar_171 ?_
                        refine lv_iload hx hb dX5_findsFar_174 (lv_at hl 0 rfl) ?_
                        refine rk_iald hx hb hK hP 2 rfl ((gok i (by omega)).2.2.2) (by omega) (v := (upd f3 (mhi Al i) (f3 (mhi Al i))) (mhi Al i)) (rfl) dX5_findsFar_176 ?_
                        refine lv_iload hx hb dX5_findsFar_177 (lv_at hl 2 rfl) ?_
                        refine lv_iadd hx hb dX5_findsFar_179 ?_
                        refine lv_aload_n hx hb dX5_findsFar_180 rfl (lv_at hl 5 rfl) ?_
                        refine rk_get (ci := 5) (C := RX5) (T := TX5) (N := 13) hx hb hts iw_X5_findsFar_5 hown hK hP 0 rfl rfl 6 (by decide) fl_X5_findsFar_25 rfl (v := .ref mF) rfl dX5_findsFar_181 ?_
                        refine lv_iload hx hb dX5_findsFar_184 (lv_at hl 1 rfl) ?_
                        refine rk_iald hx hb hK hP 2 rfl ((gok i (by omega)).2.1) (by omega) (v := (upd f3 (mhi Al i) (f3 (mhi Al i))) (mlo Al i)) (rfl) dX5_findsFar_186 ?_
                        refine lv_icmp_ge (tgt := 203) hx hb dX5_findsFar_187 (by decide) (fun zc187 => ?_) (fun zc187 => ?_)
                        · refine lv_aload_n hx hb dX5_findsFar_203 rfl (lv_at hl 5 rfl) ?_
                          refine rk_get (ci := 5) (C := RX5) (T := TX5) (N := 13) hx hb hts iw_X5_findsFar_5 hown hK hP 0 rfl rfl 6 (by decide) fl_X5_findsFar_25 rfl (v := .ref mF) rfl dX5_findsFar_204 ?_
                          refine lv_iload hx hb dX5_findsFar_207 (lv_at hl 1 rfl) ?_
                          refine rk_iald hx hb hK hP 2 rfl ((gok i (by omega)).2.1) (by omega) (v := (upd f3 (mhi Al i) (f3 (mhi Al i))) (mlo Al i)) (rfl) dX5_findsFar_209 ?_
                          refine rk_iast hx hb hK hP hD hS 2 rfl ((gok i (by omega)).2.1) (by omega) (ws' := [(mo, .inr (5, [.ref mA, .ref mK, .ref mH, .int hy, .ref mS, .ref mV, .ref mF, .ref mP, .int pl, .int sp, .int nu, .ref mR, .int rm])), (mA, aI E 92 Al), (mF, aI E 16 (upd (upd f3 (mhi Al i) (f3 (mhi Al i))) (mlo Al i) ((upd f3 (mhi Al i) (f3 (mhi Al i))) (mlo Al i))))]) rfl dX5_findsFar_210 (fun H locs hP hD hS => ?_)
                          refine lv_iinc (v := nI (i + 1)) (lv' := [(5, .int (nI (i + 1))), (8, .int (nI (mhi Al i))), (7, .int (nI (mlo Al i))), (6, .int (nI 100000)), (4, .int (nI j)), (0, .ref mo), (1, .int (nI q)), (2, .int w), (3, .int (nI 0))]) hx hb dX5_findsFar_211 hl (k := 3) rfl (by rw [show Int32.ofInt 1 = nI 1 by decide]; exact nI_add _ _) (by decide) rfl (fun ls hl => ?_)
                          refine lv_goto (tgt := 48) hx hb dX5_findsFar_214 (by decide) ?_
                          exact ih48 (i + 1) (upd (upd f3 (mhi Al i) (f3 (mhi Al i))) (mlo Al i) ((upd f3 (mhi Al i) (f3 (mhi Al i))) (mlo Al i))) (by rw [shoM_t zc140] at zc187 ⊢; rw [shoM_t zc187, ef3, fpM, byM1 (cnt_1 zc66)]) (by first | assumption | omega | rfl) (by omega) _ _ (hP.sub [0, 1, 2] rfl) (hD.sub [0, 1, 2] (by decide) rfl) hS ls (lv_sub hl [0, 4, 5, 6, 7, 8] rfl)
                        · refine lv_aload_n hx hb dX5_findsFar_190 rfl (lv_at hl 5 rfl) ?_
                          refine rk_get (ci := 5) (C := RX5) (T := TX5) (N := 13) hx hb hts iw_X5_findsFar_5 hown hK hP 0 rfl rfl 6 (by decide) fl_X5_findsFar_25 rfl (v := .ref mF) rfl dX5_findsFar_191 ?_
                          refine lv_iload hx hb dX5_findsFar_194 (lv_at hl 0 rfl) ?_
                          refine rk_iald hx hb hK hP 2 rfl ((gok i (by omega)).2.2.2) (by omega) (v := (upd f3 (mhi Al i) (f3 (mhi Al i))) (mhi Al i)) (rfl) dX5_findsFar_196 ?_
                          refine lv_iload hx hb dX5_findsFar_197 (lv_at hl 2 rfl) ?_
                          refine lv_iadd hx hb dX5_findsFar_199 ?_
                          refine lv_goto (tgt := 210) hx hb dX5_findsFar_200 (by decide) ?_
                          refine rk_iast hx hb hK hP hD hS 2 rfl ((gok i (by omega)).2.1) (by omega) (ws' := [(mo, .inr (5, [.ref mA, .ref mK, .ref mH, .int hy, .ref mS, .ref mV, .ref mF, .ref mP, .int pl, .int sp, .int nu, .ref mR, .int rm])), (mA, aI E 92 Al), (mF, aI E 16 (upd (upd f3 (mhi Al i) (f3 (mhi Al i))) (mlo Al i) (((upd f3 (mhi Al i) (f3 (mhi Al i))) (mhi Al i)) + (nI 100000))))]) rfl dX5_findsFar_210 (fun H locs hP hD hS => ?_)
                          refine lv_iinc (v := nI (i + 1)) (lv' := [(5, .int (nI (i + 1))), (8, .int (nI (mhi Al i))), (7, .int (nI (mlo Al i))), (6, .int (nI 100000)), (4, .int (nI j)), (0, .ref mo), (1, .int (nI q)), (2, .int w), (3, .int (nI 0))]) hx hb dX5_findsFar_211 hl (k := 3) rfl (by rw [show Int32.ofInt 1 = nI 1 by decide]; exact nI_add _ _) (by decide) rfl (fun ls hl => ?_)
                          refine lv_goto (tgt := 48) hx hb dX5_findsFar_214 (by decide) ?_
                          exact ih48 (i + 1) (upd (upd f3 (mhi Al i) (f3 (mhi Al i))) (mlo Al i) (((upd f3 (mhi Al i) (f3 (mhi Al i))) (mhi Al i)) + (nI 100000))) (by rw [shoM_t zc140] at zc187 ⊢; rw [shoM_f zc187, ef3, fpM, byM1 (cnt_1 zc66)]) (by first | assumption | omega | rfl) (by omega) _ _ (hP.sub [0, 1, 2] rfl) (hD.sub [0, 1, 2] (by decide) rfl) hS ls (lv_sub hl [0, 4, 5, 6, 7, 8] rfl)
                      · refine lv_aload_n hx hb dX5_findsFar_143 rfl (lv_at hl 5 rfl) ?_
                        refine rk_get (ci := 5) (C := RX5) (T := TX5) (N := 13) hx hb hts iw_X5_findsFar_5 hown hK hP 0 rfl rfl 6 (by decide) fl_X5_findsFar_25 rfl (v := .ref mF) rfl dX5_findsFar_144 ?_
                        refine lv_iload hx hb dX5_findsFar_147 (lv_at hl 1 rfl) ?_
                        refine rk_iald hx hb hK hP 2 rfl ((gok i (by omega)).2.1) (by omega) (v := f3 (mlo Al i)) (rfl) dX5_findsFar_149 ?_
                        refine lv_iload hx hb dX5_findsFar_150 (lv_at hl 2 rfl) ?_
                        refine lv_iadd hx hb dX5_findsFar_152 ?_
                        refine lv_goto (tgt := 163) hx hb dX5_findsFar_153 (by decide) ?_
                        refine rk_iast hx hb hK hP hD hS 2 rfl ((gok i (by omega)).2.2.2) (by omega) (ws' := [(mo, .inr (5, [.ref mA, .ref mK, .ref mH, .int hy, .ref mS, .ref mV, .ref mF, .ref mP, .int pl, .int sp, .int nu, .ref mR, .int rm])), (mA, aI E 92 Al), (mF, aI E 16 (upd f3 (mhi Al i) ((f3 (mlo Al i)) + (nI 100000))))]) rfl dX5_findsFar_163 (fun H locs hP hD hS => ?_)
                        refine lv_aload_n hx hb dX5_findsFar_164 rfl (lv_at hl 5 rfl) ?_
                        refine rk_get (ci := 5) (C := RX5) (T := TX5) (N := 13) hx hb hts iw_X5_findsFar_5 hown hK hP 0 rfl rfl 6 (by decide) fl_X5_findsFar_25 rfl (v := .ref mF) rfl dX5_findsFar_165 ?_
                        refine lv_iload hx hb dX5_findsFar_168 (lv_at hl 1 rfl) ?_
                        refine lv_aload_n hx hb dX5_findsFar_170 rfl (lv_at hl 5 rfl) ?_
                        refine rk_get (ci := 5) (C := RX5) (T := TX5) (N := 13) hx hb hts iw_X5_findsFar_5 hown hK hP 0 rfl rfl 6 (by decide) fl_X5_findsFar_25 rfl (v := .ref mF) rfl dX5_findsFar_171 ?_
                        refine lv_iload hx hb dX5_findsFar_174 (lv_at hl 0 rfl) ?_
                        refine rk_iald hx hb hK hP 2 rfl ((gok i (by omega)).2.2.2) (by omega) (v := (upd f3 (mhi Al i) ((f3 (mlo Al i)) + (nI 100000))) (mhi Al i)) (rfl) dX5_findsFar_176 ?_
                        refine lv_iload hx hb dX5_findsFar_177 (lv_at hl 2 rfl) ?_
                        refine lv_iadd hx hb dX5_findsFar_179 ?_
                        refine lv_aload_n hx hb dX5_findsFar_180 rfl (lv_at hl 5 rfl) ?_
                        refine rk_get (ci := 5) (C := RX5) (T := TX5) (N := 13) hx hb hts iw_X5_findsFar_5 hown hK hP 0 rfl rfl 6 (by decide) fl_X5_findsFar_25 rfl (v := .ref mF) rfl dX5_findsFar_181 ?_
                        refine lv_iload hx hb dX5_findsFar_184 (lv_at hl 1 rfl) ?_
                        refine rk_iald hx hb hK hP 2 rfl ((gok i (by omega)).2.1) (by omega) (v := (upd f3 (mhi Al i) ((f3 (mlo Al i)) + (nI 100000))) (mlo Al i)) (rfl) dX5_findsFar_186 ?_
                        refine lv_icmp_ge (tgt := 203) hx hb dX5_findsFar_187 (by decide) (fun zc187 => ?_) (fun zc187 => ?_)
                        · refine lv_aload_n hx hb dX5_findsFar_203 rfl (lv_at hl 5 rfl) ?_
                          refine rk_get (ci := 5) (C := RX5) (T := TX5) (N := 13) hx hb hts iw_X5_findsFar_5 hown hK hP 0 rfl rfl 6 (by decide) fl_X5_findsFar_25 rfl (v := .ref mF) rfl dX5_findsFar_204 ?_
                          refine lv_iload hx hb dX5_findsFar_207 (lv_at hl 1 rfl) ?_
                          refine rk_iald hx hb hK hP 2 rfl ((gok i (by omega)).2.1) (by omega) (v := (upd f3 (mhi Al i) ((f3 (mlo Al i)) + (nI 100000))) (mlo Al i)) (rfl) dX5_findsFar_209 ?_
                          refine rk_iast hx hb hK hP hD hS 2 rfl ((gok i (by omega)).2.1) (by omega) (ws' := [(mo, .inr (5, [.ref mA, .ref mK, .ref mH, .int hy, .ref mS, .ref mV, .ref mF, .ref mP, .int pl, .int sp, .int nu, .ref mR, .int rm])), (mA, aI E 92 Al), (mF, aI E 16 (upd (upd f3 (mhi Al i) ((f3 (mlo Al i)) + (nI 100000))) (mlo Al i) ((upd f3 (mhi Al i) ((f3 (mlo Al i)) + (nI 100000))) (mlo Al i))))]) rfl dX5_findsFar_210 (fun H locs hP hD hS => ?_)
                          refine lv_iinc (v := nI (i + 1)) (lv' := [(5, .int (nI (i + 1))), (8, .int (nI (mhi Al i))), (7, .int (nI (mlo Al i))), (6, .int (nI 100000)), (4, .int (nI j)), (0, .ref mo), (1, .int (nI q)), (2, .int w), (3, .int (nI 0))]) hx hb dX5_findsFar_211 hl (k := 3) rfl (by rw [show Int32.ofInt 1 = nI 1 by decide]; exact nI_add _ _) (by decide) rfl (fun ls hl => ?_)
                          refine lv_goto (tgt := 48) hx hb dX5_findsFar_214 (by decide) ?_
                          exact ih48 (i + 1) (upd (upd f3 (mhi Al i) ((f3 (mlo Al i)) + (nI 100000))) (mlo Al i) ((upd f3 (mhi Al i) ((f3 (mlo Al i)) + (nI 100000))) (mlo Al i))) (by rw [shoM_f zc140] at zc187 ⊢; rw [shoM_t zc187, ef3, fpM, byM1 (cnt_1 zc66)]) (by first | assumption | omega | rfl) (by omega) _ _ (hP.sub [0, 1, 2] rfl) (hD.sub [0, 1, 2] (by decide) rfl) hS ls (lv_sub hl [0, 4, 5, 6, 7, 8] rfl)
                        · refine lv_aload_n hx hb dX5_findsFar_190 rfl (lv_at hl 5 rfl) ?_
                          refine rk_get (ci := 5) (C := RX5) (T := TX5) (N := 13) hx hb hts iw_X5_findsFar_5 hown hK hP 0 rfl rfl 6 (by decide) fl_X5_findsFar_25 rfl (v := .ref mF) rfl dX5_findsFar_191 ?_
                          refine lv_iload hx hb dX5_findsFar_194 (lv_at hl 0 rfl) ?_
                          refine rk_iald hx hb hK hP 2 rfl ((gok i (by omega)).2.2.2) (by omega) (v := (upd f3 (mhi Al i) ((f3 (mlo Al i)) + (nI 100000))) (mhi Al i)) (rfl) dX5_findsFar_196 ?_
                          refine lv_iload hx hb dX5_findsFar_197 (lv_at hl 2 rfl) ?_
                          refine lv_iadd hx hb dX5_findsFar_199 ?_
                          refine lv_goto (tgt := 210) hx hb dX5_findsFar_200 (by decide) ?_
                          refine rk_iast hx hb hK hP hD hS 2 rfl ((gok i (by omega)).2.1) (by omega) (ws' := [(mo, .inr (5, [.ref mA, .ref mK, .ref mH, .int hy, .ref mS, .ref mV, .ref mF, .ref mP, .int pl, .int sp, .int nu, .ref mR, .int rm])), (mA, aI E 92 Al), (mF, aI E 16 (upd (upd f3 (mhi Al i) ((f3 (mlo Al i)) + (nI 100000))) (mlo Al i) (((upd f3 (mhi Al i) ((f3 (mlo Al i)) + (nI 100000))) (mhi Al i)) + (nI 100000))))]) rfl dX5_findsFar_210 (fun H locs hP hD hS => ?_)
                          refine lv_iinc (v := nI (i + 1)) (lv' := [(5, .int (nI (i + 1))), (8, .int (nI (mhi Al i))), (7, .int (nI (mlo Al i))), (6, .int (nI 100000)), (4, .int (nI j)), (0, .ref mo), (1, .int (nI q)), (2, .int w), (3, .int (nI 0))]) hx hb dX5_findsFar_211 hl (k := 3) rfl (by rw [show Int32.ofInt 1 = nI 1 by decide]; exact nI_add _ _) (by decide) rfl (fun ls hl => ?_)
                          refine lv_goto (tgt := 48) hx hb dX5_findsFar_214 (by decide) ?_
                          exact ih48 (i + 1) (upd (upd f3 (mhi Al i) ((f3 (mlo Al i)) + (nI 100000))) (mlo Al i) (((upd f3 (mhi Al i) ((f3 (mlo Al i)) + (nI 100000))) (mhi Al i)) + (nI 100000))) (by rw [shoM_f zc140] at zc187 ⊢; rw [shoM_f zc187, ef3, fpM, byM1 (cnt_1 zc66)]) (by first | assumption | omega | rfl) (by omega) _ _ (hP.sub [0, 1, 2] rfl) (hD.sub [0, 1, 2] (by decide) rfl) hS ls (lv_sub hl [0, 4, 5, 6, 7, 8] rfl)
              exact L48 ((k - 0) + 1) 0 f2 (rfl) (by first | assumption | omega | rfl) (Nat.lt_succ_self _) _ _ (hP.sub [0, 1, 2] rfl) (hD.sub [0, 1, 2] (by decide) rfl) hS ls (lv_sub hl [0, 1, 2, 3, 4, 5] rfl)
        exact L38 ((16 - 0) + 1) 0 ((fiM F q 16)) (rfl) (by first | assumption | omega | rfl) (Nat.lt_succ_self _) _ _ (hP.sub [0, 1, 2] rfl) (hD.sub [0, 1, 2] (by decide) rfl) hS ls (lv_sub hl [0, 1, 2, 3, 4] rfl)
      · refine lv_aload_n hx hb dX5_findsFar_10 rfl (lv_at hl 1 rfl) ?_
        refine rk_get (ci := 5) (C := RX5) (T := TX5) (N := 13) hx hb hts iw_X5_findsFar_5 hown hK hP 0 rfl rfl 6 (by decide) fl_X5_findsFar_25 rfl (v := .ref mF) rfl dX5_findsFar_11 ?_
        refine lv_iload hx hb dX5_findsFar_14 (lv_at hl 0 rfl) ?_
        refine lv_iload hx hb dX5_findsFar_16 (lv_at hl 0 rfl) ?_
        refine lv_iload_n hx hb dX5_findsFar_18 rfl (lv_at hl 2 rfl) ?_
        refine rk_neN (tgt := 26) hx hb (by omega) (by omega) dX5_findsFar_19 (by decide) (fun zc19 => ?_) (fun zc19 => ?_)
        · refine lv_ldc (v := nI 100000) hx hb hown (hts _ ct90_X5_findsFar) dX5_findsFar_26 ?_
          refine rk_iast hx hb hK hP hD hS 2 rfl (by omega) (by omega) (ws' := [(mo, .inr (5, [.ref mA, .ref mK, .ref mH, .int hy, .ref mS, .ref mV, .ref mF, .ref mP, .int pl, .int sp, .int nu, .ref mR, .int rm])), (mA, aI E 92 Al), (mF, aI E 16 (upd f i (nI 100000)))]) rfl dX5_findsFar_28 (fun H locs hP hD hS => ?_)
          refine lv_iinc (v := nI (i + 1)) (lv' := [(4, .int (nI (i + 1))), (0, .ref mo), (1, .int (nI q)), (2, .int w), (3, .int (nI 0))]) hx hb dX5_findsFar_29 hl (k := 0) rfl (by rw [show Int32.ofInt 1 = nI 1 by decide]; exact nI_add _ _) (by decide) rfl (fun ls hl => ?_)
          refine lv_goto (tgt := 3) hx hb dX5_findsFar_32 (by decide) ?_
          exact ih3 (i + 1) (upd f i (nI 100000)) (by rw [ef]; exact fiM_1 (if_neg zc19).symm) (by first | assumption | omega | rfl) (by omega) _ _ (hP.sub [0, 1, 2] rfl) (hD.sub [0, 1, 2] (by decide) rfl) hS ls (lv_sub hl [0, 1, 2, 3, 4] rfl)
        · refine lv_iconst (v := nI 0) hx hb dX5_findsFar_22 (by decide) ?_
          refine lv_goto (tgt := 28) hx hb dX5_findsFar_23 (by decide) ?_
          refine rk_iast hx hb hK hP hD hS 2 rfl (by omega) (by omega) (ws' := [(mo, .inr (5, [.ref mA, .ref mK, .ref mH, .int hy, .ref mS, .ref mV, .ref mF, .ref mP, .int pl, .int sp, .int nu, .ref mR, .int rm])), (mA, aI E 92 Al), (mF, aI E 16 (upd f i (nI 0)))]) rfl dX5_findsFar_28 (fun H locs hP hD hS => ?_)
          refine lv_iinc (v := nI (i + 1)) (lv' := [(4, .int (nI (i + 1))), (0, .ref mo), (1, .int (nI q)), (2, .int w), (3, .int (nI 0))]) hx hb dX5_findsFar_29 hl (k := 0) rfl (by rw [show Int32.ofInt 1 = nI 1 by decide]; exact nI_add _ _) (by decide) rfl (fun ls hl => ?_)
          refine lv_goto (tgt := 3) hx hb dX5_findsFar_32 (by decide) ?_
          exact ih3 (i + 1) (upd f i (nI 0)) (by rw [ef]; exact fiM_1 (if_pos zc19).symm) (by first | assumption | omega | rfl) (by omega) _ _ (hP.sub [0, 1, 2] rfl) (hD.sub [0, 1, 2] (by decide) rfl) hS ls (lv_sub hl [0, 1, 2, 3, 4] rfl)
  exact L3 ((16 - 0) + 1) 0 F (by exact (fiM_0 F q).symm) (by first | assumption | omega | rfl) (Nat.lt_succ_self _) _ _ (hP.sub [0, 1, 2] rfl) (hD.sub [0, 1, 2] (by decide) rfl) hS ls (lv_sub hl [0, 1, 2, 3, 4] rfl)
theorem iw_X5_leastRing_5 : ∀ w ∈ u_ws RX5 TX5 13, w ∈ wsX5_leastRing := by decide +kernel
theorem fl_X5_leastRing_7 : Cond.fieldLink RX5 7 (TX5 0).1 (TX5 0).2.1 (TX5 0).2.2.1 ∈ wsX5_leastRing := by decide +kernel
theorem fl_X5_leastRing_25 : Cond.fieldLink RX5 25 (TX5 6).1 (TX5 6).2.1 (TX5 6).2.2.1 ∈ wsX5_leastRing := by decide +kernel
theorem ct90_X5_leastRing : Cond.constant RX5 90 (nI 100000) ∈ wsX5_leastRing := by decide +kernel
set_option maxHeartbeats 400000 in
set_option maxRecDepth 100000 in
theorem c_X5_leastRing (l : Launch) (E : EE) (sz : Nat) (mo mA mK mH mS mV mF mP mR : Nat) (hy pl sp nu rm : Int32) (n k : Nat) (Al : Nat → Int32) (r : Nat) (F : Nat → Int32) (gA1 : Al 1 = nI k) (gk : k ≤ 30) (gok : okA Al k) (gr : r < k) : Ci l yX5_leastRing wsX5_leastRing 1 28 E [.ref mo, .int (nI r)] [(mo, .inr (5, [.ref mA, .ref mK, .ref mH, .int hy, .ref mS, .ref mV, .ref mF, .ref mP, .int pl, .int sp, .int nu, .ref mR, .int rm])), (mA, aI E 92 Al), (mF, aI E 16 F)] sz (lrM (farM Al (nI 1 <<< (nI r &&& 31)) false F k (mlo Al r) (mhi Al r))) [(mo, .inr (5, [.ref mA, .ref mK, .ref mH, .int hy, .ref mS, .ref mV, .ref mF, .ref mP, .int pl, .int sp, .int nu, .ref mR, .int rm])), (mA, aI E 92 Al), (mF, aI E 16 (farM Al (nI 1 <<< (nI r &&& 31)) false F k (mlo Al r)))] := by
  refine C_of (QQ := QI E (lrM (farM Al (nI 1 <<< (nI r &&& 31)) false F k (mlo Al r) (mhi Al r))) [(mo, .inr (5, [.ref mA, .ref mK, .ref mH, .int hy, .ref mS, .ref mV, .ref mF, .ref mP, .int pl, .int sp, .int nu, .ref mR, .int rm])), (mA, aI E 92 Al), (mF, aI E 16 (farM Al (nI 1 <<< (nI r &&& 31)) false F k (mlo Al r)))]) (cc := cX5_leastRing) (maxL := 3) (ret := (some .int)) (by decide +kernel) rfl (Nat.le_of_ble_eq_true rfl) ?_
  intro p e s m args below meth c A R Q ls hx hb hr hts hown hml hlocks hA hK hN hP hD hS hl hR hQ
  have hown : s.vm.findClass RX5 = some m.cls := hown
  have hl : lv_has ls 3 [(0, .ref mo), (1, .int (nI r))] := hl
  refine lv_aload_n hx hb dX5_leastRing_0 rfl (lv_at hl 0 rfl) ?_
  refine lv_aload_n hx hb dX5_leastRing_1 rfl (lv_at hl 0 rfl) ?_
  refine rk_get (ci := 5) (C := RX5) (T := TX5) (N := 13) hx hb hts iw_X5_leastRing_5 hown hK hP 0 rfl rfl 0 (by decide) fl_X5_leastRing_7 rfl (v := .ref mA) rfl dX5_leastRing_2 ?_
  refine lv_iconst (v := nI 2) hx hb dX5_leastRing_5 (by decide) ?_
  refine lv_iload_n hx hb dX5_leastRing_6 rfl (lv_at hl 1 rfl) ?_
  refine rk_iaddN hx hb dX5_leastRing_7 ?_
  refine rk_iald hx hb hK hP 1 rfl (by omega) (by omega) (v := nI (mlo Al r)) ((gok r (by omega)).1) dX5_leastRing_8 ?_
  refine lv_iconst (v := nI 1) hx hb dX5_leastRing_9 (by decide) ?_
  refine lv_iload_n hx hb dX5_leastRing_10 rfl (lv_at hl 1 rfl) ?_
  refine lv_ishl hx hb dX5_leastRing_11 ?_
  refine lv_iconst (v := nI 0) hx hb dX5_leastRing_12 (by decide) ?_
  refine kV_v (E := E) (As := [.int (nI (mlo Al r)), .int ((nI 1) <<< ((nI r) &&& 31)), .int (nI 0)]) (rest := []) (wr := []) ⟨hx, hb, hml, hown, hts⟩ (c_X5_findsFar_one (l := l) (E := E) (sz := _) (mo := mo) (mA := mA) (mK := mK) (mH := mH) (mS := mS) (mV := mV) (mF := mF) (mP := mP) (mR := mR) (hy := hy) (pl := pl) (sp := sp) (nu := nu) (rm := rm) (n := n) (k := k) (Al := Al) (q := mlo Al r) (w := (nI 1) <<< ((nI r) &&& 31)) (F := F) (gA1 := by first | assumption | omega) (gk := by first | assumption | omega) (gok := by first | assumption | omega) (gq := (gok r gr).2.1)) (cwV 3 hts gX5_leastRing_X5_findsFar rfl rfl rfl (by decide +kernel) ⟨by rw [hR]; decide, by rw [hR]; decide⟩) hK hN hP hD hS hA [0, 1, 2] [] rfl (by decide) rfl (by decide) (by decide) 0 5 rfl rfl rfl hl.1 rfl (Nat.le_of_ble_eq_true rfl) dX5_leastRing_13 ⟨Nat.zero_le _, Nat.zero_le _⟩ (fun H locs hP hD hS => ?_)
  have hP : va_P E.1 vwCl [(mo, .inr (5, [.ref mA, .ref mK, .ref mH, .int hy, .ref mS, .ref mV, .ref mF, .ref mP, .int pl, .int sp, .int nu, .ref mR, .int rm])), (mA, aI E 92 Al), (mF, aI E 16 (farM Al ((nI 1) <<< ((nI r) &&& 31)) false F k (mlo Al r)))] H := hP
  have hD : va_D A [(mo, .inr (5, [.ref mA, .ref mK, .ref mH, .int hy, .ref mS, .ref mV, .ref mF, .ref mP, .int pl, .int sp, .int nu, .ref mR, .int rm])), (mA, aI E 92 Al), (mF, aI E 16 (farM Al ((nI 1) <<< ((nI r) &&& 31)) false F k (mlo Al r)))] := hD
  refine lv_aload_n hx hb dX5_leastRing_16 rfl (lv_at hl 0 rfl) ?_
  refine rk_get (ci := 5) (C := RX5) (T := TX5) (N := 13) hx hb hts iw_X5_leastRing_5 hown hK hP 0 rfl rfl 6 (by decide) fl_X5_leastRing_25 rfl (v := .ref mF) rfl dX5_leastRing_17 ?_
  refine lv_aload_n hx hb dX5_leastRing_20 rfl (lv_at hl 0 rfl) ?_
  refine rk_get (ci := 5) (C := RX5) (T := TX5) (N := 13) hx hb hts iw_X5_leastRing_5 hown hK hP 0 rfl rfl 0 (by decide) fl_X5_leastRing_7 rfl (v := .ref mA) rfl dX5_leastRing_21 ?_
  refine lv_bipush (v := nI 32) hx hb dX5_leastRing_24 (by decide) ?_
  refine lv_iload_n hx hb dX5_leastRing_26 rfl (lv_at hl 1 rfl) ?_
  refine rk_iaddN hx hb dX5_leastRing_27 ?_
  refine rk_iald hx hb hK hP 1 rfl (by omega) (by omega) (v := nI (mhi Al r)) ((gok r (by omega)).2.2.1) dX5_leastRing_28 ?_
  refine rk_iald hx hb hK hP 2 rfl ((gok r gr).2.2.2) (by omega) (v := (farM Al ((nI 1) <<< ((nI r) &&& 31)) false F k (mlo Al r)) (mhi Al r)) (rfl) dX5_leastRing_29 ?_
  refine lv_istore_n (lv' := [(2, .int ((farM Al ((nI 1) <<< ((nI r) &&& 31)) false F k (mlo Al r)) (mhi Al r))), (0, .ref mo), (1, .int (nI r))]) hx hb dX5_leastRing_30 rfl hl (by decide) rfl (fun ls hl => ?_)
  refine lv_iload_n hx hb dX5_leastRing_31 rfl (lv_at hl 0 rfl) ?_
  refine lv_ldc (v := nI 100000) hx hb hown (hts _ ct90_X5_leastRing) dX5_leastRing_32 ?_
  refine lv_icmp_lt (tgt := 42) hx hb dX5_leastRing_34 (by decide) (fun zc34 => ?_) (fun zc34 => ?_)
  · refine lv_iload_n hx hb dX5_leastRing_42 rfl (lv_at hl 0 rfl) ?_
    refine lv_iconst (v := nI 1) hx hb dX5_leastRing_43 (by decide) ?_
    refine lv_iadd hx hb dX5_leastRing_44 ?_
    exact ret_i hQ hx hb hr hlocks (hP.sub [0, 1, 2] rfl) (hD.sub [0, 1, 2] (by decide) rfl) hS dX5_leastRing_45 (by rw [lrM, if_pos zc34])
  · refine lv_bipush (v := (-6)) hx hb dX5_leastRing_37 (by decide) ?_
    refine lv_goto (tgt := 45) hx hb dX5_leastRing_39 (by decide) ?_
    exact ret_i hQ hx hb hr hlocks (hP.sub [0, 1, 2] rfl) (hD.sub [0, 1, 2] (by decide) rfl) hS dX5_leastRing_45 (by rw [lrM, if_neg zc34])
set_option maxHeartbeats 400000 in
set_option maxRecDepth 100000 in
theorem c_X5_districtOf (l : Launch) (E : EE) (sz : Nat) (mo mA mK mH mS mV mF mP mR : Nat) (hy pl sp nu rm : Int32) (n k : Nat) (Al : Nat → Int32) (x : Nat) (gA1 : Al 1 = nI k) (gk : k ≤ 30) (gok : okA Al k) (gq : x < 16) : Ci l yX5_districtOf wsX5_districtOf 4 92 E [.ref mo, .int (nI x)] [(mo, .inr (5, [.ref mA, .ref mK, .ref mH, .int hy, .ref mS, .ref mV, .ref mF, .ref mP, .int pl, .int sp, .int nu, .ref mR, .int rm])), (mA, aI E 92 Al)] sz (rsM Al (pgM Al k k) (-6) k x) [(mo, .inr (5, [.ref mA, .ref mK, .ref mH, .int hy, .ref mS, .ref mV, .ref mF, .ref mP, .int pl, .int sp, .int nu, .ref mR, .int rm])), (mA, aI E 92 Al)] := by
  refine C_of (QQ := QI E (rsM Al (pgM Al k k) (-6) k x) [(mo, .inr (5, [.ref mA, .ref mK, .ref mH, .int hy, .ref mS, .ref mV, .ref mF, .ref mP, .int pl, .int sp, .int nu, .ref mR, .int rm])), (mA, aI E 92 Al)]) (cc := cX5_districtOf) (maxL := 2) (ret := (some .int)) (by decide +kernel) rfl (Nat.le_of_ble_eq_true rfl) ?_
  intro p e s m args below meth c A R Q ls hx hb hr hts hown hml hlocks hA hK hN hP hD hS hl hR hQ
  have hown : s.vm.findClass RX5 = some m.cls := hown
  have hl : lv_has ls 2 [(0, .ref mo), (1, .int (nI x))] := hl
  refine lv_aload_n hx hb dX5_districtOf_0 rfl (lv_at hl 0 rfl) ?_
  refine lv_iload_n hx hb dX5_districtOf_1 rfl (lv_at hl 1 rfl) ?_
  refine lv_aload_n hx hb dX5_districtOf_2 rfl (lv_at hl 0 rfl) ?_
  refine kV_i (E := E) (As := []) (rest := [.int (nI x), .ref mo]) (wr := []) ⟨hx, hb, hml, hown, hts⟩ (c_X5_parting (l := l) (E := E) (sz := _) (mo := mo) (mA := mA) (mK := mK) (mH := mH) (mS := mS) (mV := mV) (mF := mF) (mP := mP) (mR := mR) (hy := hy) (pl := pl) (sp := sp) (nu := nu) (rm := rm) (n := n) (k := k) (Al := Al) (gA1 := by first | assumption | omega) (gk := by first | assumption | omega) (gok := by first | assumption | omega)) (cwV 0 hts gX5_districtOf_X5_parting rfl rfl rfl (by decide +kernel) ⟨by rw [hR]; decide, by rw [hR]; decide⟩) hK hN hP hD hS hA [0, 1] [] rfl (by decide) rfl (by decide) (by decide) 0 5 rfl rfl rfl hl.1 rfl (Nat.le_of_ble_eq_true rfl) dX5_districtOf_3 ⟨Nat.zero_le _, Nat.zero_le _⟩ (fun H locs hP hD hS => ?_)
  have hP : va_P E.1 vwCl [(mo, .inr (5, [.ref mA, .ref mK, .ref mH, .int hy, .ref mS, .ref mV, .ref mF, .ref mP, .int pl, .int sp, .int nu, .ref mR, .int rm])), (mA, aI E 92 Al)] H := hP
  have hD : va_D A [(mo, .inr (5, [.ref mA, .ref mK, .ref mH, .int hy, .ref mS, .ref mV, .ref mF, .ref mP, .int pl, .int sp, .int nu, .ref mR, .int rm])), (mA, aI E 92 Al)] := hD
  refine lv_bipush (v := (-6)) hx hb dX5_districtOf_6 (by decide) ?_
  refine kV_i (E := E) (As := [.int (nI x), .int (pgM Al k k), .int ((-6))]) (rest := []) (wr := []) ⟨hx, hb, hml, hown, hts⟩ (c_X5_reach (l := l) (E := E) (sz := _) (mo := mo) (mA := mA) (mK := mK) (mH := mH) (mS := mS) (mV := mV) (mF := mF) (mP := mP) (mR := mR) (hy := hy) (pl := pl) (sp := sp) (nu := nu) (rm := rm) (n := n) (k := k) (Al := Al) (q := x) (w := pgM Al k k) (z := (-6)) (gA1 := by first | assumption | omega) (gk := by first | assumption | omega) (gok := by first | assumption | omega) (gq := by first | assumption | omega)) (cwV 3 hts gX5_districtOf_X5_reach rfl rfl rfl (by decide +kernel) ⟨by rw [hR]; decide, by rw [hR]; decide⟩) hK hN hP hD hS hA [0, 1] [] rfl (by decide) rfl (by decide) (by decide) 0 5 rfl rfl rfl hl.1 rfl (Nat.le_of_ble_eq_true rfl) dX5_districtOf_8 ⟨Nat.zero_le _, Nat.zero_le _⟩ (fun H locs hP hD hS => ?_)
  have hP : va_P E.1 vwCl [(mo, .inr (5, [.ref mA, .ref mK, .ref mH, .int hy, .ref mS, .ref mV, .ref mF, .ref mP, .int pl, .int sp, .int nu, .ref mR, .int rm])), (mA, aI E 92 Al)] H := hP
  have hD : va_D A [(mo, .inr (5, [.ref mA, .ref mK, .ref mH, .int hy, .ref mS, .ref mV, .ref mF, .ref mP, .int pl, .int sp, .int nu, .ref mR, .int rm])), (mA, aI E 92 Al)] := hD
  exact ret_i hQ hx hb hr hlocks (hP.sub [0, 1] rfl) (hD.sub [0, 1] (by decide) rfl) hS dX5_districtOf_11 (rfl)
set_option maxHeartbeats 400000 in
set_option maxRecDepth 100000 in
theorem c_X5_districtsBelow (l : Launch) (E : EE) (sz : Nat) (mo mA mK mH mS mV mF mP mR : Nat) (hy pl sp nu rm : Int32) (n k : Nat) (Al : Nat → Int32) (x : Nat) (gA1 : Al 1 = nI k) (gk : k ≤ 30) (gok : okA Al k) (gx : x ≤ 16) : Ci l yX5_districtsBelow wsX5_districtsBelow 4 92 E [.ref mo, .int (nI x)] [(mo, .inr (5, [.ref mA, .ref mK, .ref mH, .int hy, .ref mS, .ref mV, .ref mF, .ref mP, .int pl, .int sp, .int nu, .ref mR, .int rm])), (mA, aI E 92 Al)] sz (nI (dbM Al k x)) [(mo, .inr (5, [.ref mA, .ref mK, .ref mH, .int hy, .ref mS, .ref mV, .ref mF, .ref mP, .int pl, .int sp, .int nu, .ref mR, .int rm])), (mA, aI E 92 Al)] := by
  refine C_of (QQ := QI E (nI (dbM Al k x)) [(mo, .inr (5, [.ref mA, .ref mK, .ref mH, .int hy, .ref mS, .ref mV, .ref mF, .ref mP, .int pl, .int sp, .int nu, .ref mR, .int rm])), (mA, aI E 92 Al)]) (cc := cX5_districtsBelow) (maxL := 5) (ret := (some .int)) (by decide +kernel) rfl (Nat.le_of_ble_eq_true rfl) ?_
  intro p e s m args below meth c A R Q ls hx hb hr hts hown hml hlocks hA hK hN hP hD hS hl hR hQ
  have hown : s.vm.findClass RX5 = some m.cls := hown
  have hl : lv_has ls 5 [(0, .ref mo), (1, .int (nI x))] := hl
  refine lv_aload_n hx hb dX5_districtsBelow_0 rfl (lv_at hl 0 rfl) ?_
  refine kV_i (E := E) (As := []) (rest := []) (wr := []) ⟨hx, hb, hml, hown, hts⟩ (c_X5_parting (l := l) (E := E) (sz := _) (mo := mo) (mA := mA) (mK := mK) (mH := mH) (mS := mS) (mV := mV) (mF := mF) (mP := mP) (mR := mR) (hy := hy) (pl := pl) (sp := sp) (nu := nu) (rm := rm) (n := n) (k := k) (Al := Al) (gA1 := by first | assumption | omega) (gk := by first | assumption | omega) (gok := by first | assumption | omega)) (cwV 0 hts gX5_districtsBelow_X5_parting rfl rfl rfl (by decide +kernel) ⟨by rw [hR]; decide, by rw [hR]; decide⟩) hK hN hP hD hS hA [0, 1] [] rfl (by decide) rfl (by decide) (by decide) 0 5 rfl rfl rfl hl.1 rfl (Nat.le_of_ble_eq_true rfl) dX5_districtsBelow_1 ⟨Nat.zero_le _, Nat.zero_le _⟩ (fun H locs hP hD hS => ?_)
  have hP : va_P E.1 vwCl [(mo, .inr (5, [.ref mA, .ref mK, .ref mH, .int hy, .ref mS, .ref mV, .ref mF, .ref mP, .int pl, .int sp, .int nu, .ref mR, .int rm])), (mA, aI E 92 Al)] H := hP
  have hD : va_D A [(mo, .inr (5, [.ref mA, .ref mK, .ref mH, .int hy, .ref mS, .ref mV, .ref mF, .ref mP, .int pl, .int sp, .int nu, .ref mR, .int rm])), (mA, aI E 92 Al)] := hD
  refine lv_istore_n (lv' := [(2, .int (pgM Al k k)), (0, .ref mo), (1, .int (nI x))]) hx hb dX5_districtsBelow_4 rfl hl (by decide) rfl (fun ls hl => ?_)
  refine lv_iconst (v := nI 0) hx hb dX5_districtsBelow_5 (by decide) ?_
  refine lv_istore_n (lv' := [(3, .int (nI 0)), (2, .int (pgM Al k k)), (0, .ref mo), (1, .int (nI x))]) hx hb dX5_districtsBelow_6 rfl hl (by decide) rfl (fun ls hl => ?_)
  refine lv_iconst (v := nI 0) hx hb dX5_districtsBelow_7 (by decide) ?_
  refine lv_istore (lv' := [(4, .int (nI 0)), (3, .int (nI 0)), (2, .int (pgM Al k k)), (0, .ref mo), (1, .int (nI x))]) hx hb dX5_districtsBelow_8 hl (by decide) rfl (fun ls hl => ?_)
  have L10 : ∀ (fu : Nat) (cn q : Nat), (ec : cn = pwM (rsM Al (pgM Al k k) (-6) k) (-6) q) → (gq9 : q ≤ x) → x - q < fu → ∀ (H : Heap) (locs : List Loc), va_P E.1 vwCl [(mo, .inr (5, [.ref mA, .ref mK, .ref mH, .int hy, .ref mS, .ref mV, .ref mF, .ref mP, .int pl, .int sp, .int nu, .ref mR, .int rm])), (mA, aI E 92 Al)] H → va_D A [(mo, .inr (5, [.ref mA, .ref mK, .ref mH, .int hy, .ref mS, .ref mV, .ref mF, .ref mP, .int pl, .int sp, .int nu, .ref mR, .int rm])), (mA, aI E 92 Al)] → va_S A s.heap H locs → ∀ (ls : Array Slot), lv_has ls 5 [(4, .int (nI q)), (3, .int (nI cn)), (2, .int (pgM Al k k)), (0, .ref mo), (1, .int (nI x))] → W p l e R s m args below meth c H locs 0 0 Q (F0 m 10 ls []) := by
    intro fu
    induction fu with
    | zero => intro cn q ec gq9 hfu; exact absurd hfu (Nat.not_lt_zero _)
    | succ fu ih10 =>
      intro cn q ec gq9 hfu H locs hP hD hS ls hl
      refine lv_iload hx hb dX5_districtsBelow_10 (lv_at hl 0 rfl) ?_
      refine lv_iload_n hx hb dX5_districtsBelow_12 rfl (lv_at hl 4 rfl) ?_
      refine rk_geN (tgt := 49) hx hb (by omega) (by omega) dX5_districtsBelow_13 (by decide) (fun zc13 => ?_) (fun zc13 => ?_)
      · refine lv_iload_n hx hb dX5_districtsBelow_49 rfl (lv_at hl 1 rfl) ?_
        exact ret_i hQ hx hb hr hlocks (hP.sub [0, 1] rfl) (hD.sub [0, 1] (by decide) rfl) hS dX5_districtsBelow_50 (by obtain rfl : x = q := (by omega); rw [ec]; rfl)
      · refine lv_iload_n hx hb dX5_districtsBelow_16 rfl (lv_at hl 1 rfl) ?_
        refine lv_aload_n hx hb dX5_districtsBelow_17 rfl (lv_at hl 3 rfl) ?_
        refine lv_iload hx hb dX5_districtsBelow_18 (lv_at hl 0 rfl) ?_
        refine lv_iload_n hx hb dX5_districtsBelow_20 rfl (lv_at hl 2 rfl) ?_
        refine lv_bipush (v := (-6)) hx hb dX5_districtsBelow_21 (by decide) ?_
        refine kV_i (E := E) (As := [.int (nI q), .int (pgM Al k k), .int ((-6))]) (rest := [.int (nI cn)]) (wr := []) ⟨hx, hb, hml, hown, hts⟩ (c_X5_reach (l := l) (E := E) (sz := _) (mo := mo) (mA := mA) (mK := mK) (mH := mH) (mS := mS) (mV := mV) (mF := mF) (mP := mP) (mR := mR) (hy := hy) (pl := pl) (sp := sp) (nu := nu) (rm := rm) (n := n) (k := k) (Al := Al) (q := q) (w := pgM Al k k) (z := (-6)) (gA1 := by first | assumption | omega) (gk := by first | assumption | omega) (gok := by first | assumption | omega) (gq := by first | assumption | omega)) (cwV 3 hts gX5_districtsBelow_X5_reach rfl rfl rfl (by decide +kernel) ⟨by rw [hR]; decide, by rw [hR]; decide⟩) hK hN hP hD hS hA [0, 1] [] rfl (by decide) rfl (by decide) (by decide) 0 5 rfl rfl rfl hl.1 rfl (Nat.le_of_ble_eq_true rfl) dX5_districtsBelow_23 ⟨Nat.zero_le _, Nat.zero_le _⟩ (fun H locs hP hD hS => ?_)
        have hP : va_P E.1 vwCl [(mo, .inr (5, [.ref mA, .ref mK, .ref mH, .int hy, .ref mS, .ref mV, .ref mF, .ref mP, .int pl, .int sp, .int nu, .ref mR, .int rm])), (mA, aI E 92 Al)] H := hP
        have hD : va_D A [(mo, .inr (5, [.ref mA, .ref mK, .ref mH, .int hy, .ref mS, .ref mV, .ref mF, .ref mP, .int pl, .int sp, .int nu, .ref mR, .int rm])), (mA, aI E 92 Al)] := hD
        refine lv_iconst (v := nI 1) hx hb dX5_districtsBelow_26 (by decide) ?_
        refine lv_iload hx hb dX5_districtsBelow_27 (lv_at hl 0 rfl) ?_
        refine lv_ishl hx hb dX5_districtsBelow_29 ?_
        refine lv_iconst (v := nI 1) hx hb dX5_districtsBelow_30 (by decide) ?_
        refine lv_isub hx hb dX5_districtsBelow_31 ?_
        refine lv_iand hx hb dX5_districtsBelow_32 ?_
        refine lv_if_ne (tgt := 40) hx hb dX5_districtsBelow_33 (by decide) (fun zc33 => ?_) (fun zc33 => ?_)
        · refine lv_iconst (v := nI 0) hx hb dX5_districtsBelow_40 (by decide) ?_
          refine rk_iaddN hx hb dX5_districtsBelow_41 ?_
          refine lv_istore_n (lv' := [(3, .int (nI (cn + 0))), (4, .int (nI q)), (2, .int (pgM Al k k)), (0, .ref mo), (1, .int (nI x))]) hx hb dX5_districtsBelow_42 rfl hl (by decide) rfl (fun ls hl => ?_)
          refine lv_iinc (v := nI (q + 1)) (lv' := [(4, .int (nI (q + 1))), (3, .int (nI (cn + 0))), (2, .int (pgM Al k k)), (0, .ref mo), (1, .int (nI x))]) hx hb dX5_districtsBelow_43 hl (k := 1) rfl (by rw [show Int32.ofInt 1 = nI 1 by decide]; exact nI_add _ _) (by decide) rfl (fun ls hl => ?_)
          refine lv_goto (tgt := 10) hx hb dX5_districtsBelow_46 (by decide) ?_
          exact ih10 (cn + 0) (q + 1) (by subst ec; simp only [pwM]; exact (ifn2 zc33).symm) (by first | assumption | omega | rfl) (by omega) _ _ (hP.sub [0, 1] rfl) (hD.sub [0, 1] (by decide) rfl) hS ls (lv_sub hl [0, 1, 2, 3, 4] rfl)
        · refine lv_iconst (v := nI 1) hx hb dX5_districtsBelow_36 (by decide) ?_
          refine lv_goto (tgt := 41) hx hb dX5_districtsBelow_37 (by decide) ?_
          refine rk_iaddN hx hb dX5_districtsBelow_41 ?_
          refine lv_istore_n (lv' := [(3, .int (nI (cn + 1))), (4, .int (nI q)), (2, .int (pgM Al k k)), (0, .ref mo), (1, .int (nI x))]) hx hb dX5_districtsBelow_42 rfl hl (by decide) rfl (fun ls hl => ?_)
          refine lv_iinc (v := nI (q + 1)) (lv' := [(4, .int (nI (q + 1))), (3, .int (nI (cn + 1))), (2, .int (pgM Al k k)), (0, .ref mo), (1, .int (nI x))]) hx hb dX5_districtsBelow_43 hl (k := 1) rfl (by rw [show Int32.ofInt 1 = nI 1 by decide]; exact nI_add _ _) (by decide) rfl (fun ls hl => ?_)
          refine lv_goto (tgt := 10) hx hb dX5_districtsBelow_46 (by decide) ?_
          exact ih10 (cn + 1) (q + 1) (by subst ec; simp only [pwM]; exact (if_pos (And.intro (nI_m6 q (by omega)) zc33)).symm) (by first | assumption | omega | rfl) (by omega) _ _ (hP.sub [0, 1] rfl) (hD.sub [0, 1] (by decide) rfl) hS ls (lv_sub hl [0, 1, 2, 3, 4] rfl)
  exact L10 ((x - 0) + 1) 0 0 (rfl) (by first | assumption | omega | rfl) (Nat.lt_succ_self _) _ _ (hP.sub [0, 1] rfl) (hD.sub [0, 1] (by decide) rfl) hS ls (lv_sub hl [0, 1, 2, 3, 4] rfl)
set_option maxHeartbeats 400000 in
set_option maxRecDepth 100000 in
theorem c_X5_lowest (l : Launch) (E : EE) (sz : Nat) (x : Int32) (t : Nat) (gt : t < 32) (gx : cnt x (nI t) = true) : Ci l yX5_lowest wsX5_lowest 0 0 E [.int x] [] sz (nI (lwF x 0 32)) [] := by
  refine C_of (QQ := QI E (nI (lwF x 0 32)) []) (cc := cX5_lowest) (maxL := 2) (ret := (some .int)) (by decide +kernel) rfl (Nat.le_of_ble_eq_true rfl) ?_
  intro p e s m args below meth c A R Q ls hx hb hr hts hown hml hlocks hA hK hN hP hD hS hl hR hQ
  have hown : s.vm.findClass RX5 = some m.cls := hown
  have hl : lv_has ls 2 [(0, .int x)] := hl
  refine lv_iconst (v := nI 0) hx hb dX5_lowest_0 (by decide) ?_
  refine lv_istore_n (lv' := [(1, .int (nI 0)), (0, .int x)]) hx hb dX5_lowest_1 rfl hl (by decide) rfl (fun ls hl => ?_)
  have L2 : ∀ (fu : Nat) (q : Nat), (he : lwF x 0 32 = lwF x q (32 - q)) → (gq : q ≤ t) → 33 - q < fu → ∀ (H : Heap) (locs : List Loc), va_P E.1 vwCl [] H → va_D A [] → va_S A s.heap H locs → ∀ (ls : Array Slot), lv_has ls 2 [(1, .int (nI q)), (0, .int x)] → W p l e R s m args below meth c H locs 0 0 Q (F0 m 2 ls []) := by
    intro fu
    induction fu with
    | zero => intro q he gq hfu; exact absurd hfu (Nat.not_lt_zero _)
    | succ fu ih2 =>
      intro q he gq hfu H locs hP hD hS ls hl
      refine lv_iload_n hx hb dX5_lowest_2 rfl (lv_at hl 1 rfl) ?_
      refine lv_iload_n hx hb dX5_lowest_3 rfl (lv_at hl 0 rfl) ?_
      refine lv_ishr hx hb dX5_lowest_4 ?_
      refine lv_iconst (v := nI 1) hx hb dX5_lowest_5 (by decide) ?_
      refine lv_iand hx hb dX5_lowest_6 ?_
      refine lv_if_ne (tgt := 16) hx hb dX5_lowest_7 (by decide) (fun zc7 => ?_) (fun zc7 => ?_)
      · refine lv_iload_n hx hb dX5_lowest_16 rfl (lv_at hl 0 rfl) ?_
        exact ret_i hQ hx hb hr hlocks (hP.sub [] rfl) (hD.sub [] (by decide) rfl) hS dX5_lowest_17 (by rw [he, lwF_h (by omega) (cnt_t zc7)])
      · refine lv_iinc (v := nI (q + 1)) (lv' := [(1, .int (nI (q + 1))), (0, .int x)]) hx hb dX5_lowest_10 hl (k := 0) rfl (by rw [show Int32.ofInt 1 = nI 1 by decide]; exact nI_add _ _) (by decide) rfl (fun ls hl => ?_)
        refine lv_goto (tgt := 2) hx hb dX5_lowest_13 (by decide) ?_
        exact ih2 (q + 1) (by rw [he]; exact lwF_s (by omega) (cnt_f zc7)) (by rcases Nat.lt_or_eq_of_le gq with h | h; exact h; subst h; exact absurd gx (by rw [cnt_f zc7]; decide)) (by omega) _ _ (hP.sub [] rfl) (hD.sub [] (by decide) rfl) hS ls (lv_sub hl [0, 1] rfl)
  exact L2 ((33 - 0) + 1) 0 (rfl) (by first | assumption | omega | rfl) (Nat.lt_succ_self _) _ _ (hP.sub [] rfl) (hD.sub [] (by decide) rfl) hS ls (lv_sub hl [0, 1] rfl)
set_option maxHeartbeats 400000 in
set_option maxRecDepth 100000 in
theorem c_X5_numberOf (l : Launch) (E : EE) (sz : Nat) (mo mA mK mH mS mV mF mP mR : Nat) (hy pl sp nu rm : Int32) (n k : Nat) (Al : Nat → Int32) (x : Nat) (gA1 : Al 1 = nI k) (gk : k ≤ 30) (gok : okA Al k) (gq : x < 16) : Ci l yX5_numberOf wsX5_numberOf 5 116 E [.ref mo, .int (nI x)] [(mo, .inr (5, [.ref mA, .ref mK, .ref mH, .int hy, .ref mS, .ref mV, .ref mF, .ref mP, .int pl, .int sp, .int nu, .ref mR, .int rm])), (mA, aI E 92 Al)] sz (nI (dbM Al k (lwF ((rsM Al (pgM Al k k) (-6) k) x) 0 32))) [(mo, .inr (5, [.ref mA, .ref mK, .ref mH, .int hy, .ref mS, .ref mV, .ref mF, .ref mP, .int pl, .int sp, .int nu, .ref mR, .int rm])), (mA, aI E 92 Al)] := by
  refine C_of (QQ := QI E (nI (dbM Al k (lwF ((rsM Al (pgM Al k k) (-6) k) x) 0 32))) [(mo, .inr (5, [.ref mA, .ref mK, .ref mH, .int hy, .ref mS, .ref mV, .ref mF, .ref mP, .int pl, .int sp, .int nu, .ref mR, .int rm])), (mA, aI E 92 Al)]) (cc := cX5_numberOf) (maxL := 2) (ret := (some .int)) (by decide +kernel) rfl (Nat.le_of_ble_eq_true rfl) ?_
  intro p e s m args below meth c A R Q ls hx hb hr hts hown hml hlocks hA hK hN hP hD hS hl hR hQ
  have hown : s.vm.findClass RX5 = some m.cls := hown
  have hl : lv_has ls 2 [(0, .ref mo), (1, .int (nI x))] := hl
  refine lv_aload_n hx hb dX5_numberOf_0 rfl (lv_at hl 0 rfl) ?_
  refine lv_aload_n hx hb dX5_numberOf_1 rfl (lv_at hl 0 rfl) ?_
  refine lv_iload_n hx hb dX5_numberOf_2 rfl (lv_at hl 1 rfl) ?_
  refine kV_i (E := E) (As := [.int (nI x)]) (rest := [.ref mo]) (wr := []) ⟨hx, hb, hml, hown, hts⟩ (c_X5_districtOf (l := l) (E := E) (sz := _) (mo := mo) (mA := mA) (mK := mK) (mH := mH) (mS := mS) (mV := mV) (mF := mF) (mP := mP) (mR := mR) (hy := hy) (pl := pl) (sp := sp) (nu := nu) (rm := rm) (n := n) (k := k) (Al := Al) (x := x) (gA1 := by first | assumption | omega) (gk := by first | assumption | omega) (gok := by first | assumption | omega) (gq := by first | assumption | omega)) (cwV 1 hts gX5_numberOf_X5_districtOf rfl rfl rfl (by decide +kernel) ⟨by rw [hR]; decide, by rw [hR]; decide⟩) hK hN hP hD hS hA [0, 1] [] rfl (by decide) rfl (by decide) (by decide) 0 5 rfl rfl rfl hl.1 rfl (Nat.le_of_ble_eq_true rfl) dX5_numberOf_3 ⟨Nat.zero_le _, Nat.zero_le _⟩ (fun H locs hP hD hS => ?_)
  have hP : va_P E.1 vwCl [(mo, .inr (5, [.ref mA, .ref mK, .ref mH, .int hy, .ref mS, .ref mV, .ref mF, .ref mP, .int pl, .int sp, .int nu, .ref mR, .int rm])), (mA, aI E 92 Al)] H := hP
  have hD : va_D A [(mo, .inr (5, [.ref mA, .ref mK, .ref mH, .int hy, .ref mS, .ref mV, .ref mF, .ref mP, .int pl, .int sp, .int nu, .ref mR, .int rm])), (mA, aI E 92 Al)] := hD
  refine kS_i (E := E) (As := [.int (rsM Al (pgM Al k k) (-6) k x)]) (rest := [.ref mo]) (wr := [(mo, .inr (5, [.ref mA, .ref mK, .ref mH, .int hy, .ref mS, .ref mV, .ref mF, .ref mP, .int pl, .int sp, .int nu, .ref mR, .int rm])), (mA, aI E 92 Al)]) ⟨hx, hb, hml, hown, hts⟩ (c_X5_lowest (l := l) (E := E) (sz := _) (x := rsM Al (pgM Al k k) (-6) k x) (t := x) (gt := by omega) (gx := rsM_self gq)) (cwS 1 hts gX5_numberOf_X5_lowest rfl rfl rfl (by decide +kernel) ⟨by rw [hR]; decide, by rw [hR]; decide⟩) hK hN hP hD hS hA [] [0, 1] rfl (by decide) rfl (by decide) (by decide) rfl hl.1 rfl (Nat.le_of_ble_eq_true rfl) dX5_numberOf_6 ⟨Nat.zero_le _, Nat.zero_le _⟩ (fun H locs hP hD hS => ?_)
  have hP : va_P E.1 vwCl [(mo, .inr (5, [.ref mA, .ref mK, .ref mH, .int hy, .ref mS, .ref mV, .ref mF, .ref mP, .int pl, .int sp, .int nu, .ref mR, .int rm])), (mA, aI E 92 Al)] H := hP
  have hD : va_D A [(mo, .inr (5, [.ref mA, .ref mK, .ref mH, .int hy, .ref mS, .ref mV, .ref mF, .ref mP, .int pl, .int sp, .int nu, .ref mR, .int rm])), (mA, aI E 92 Al)] := hD
  refine kV_i (E := E) (As := [.int (nI (lwF (rsM Al (pgM Al k k) (-6) k x) 0 32))]) (rest := []) (wr := []) ⟨hx, hb, hml, hown, hts⟩ (c_X5_districtsBelow (l := l) (E := E) (sz := _) (mo := mo) (mA := mA) (mK := mK) (mH := mH) (mS := mS) (mV := mV) (mF := mF) (mP := mP) (mR := mR) (hy := hy) (pl := pl) (sp := sp) (nu := nu) (rm := rm) (n := n) (k := k) (Al := Al) (x := lwF (rsM Al (pgM Al k k) (-6) k x) 0 32) (gA1 := by first | assumption | omega) (gk := by first | assumption | omega) (gok := by first | assumption | omega) (gx := Nat.le_trans (lwF_le (t := x) (rsM_self gq) 32 0 (by omega) (by omega)) (by omega))) (cwV 1 hts gX5_numberOf_X5_districtsBelow rfl rfl rfl (by decide +kernel) ⟨by rw [hR]; decide, by rw [hR]; decide⟩) hK hN hP hD hS hA [0, 1] [] rfl (by decide) rfl (by decide) (by decide) 0 5 rfl rfl rfl hl.1 rfl (Nat.le_of_ble_eq_true rfl) dX5_numberOf_9 ⟨Nat.zero_le _, Nat.zero_le _⟩ (fun H locs hP hD hS => ?_)
  have hP : va_P E.1 vwCl [(mo, .inr (5, [.ref mA, .ref mK, .ref mH, .int hy, .ref mS, .ref mV, .ref mF, .ref mP, .int pl, .int sp, .int nu, .ref mR, .int rm])), (mA, aI E 92 Al)] H := hP
  have hD : va_D A [(mo, .inr (5, [.ref mA, .ref mK, .ref mH, .int hy, .ref mS, .ref mV, .ref mF, .ref mP, .int pl, .int sp, .int nu, .ref mR, .int rm])), (mA, aI E 92 Al)] := hD
  exact ret_i hQ hx hb hr hlocks (hP.sub [0, 1] rfl) (hD.sub [0, 1] (by decide) rfl) hS dX5_numberOf_12 (rfl)
theorem iw_X5_districts_5 : ∀ w ∈ u_ws RX5 TX5 13, w ∈ wsX5_districts := by decide +kernel
theorem fl_X5_districts_7 : Cond.fieldLink RX5 7 (TX5 0).1 (TX5 0).2.1 (TX5 0).2.2.1 ∈ wsX5_districts := by decide +kernel
set_option maxHeartbeats 400000 in
set_option maxRecDepth 100000 in
theorem c_X5_districts (l : Launch) (E : EE) (sz : Nat) (mo mA mK mH mS mV mF mP mR : Nat) (hy pl sp nu rm : Int32) (n k : Nat) (Al : Nat → Int32)  (gA0 : Al 0 = nI n) (gn : n ≤ 16) (gA1 : Al 1 = nI k) (gk : k ≤ 30) (gok : okA Al k) : Ci l yX5_districts wsX5_districts 5 116 E [.ref mo] [(mo, .inr (5, [.ref mA, .ref mK, .ref mH, .int hy, .ref mS, .ref mV, .ref mF, .ref mP, .int pl, .int sp, .int nu, .ref mR, .int rm])), (mA, aI E 92 Al)] sz (nI (dbM Al k n)) [(mo, .inr (5, [.ref mA, .ref mK, .ref mH, .int hy, .ref mS, .ref mV, .ref mF, .ref mP, .int pl, .int sp, .int nu, .ref mR, .int rm])), (mA, aI E 92 Al)] := by
  refine C_of (QQ := QI E (nI (dbM Al k n)) [(mo, .inr (5, [.ref mA, .ref mK, .ref mH, .int hy, .ref mS, .ref mV, .ref mF, .ref mP, .int pl, .int sp, .int nu, .ref mR, .int rm])), (mA, aI E 92 Al)]) (cc := cX5_districts) (maxL := 1) (ret := (some .int)) (by decide +kernel) rfl (Nat.le_of_ble_eq_true rfl) ?_
  intro p e s m args below meth c A R Q ls hx hb hr hts hown hml hlocks hA hK hN hP hD hS hl hR hQ
  have hown : s.vm.findClass RX5 = some m.cls := hown
  have hl : lv_has ls 1 [(0, .ref mo)] := hl
  refine lv_aload_n hx hb dX5_districts_0 rfl (lv_at hl 0 rfl) ?_
  refine lv_aload_n hx hb dX5_districts_1 rfl (lv_at hl 0 rfl) ?_
  refine rk_get (ci := 5) (C := RX5) (T := TX5) (N := 13) hx hb hts iw_X5_districts_5 hown hK hP 0 rfl rfl 0 (by decide) fl_X5_districts_7 rfl (v := .ref mA) rfl dX5_districts_2 ?_
  refine lv_iconst (v := nI 0) hx hb dX5_districts_5 (by decide) ?_
  refine rk_iald hx hb hK hP 1 rfl (by omega) (by omega) (v := nI n) (by exact gA0) dX5_districts_6 ?_
  refine kV_i (E := E) (As := [.int (nI n)]) (rest := []) (wr := []) ⟨hx, hb, hml, hown, hts⟩ (c_X5_districtsBelow (l := l) (E := E) (sz := _) (mo := mo) (mA := mA) (mK := mK) (mH := mH) (mS := mS) (mV := mV) (mF := mF) (mP := mP) (mR := mR) (hy := hy) (pl := pl) (sp := sp) (nu := nu) (rm := rm) (n := n) (k := k) (Al := Al) (x := n) (gA1 := by first | assumption | omega) (gk := by first | assumption | omega) (gok := by first | assumption | omega) (gx := by first | assumption | omega)) (cwV 1 hts gX5_districts_X5_districtsBelow rfl rfl rfl (by decide +kernel) ⟨by rw [hR]; decide, by rw [hR]; decide⟩) hK hN hP hD hS hA [0, 1] [] rfl (by decide) rfl (by decide) (by decide) 0 5 rfl rfl rfl hl.1 rfl (Nat.le_of_ble_eq_true rfl) dX5_districts_7 ⟨Nat.zero_le _, Nat.zero_le _⟩ (fun H locs hP hD hS => ?_)
  have hP : va_P E.1 vwCl [(mo, .inr (5, [.ref mA, .ref mK, .ref mH, .int hy, .ref mS, .ref mV, .ref mF, .ref mP, .int pl, .int sp, .int nu, .ref mR, .int rm])), (mA, aI E 92 Al)] H := hP
  have hD : va_D A [(mo, .inr (5, [.ref mA, .ref mK, .ref mH, .int hy, .ref mS, .ref mV, .ref mF, .ref mP, .int pl, .int sp, .int nu, .ref mR, .int rm])), (mA, aI E 92 Al)] := hD
  exact ret_i hQ hx hb hr hlocks (hP.sub [0, 1] rfl) (hD.sub [0, 1] (by decide) rfl) hS dX5_districts_10 (rfl)
theorem iw_X5_squaresOf_5 : ∀ w ∈ u_ws RX5 TX5 13, w ∈ wsX5_squaresOf := by decide +kernel
theorem fl_X5_squaresOf_7 : Cond.fieldLink RX5 7 (TX5 0).1 (TX5 0).2.1 (TX5 0).2.2.1 ∈ wsX5_squaresOf := by decide +kernel
set_option maxHeartbeats 400000 in
set_option maxRecDepth 100000 in
theorem c_X5_squaresOf (l : Launch) (E : EE) (sz : Nat) (mo mA mK mH mS mV mF mP mR : Nat) (hy pl sp nu rm : Int32) (n k : Nat) (Al : Nat → Int32) (d : Nat) (gA0 : Al 0 = nI n) (gn : n ≤ 16) (gA1 : Al 1 = nI k) (gk : k ≤ 30) (gok : okA Al k) (gd : d ≤ 16) : Ci l yX5_squaresOf wsX5_squaresOf 4 92 E [.ref mo, .int (nI d)] [(mo, .inr (5, [.ref mA, .ref mK, .ref mH, .int hy, .ref mS, .ref mV, .ref mF, .ref mP, .int pl, .int sp, .int nu, .ref mR, .int rm])), (mA, aI E 92 Al)] sz (sqM Al k n d) [(mo, .inr (5, [.ref mA, .ref mK, .ref mH, .int hy, .ref mS, .ref mV, .ref mF, .ref mP, .int pl, .int sp, .int nu, .ref mR, .int rm])), (mA, aI E 92 Al)] := by
  refine C_of (QQ := QI E (sqM Al k n d) [(mo, .inr (5, [.ref mA, .ref mK, .ref mH, .int hy, .ref mS, .ref mV, .ref mF, .ref mP, .int pl, .int sp, .int nu, .ref mR, .int rm])), (mA, aI E 92 Al)]) (cc := cX5_squaresOf) (maxL := 6) (ret := (some .int)) (by decide +kernel) rfl (Nat.le_of_ble_eq_true rfl) ?_
  intro p e s m args below meth c A R Q ls hx hb hr hts hown hml hlocks hA hK hN hP hD hS hl hR hQ
  have hown : s.vm.findClass RX5 = some m.cls := hown
  have hl : lv_has ls 6 [(0, .ref mo), (1, .int (nI d))] := hl
  refine lv_aload_n hx hb dX5_squaresOf_0 rfl (lv_at hl 0 rfl) ?_
  refine kV_i (E := E) (As := []) (rest := []) (wr := []) ⟨hx, hb, hml, hown, hts⟩ (c_X5_parting (l := l) (E := E) (sz := _) (mo := mo) (mA := mA) (mK := mK) (mH := mH) (mS := mS) (mV := mV) (mF := mF) (mP := mP) (mR := mR) (hy := hy) (pl := pl) (sp := sp) (nu := nu) (rm := rm) (n := n) (k := k) (Al := Al) (gA1 := by first | assumption | omega) (gk := by first | assumption | omega) (gok := by first | assumption | omega)) (cwV 0 hts gX5_squaresOf_X5_parting rfl rfl rfl (by decide +kernel) ⟨by rw [hR]; decide, by rw [hR]; decide⟩) hK hN hP hD hS hA [0, 1] [] rfl (by decide) rfl (by decide) (by decide) 0 5 rfl rfl rfl hl.1 rfl (Nat.le_of_ble_eq_true rfl) dX5_squaresOf_1 ⟨Nat.zero_le _, Nat.zero_le _⟩ (fun H locs hP hD hS => ?_)
  have hP : va_P E.1 vwCl [(mo, .inr (5, [.ref mA, .ref mK, .ref mH, .int hy, .ref mS, .ref mV, .ref mF, .ref mP, .int pl, .int sp, .int nu, .ref mR, .int rm])), (mA, aI E 92 Al)] H := hP
  have hD : va_D A [(mo, .inr (5, [.ref mA, .ref mK, .ref mH, .int hy, .ref mS, .ref mV, .ref mF, .ref mP, .int pl, .int sp, .int nu, .ref mR, .int rm])), (mA, aI E 92 Al)] := hD
  refine lv_istore_n (lv' := [(2, .int (pgM Al k k)), (0, .ref mo), (1, .int (nI d))]) hx hb dX5_squaresOf_4 rfl hl (by decide) rfl (fun ls hl => ?_)
  refine lv_iconst (v := nI 0) hx hb dX5_squaresOf_5 (by decide) ?_
  refine lv_istore_n (lv' := [(3, .int (nI 0)), (2, .int (pgM Al k k)), (0, .ref mo), (1, .int (nI d))]) hx hb dX5_squaresOf_6 rfl hl (by decide) rfl (fun ls hl => ?_)
  refine lv_iconst (v := nI 0) hx hb dX5_squaresOf_7 (by decide) ?_
  refine lv_istore (lv' := [(4, .int (nI 0)), (3, .int (nI 0)), (2, .int (pgM Al k k)), (0, .ref mo), (1, .int (nI d))]) hx hb dX5_squaresOf_8 hl (by decide) rfl (fun ls hl => ?_)
  have L10 : ∀ (fu : Nat) (cn q : Nat), (he : sqF (rsM Al (pgM Al k k) (-6) k) d 0 0 n = sqF (rsM Al (pgM Al k k) (-6) k) d q cn (n - q)) → (gq9 : q ≤ n) → (gc9 : cn ≤ q) → n - q < fu → ∀ (H : Heap) (locs : List Loc), va_P E.1 vwCl [(mo, .inr (5, [.ref mA, .ref mK, .ref mH, .int hy, .ref mS, .ref mV, .ref mF, .ref mP, .int pl, .int sp, .int nu, .ref mR, .int rm])), (mA, aI E 92 Al)] H → va_D A [(mo, .inr (5, [.ref mA, .ref mK, .ref mH, .int hy, .ref mS, .ref mV, .ref mF, .ref mP, .int pl, .int sp, .int nu, .ref mR, .int rm])), (mA, aI E 92 Al)] → va_S A s.heap H locs → ∀ (ls : Array Slot), lv_has ls 6 [(4, .int (nI q)), (3, .int (nI cn)), (2, .int (pgM Al k k)), (0, .ref mo), (1, .int (nI d))] → W p l e R s m args below meth c H locs 0 0 Q (F0 m 10 ls []) := by
    intro fu
    induction fu with
    | zero => intro cn q he gq9 gc9 hfu; exact absurd hfu (Nat.not_lt_zero _)
    | succ fu ih10 =>
      intro cn q he gq9 gc9 hfu H locs hP hD hS ls hl
      refine lv_iload hx hb dX5_squaresOf_10 (lv_at hl 0 rfl) ?_
      refine lv_aload_n hx hb dX5_squaresOf_12 rfl (lv_at hl 3 rfl) ?_
      refine rk_get (ci := 5) (C := RX5) (T := TX5) (N := 13) hx hb hts iw_X5_squaresOf_5 hown hK hP 0 rfl rfl 0 (by decide) fl_X5_squaresOf_7 rfl (v := .ref mA) rfl dX5_squaresOf_13 ?_
      refine lv_iconst (v := nI 0) hx hb dX5_squaresOf_16 (by decide) ?_
      refine rk_iald hx hb hK hP 1 rfl (by omega) (by omega) (v := nI n) (by exact gA0) dX5_squaresOf_17 ?_
      refine rk_geN (tgt := 61) hx hb (by omega) (by omega) dX5_squaresOf_18 (by decide) (fun zc18 => ?_) (fun zc18 => ?_)
      · refine lv_iconst (v := nI 0) hx hb dX5_squaresOf_61 (by decide) ?_
        exact ret_i hQ hx hb hr hlocks (hP.sub [0, 1] rfl) (hD.sub [0, 1] (by decide) rfl) hS dX5_squaresOf_62 (by show _ = sqF (rsM Al (pgM Al k k) (-6) k) d 0 0 n; rw [he]; exact sqF_e (by omega))
      · refine lv_aload_n hx hb dX5_squaresOf_21 rfl (lv_at hl 3 rfl) ?_
        refine lv_iload hx hb dX5_squaresOf_22 (lv_at hl 0 rfl) ?_
        refine lv_iload_n hx hb dX5_squaresOf_24 rfl (lv_at hl 2 rfl) ?_
        refine lv_bipush (v := (-6)) hx hb dX5_squaresOf_25 (by decide) ?_
        refine kV_i (E := E) (As := [.int (nI q), .int (pgM Al k k), .int ((-6))]) (rest := []) (wr := []) ⟨hx, hb, hml, hown, hts⟩ (c_X5_reach (l := l) (E := E) (sz := _) (mo := mo) (mA := mA) (mK := mK) (mH := mH) (mS := mS) (mV := mV) (mF := mF) (mP := mP) (mR := mR) (hy := hy) (pl := pl) (sp := sp) (nu := nu) (rm := rm) (n := n) (k := k) (Al := Al) (q := q) (w := pgM Al k k) (z := (-6)) (gA1 := by first | assumption | omega) (gk := by first | assumption | omega) (gok := by first | assumption | omega) (gq := by first | assumption | omega)) (cwV 3 hts gX5_squaresOf_X5_reach rfl rfl rfl (by decide +kernel) ⟨by rw [hR]; decide, by rw [hR]; decide⟩) hK hN hP hD hS hA [0, 1] [] rfl (by decide) rfl (by decide) (by decide) 0 5 rfl rfl rfl hl.1 rfl (Nat.le_of_ble_eq_true rfl) dX5_squaresOf_27 ⟨Nat.zero_le _, Nat.zero_le _⟩ (fun H locs hP hD hS => ?_)
        have hP : va_P E.1 vwCl [(mo, .inr (5, [.ref mA, .ref mK, .ref mH, .int hy, .ref mS, .ref mV, .ref mF, .ref mP, .int pl, .int sp, .int nu, .ref mR, .int rm])), (mA, aI E 92 Al)] H := hP
        have hD : va_D A [(mo, .inr (5, [.ref mA, .ref mK, .ref mH, .int hy, .ref mS, .ref mV, .ref mF, .ref mP, .int pl, .int sp, .int nu, .ref mR, .int rm])), (mA, aI E 92 Al)] := hD
        refine lv_istore (lv' := [(5, .int (rsM Al (pgM Al k k) ((-6)) k q)), (4, .int (nI q)), (3, .int (nI cn)), (2, .int (pgM Al k k)), (0, .ref mo), (1, .int (nI d))]) hx hb dX5_squaresOf_30 hl (by decide) rfl (fun ls hl => ?_)
        refine lv_iload hx hb dX5_squaresOf_32 (lv_at hl 0 rfl) ?_
        refine lv_iconst (v := nI 1) hx hb dX5_squaresOf_34 (by decide) ?_
        refine lv_iload hx hb dX5_squaresOf_35 (lv_at hl 1 rfl) ?_
        refine lv_ishl hx hb dX5_squaresOf_37 ?_
        refine lv_iconst (v := nI 1) hx hb dX5_squaresOf_38 (by decide) ?_
        refine lv_isub hx hb dX5_squaresOf_39 ?_
        refine lv_iand hx hb dX5_squaresOf_40 ?_
        refine lv_if_ne (tgt := 55) hx hb dX5_squaresOf_41 (by decide) (fun zc41 => ?_) (fun zc41 => ?_)
        · refine lv_iinc (v := nI (q + 1)) (lv' := [(4, .int (nI (q + 1))), (5, .int (rsM Al (pgM Al k k) ((-6)) k q)), (3, .int (nI cn)), (2, .int (pgM Al k k)), (0, .ref mo), (1, .int (nI d))]) hx hb dX5_squaresOf_55 hl (k := 1) rfl (by rw [show Int32.ofInt 1 = nI 1 by decide]; exact nI_add _ _) (by decide) rfl (fun ls hl => ?_)
          refine lv_goto (tgt := 10) hx hb dX5_squaresOf_58 (by decide) ?_
          exact ih10 cn (q + 1) (by rw [he]; exact sqF_s2 (by omega) zc41) (by first | assumption | omega | rfl) (by first | assumption | omega | rfl) (by omega) _ _ (hP.sub [0, 1] rfl) (hD.sub [0, 1] (by decide) rfl) hS ls (lv_sub hl [0, 2, 3, 4, 5] rfl)
        · refine lv_iload_n hx hb dX5_squaresOf_44 rfl (lv_at hl 2 rfl) ?_
          refine lv_iload_n hx hb dX5_squaresOf_45 rfl (lv_at hl 5 rfl) ?_
          refine rk_neN (tgt := 52) hx hb (by omega) (by omega) dX5_squaresOf_46 (by decide) (fun zc46 => ?_) (fun zc46 => ?_)
          · refine lv_iinc (v := nI (cn + 1)) (lv' := [(3, .int (nI (cn + 1))), (5, .int (rsM Al (pgM Al k k) ((-6)) k q)), (4, .int (nI q)), (2, .int (pgM Al k k)), (0, .ref mo), (1, .int (nI d))]) hx hb dX5_squaresOf_52 hl (k := 2) rfl (by rw [show Int32.ofInt 1 = nI 1 by decide]; exact nI_add _ _) (by decide) rfl (fun ls hl => ?_)
            refine lv_iinc (v := nI (q + 1)) (lv' := [(4, .int (nI (q + 1))), (3, .int (nI (cn + 1))), (5, .int (rsM Al (pgM Al k k) ((-6)) k q)), (2, .int (pgM Al k k)), (0, .ref mo), (1, .int (nI d))]) hx hb dX5_squaresOf_55 hl (k := 2) rfl (by rw [show Int32.ofInt 1 = nI 1 by decide]; exact nI_add _ _) (by decide) rfl (fun ls hl => ?_)
            refine lv_goto (tgt := 10) hx hb dX5_squaresOf_58 (by decide) ?_
            exact ih10 (cn + 1) (q + 1) (by rw [he]; exact sqF_s1 (by omega) zc41 zc46) (by first | assumption | omega | rfl) (by first | assumption | omega | rfl) (by omega) _ _ (hP.sub [0, 1] rfl) (hD.sub [0, 1] (by decide) rfl) hS ls (lv_sub hl [0, 1, 3, 4, 5] rfl)
          · refine lv_iload hx hb dX5_squaresOf_49 (lv_at hl 0 rfl) ?_
            exact ret_i hQ hx hb hr hlocks (hP.sub [0, 1] rfl) (hD.sub [0, 1] (by decide) rfl) hS dX5_squaresOf_51 (by show _ = sqF (rsM Al (pgM Al k k) (-6) k) d 0 0 n; rw [he]; exact sqF_hit (by omega) zc41 zc46)
  exact L10 ((n - 0) + 1) 0 0 (rfl) (by first | assumption | omega | rfl) (by first | assumption | omega | rfl) (Nat.lt_succ_self _) _ _ (hP.sub [0, 1] rfl) (hD.sub [0, 1] (by decide) rfl) hS ls (lv_sub hl [0, 1, 2, 3, 4] rfl)
theorem iw_X5_roadsWithin_5 : ∀ w ∈ u_ws RX5 TX5 13, w ∈ wsX5_roadsWithin := by decide +kernel
theorem fl_X5_roadsWithin_7 : Cond.fieldLink RX5 7 (TX5 0).1 (TX5 0).2.1 (TX5 0).2.2.1 ∈ wsX5_roadsWithin := by decide +kernel
set_option maxHeartbeats 400000 in
set_option maxRecDepth 100000 in
theorem c_X5_roadsWithin (l : Launch) (E : EE) (sz : Nat) (mo mA mK mH mS mV mF mP mR : Nat) (hy pl sp nu rm : Int32) (n k : Nat) (Al : Nat → Int32) (x : Int32) (gA1 : Al 1 = nI k) (gk : k ≤ 30) (gok : okA Al k) : Ci l yX5_roadsWithin wsX5_roadsWithin 1 21 E [.ref mo, .int x] [(mo, .inr (5, [.ref mA, .ref mK, .ref mH, .int hy, .ref mS, .ref mV, .ref mF, .ref mP, .int pl, .int sp, .int nu, .ref mR, .int rm])), (mA, aI E 92 Al)] sz (nI (rwM Al x k)) [(mo, .inr (5, [.ref mA, .ref mK, .ref mH, .int hy, .ref mS, .ref mV, .ref mF, .ref mP, .int pl, .int sp, .int nu, .ref mR, .int rm])), (mA, aI E 92 Al)] := by
  refine C_of (QQ := QI E (nI (rwM Al x k)) [(mo, .inr (5, [.ref mA, .ref mK, .ref mH, .int hy, .ref mS, .ref mV, .ref mF, .ref mP, .int pl, .int sp, .int nu, .ref mR, .int rm])), (mA, aI E 92 Al)]) (cc := cX5_roadsWithin) (maxL := 4) (ret := (some .int)) (by decide +kernel) rfl (Nat.le_of_ble_eq_true rfl) ?_
  intro p e s m args below meth c A R Q ls hx hb hr hts hown hml hlocks hA hK hN hP hD hS hl hR hQ
  have hown : s.vm.findClass RX5 = some m.cls := hown
  have hl : lv_has ls 4 [(0, .ref mo), (1, .int x)] := hl
  refine lv_iconst (v := nI 0) hx hb dX5_roadsWithin_0 (by decide) ?_
  refine lv_istore_n (lv' := [(2, .int (nI 0)), (0, .ref mo), (1, .int x)]) hx hb dX5_roadsWithin_1 rfl hl (by decide) rfl (fun ls hl => ?_)
  refine lv_iconst (v := nI 0) hx hb dX5_roadsWithin_2 (by decide) ?_
  refine lv_istore_n (lv' := [(3, .int (nI 0)), (2, .int (nI 0)), (0, .ref mo), (1, .int x)]) hx hb dX5_roadsWithin_3 rfl hl (by decide) rfl (fun ls hl => ?_)
  have L4 : ∀ (fu : Nat) (cn i : Nat), (ec : cn = rwM Al x i) → (gi : i ≤ k) → k - i < fu → ∀ (H : Heap) (locs : List Loc), va_P E.1 vwCl [(mo, .inr (5, [.ref mA, .ref mK, .ref mH, .int hy, .ref mS, .ref mV, .ref mF, .ref mP, .int pl, .int sp, .int nu, .ref mR, .int rm])), (mA, aI E 92 Al)] H → va_D A [(mo, .inr (5, [.ref mA, .ref mK, .ref mH, .int hy, .ref mS, .ref mV, .ref mF, .ref mP, .int pl, .int sp, .int nu, .ref mR, .int rm])), (mA, aI E 92 Al)] → va_S A s.heap H locs → ∀ (ls : Array Slot), lv_has ls 4 [(3, .int (nI i)), (2, .int (nI cn)), (0, .ref mo), (1, .int x)] → W p l e R s m args below meth c H locs 0 0 Q (F0 m 4 ls []) := by
    intro fu
    induction fu with
    | zero => intro cn i ec gi hfu; exact absurd hfu (Nat.not_lt_zero _)
    | succ fu ih4 =>
      intro cn i ec gi hfu H locs hP hD hS ls hl
      refine lv_iload_n hx hb dX5_roadsWithin_4 rfl (lv_at hl 0 rfl) ?_
      refine lv_aload_n hx hb dX5_roadsWithin_5 rfl (lv_at hl 2 rfl) ?_
      refine rk_get (ci := 5) (C := RX5) (T := TX5) (N := 13) hx hb hts iw_X5_roadsWithin_5 hown hK hP 0 rfl rfl 0 (by decide) fl_X5_roadsWithin_7 rfl (v := .ref mA) rfl dX5_roadsWithin_6 ?_
      refine lv_iconst (v := nI 1) hx hb dX5_roadsWithin_9 (by decide) ?_
      refine rk_iald hx hb hK hP 1 rfl (by omega) (by omega) (v := nI k) (by exact gA1) dX5_roadsWithin_10 ?_
      refine rk_geN (tgt := 43) hx hb (by omega) (by omega) dX5_roadsWithin_11 (by decide) (fun zc11 => ?_) (fun zc11 => ?_)
      · refine lv_iload_n hx hb dX5_roadsWithin_43 rfl (lv_at hl 1 rfl) ?_
        exact ret_i hQ hx hb hr hlocks (hP.sub [0, 1] rfl) (hD.sub [0, 1] (by decide) rfl) hS dX5_roadsWithin_44 (by obtain rfl : k = i := (by omega); rw [ec])
      · refine lv_iload_n hx hb dX5_roadsWithin_14 rfl (lv_at hl 1 rfl) ?_
        refine lv_aload_n hx hb dX5_roadsWithin_15 rfl (lv_at hl 2 rfl) ?_
        refine lv_iload_n hx hb dX5_roadsWithin_16 rfl (lv_at hl 0 rfl) ?_
        refine kV_i (E := E) (As := [.int (nI i)]) (rest := [.int (nI cn)]) (wr := []) ⟨hx, hb, hml, hown, hts⟩ (c_X5_ends (l := l) (E := E) (sz := _) (mo := mo) (mA := mA) (mK := mK) (mH := mH) (mS := mS) (mV := mV) (mF := mF) (mP := mP) (mR := mR) (hy := hy) (pl := pl) (sp := sp) (nu := nu) (rm := rm) (n := n) (k := k) (Al := Al) (r := i) (gA1 := by first | assumption | omega) (gk := by first | assumption | omega) (gok := by first | assumption | omega) (gr := by first | assumption | omega)) (cwV 1 hts gX5_roadsWithin_X5_ends rfl rfl rfl (by decide +kernel) ⟨by rw [hR]; decide, by rw [hR]; decide⟩) hK hN hP hD hS hA [0, 1] [] rfl (by decide) rfl (by decide) (by decide) 0 5 rfl rfl rfl hl.1 rfl (Nat.le_of_ble_eq_true rfl) dX5_roadsWithin_17 ⟨Nat.zero_le _, Nat.zero_le _⟩ (fun H locs hP hD hS => ?_)
        have hP : va_P E.1 vwCl [(mo, .inr (5, [.ref mA, .ref mK, .ref mH, .int hy, .ref mS, .ref mV, .ref mF, .ref mP, .int pl, .int sp, .int nu, .ref mR, .int rm])), (mA, aI E 92 Al)] H := hP
        have hD : va_D A [(mo, .inr (5, [.ref mA, .ref mK, .ref mH, .int hy, .ref mS, .ref mV, .ref mF, .ref mP, .int pl, .int sp, .int nu, .ref mR, .int rm])), (mA, aI E 92 Al)] := hD
        refine lv_iload_n hx hb dX5_roadsWithin_20 rfl (lv_at hl 3 rfl) ?_
        refine lv_iand hx hb dX5_roadsWithin_21 ?_
        refine lv_aload_n hx hb dX5_roadsWithin_22 rfl (lv_at hl 2 rfl) ?_
        refine lv_iload_n hx hb dX5_roadsWithin_23 rfl (lv_at hl 0 rfl) ?_
        refine kV_i (E := E) (As := [.int (nI i)]) (rest := [.int ((enM Al i) &&& x), .int (nI cn)]) (wr := []) ⟨hx, hb, hml, hown, hts⟩ (c_X5_ends (l := l) (E := E) (sz := _) (mo := mo) (mA := mA) (mK := mK) (mH := mH) (mS := mS) (mV := mV) (mF := mF) (mP := mP) (mR := mR) (hy := hy) (pl := pl) (sp := sp) (nu := nu) (rm := rm) (n := n) (k := k) (Al := Al) (r := i) (gA1 := by first | assumption | omega) (gk := by first | assumption | omega) (gok := by first | assumption | omega) (gr := by first | assumption | omega)) (cwV 1 hts gX5_roadsWithin_X5_ends rfl rfl rfl (by decide +kernel) ⟨by rw [hR]; decide, by rw [hR]; decide⟩) hK hN hP hD hS hA [0, 1] [] rfl (by decide) rfl (by decide) (by decide) 0 5 rfl rfl rfl hl.1 rfl (Nat.le_of_ble_eq_true rfl) dX5_roadsWithin_24 ⟨Nat.zero_le _, Nat.zero_le _⟩ (fun H locs hP hD hS => ?_)
        have hP : va_P E.1 vwCl [(mo, .inr (5, [.ref mA, .ref mK, .ref mH, .int hy, .ref mS, .ref mV, .ref mF, .ref mP, .int pl, .int sp, .int nu, .ref mR, .int rm])), (mA, aI E 92 Al)] H := hP
        have hD : va_D A [(mo, .inr (5, [.ref mA, .ref mK, .ref mH, .int hy, .ref mS, .ref mV, .ref mF, .ref mP, .int pl, .int sp, .int nu, .ref mR, .int rm])), (mA, aI E 92 Al)] := hD
        refine lv_icmp_ne (tgt := 34) hx hb dX5_roadsWithin_27 (by decide) (fun zc27 => ?_) (fun zc27 => ?_)
        · refine lv_iconst (v := nI 0) hx hb dX5_roadsWithin_34 (by decide) ?_
          refine rk_iaddN hx hb dX5_roadsWithin_35 ?_
          refine lv_istore_n (lv' := [(2, .int (nI (cn + 0))), (3, .int (nI i)), (0, .ref mo), (1, .int x)]) hx hb dX5_roadsWithin_36 rfl hl (by decide) rfl (fun ls hl => ?_)
          refine lv_iinc (v := nI (i + 1)) (lv' := [(3, .int (nI (i + 1))), (2, .int (nI (cn + 0))), (0, .ref mo), (1, .int x)]) hx hb dX5_roadsWithin_37 hl (k := 1) rfl (by rw [show Int32.ofInt 1 = nI 1 by decide]; exact nI_add _ _) (by decide) rfl (fun ls hl => ?_)
          refine lv_goto (tgt := 4) hx hb dX5_roadsWithin_40 (by decide) ?_
          exact ih4 (cn + 0) (i + 1) (by subst ec; simp only [rwM]; exact (if_neg zc27).symm) (by first | assumption | omega | rfl) (by omega) _ _ (hP.sub [0, 1] rfl) (hD.sub [0, 1] (by decide) rfl) hS ls (lv_sub hl [0, 1, 2, 3] rfl)
        · refine lv_iconst (v := nI 1) hx hb dX5_roadsWithin_30 (by decide) ?_
          refine lv_goto (tgt := 35) hx hb dX5_roadsWithin_31 (by decide) ?_
          refine rk_iaddN hx hb dX5_roadsWithin_35 ?_
          refine lv_istore_n (lv' := [(2, .int (nI (cn + 1))), (3, .int (nI i)), (0, .ref mo), (1, .int x)]) hx hb dX5_roadsWithin_36 rfl hl (by decide) rfl (fun ls hl => ?_)
          refine lv_iinc (v := nI (i + 1)) (lv' := [(3, .int (nI (i + 1))), (2, .int (nI (cn + 1))), (0, .ref mo), (1, .int x)]) hx hb dX5_roadsWithin_37 hl (k := 1) rfl (by rw [show Int32.ofInt 1 = nI 1 by decide]; exact nI_add _ _) (by decide) rfl (fun ls hl => ?_)
          refine lv_goto (tgt := 4) hx hb dX5_roadsWithin_40 (by decide) ?_
          exact ih4 (cn + 1) (i + 1) (by subst ec; simp only [rwM]; exact (if_pos zc27).symm) (by first | assumption | omega | rfl) (by omega) _ _ (hP.sub [0, 1] rfl) (hD.sub [0, 1] (by decide) rfl) hS ls (lv_sub hl [0, 1, 2, 3] rfl)
  exact L4 ((k - 0) + 1) 0 0 (rfl) (by first | assumption | omega | rfl) (Nat.lt_succ_self _) _ _ (hP.sub [0, 1] rfl) (hD.sub [0, 1] (by decide) rfl) hS ls (lv_sub hl [0, 1, 2, 3] rfl)
theorem iw_X5_lengthWithin_5 : ∀ w ∈ u_ws RX5 TX5 13, w ∈ wsX5_lengthWithin := by decide +kernel
theorem fl_X5_lengthWithin_7 : Cond.fieldLink RX5 7 (TX5 0).1 (TX5 0).2.1 (TX5 0).2.2.1 ∈ wsX5_lengthWithin := by decide +kernel
set_option maxHeartbeats 400000 in
set_option maxRecDepth 100000 in
theorem c_X5_lengthWithin (l : Launch) (E : EE) (sz : Nat) (mo mA mK mH mS mV mF mP mR : Nat) (hy pl sp nu rm : Int32) (n k : Nat) (Al : Nat → Int32) (x : Int32) (gA1 : Al 1 = nI k) (gk : k ≤ 30) (gok : okA Al k) : Ci l yX5_lengthWithin wsX5_lengthWithin 1 21 E [.ref mo, .int x] [(mo, .inr (5, [.ref mA, .ref mK, .ref mH, .int hy, .ref mS, .ref mV, .ref mF, .ref mP, .int pl, .int sp, .int nu, .ref mR, .int rm])), (mA, aI E 92 Al)] sz (lwM Al x k) [(mo, .inr (5, [.ref mA, .ref mK, .ref mH, .int hy, .ref mS, .ref mV, .ref mF, .ref mP, .int pl, .int sp, .int nu, .ref mR, .int rm])), (mA, aI E 92 Al)] := by
  refine C_of (QQ := QI E (lwM Al x k) [(mo, .inr (5, [.ref mA, .ref mK, .ref mH, .int hy, .ref mS, .ref mV, .ref mF, .ref mP, .int pl, .int sp, .int nu, .ref mR, .int rm])), (mA, aI E 92 Al)]) (cc := cX5_lengthWithin) (maxL := 4) (ret := (some .int)) (by decide +kernel) rfl (Nat.le_of_ble_eq_true rfl) ?_
  intro p e s m args below meth c A R Q ls hx hb hr hts hown hml hlocks hA hK hN hP hD hS hl hR hQ
  have hown : s.vm.findClass RX5 = some m.cls := hown
  have hl : lv_has ls 4 [(0, .ref mo), (1, .int x)] := hl
  refine lv_iconst (v := nI 0) hx hb dX5_lengthWithin_0 (by decide) ?_
  refine lv_istore_n (lv' := [(2, .int (nI 0)), (0, .ref mo), (1, .int x)]) hx hb dX5_lengthWithin_1 rfl hl (by decide) rfl (fun ls hl => ?_)
  refine lv_iconst (v := nI 0) hx hb dX5_lengthWithin_2 (by decide) ?_
  refine lv_istore_n (lv' := [(3, .int (nI 0)), (2, .int (nI 0)), (0, .ref mo), (1, .int x)]) hx hb dX5_lengthWithin_3 rfl hl (by decide) rfl (fun ls hl => ?_)
  have L4 : ∀ (fu : Nat) (y : Int32) (i : Nat), (ec : y = lwM Al x i) → (gi : i ≤ k) → k - i < fu → ∀ (H : Heap) (locs : List Loc), va_P E.1 vwCl [(mo, .inr (5, [.ref mA, .ref mK, .ref mH, .int hy, .ref mS, .ref mV, .ref mF, .ref mP, .int pl, .int sp, .int nu, .ref mR, .int rm])), (mA, aI E 92 Al)] H → va_D A [(mo, .inr (5, [.ref mA, .ref mK, .ref mH, .int hy, .ref mS, .ref mV, .ref mF, .ref mP, .int pl, .int sp, .int nu, .ref mR, .int rm])), (mA, aI E 92 Al)] → va_S A s.heap H locs → ∀ (ls : Array Slot), lv_has ls 4 [(3, .int (nI i)), (2, .int y), (0, .ref mo), (1, .int x)] → W p l e R s m args below meth c H locs 0 0 Q (F0 m 4 ls []) := by
    intro fu
    induction fu with
    | zero => intro y i ec gi hfu; exact absurd hfu (Nat.not_lt_zero _)
    | succ fu ih4 =>
      intro y i ec gi hfu H locs hP hD hS ls hl
      refine lv_iload_n hx hb dX5_lengthWithin_4 rfl (lv_at hl 0 rfl) ?_
      refine lv_aload_n hx hb dX5_lengthWithin_5 rfl (lv_at hl 2 rfl) ?_
      refine rk_get (ci := 5) (C := RX5) (T := TX5) (N := 13) hx hb hts iw_X5_lengthWithin_5 hown hK hP 0 rfl rfl 0 (by decide) fl_X5_lengthWithin_7 rfl (v := .ref mA) rfl dX5_lengthWithin_6 ?_
      refine lv_iconst (v := nI 1) hx hb dX5_lengthWithin_9 (by decide) ?_
      refine rk_iald hx hb hK hP 1 rfl (by omega) (by omega) (v := nI k) (by exact gA1) dX5_lengthWithin_10 ?_
      refine rk_geN (tgt := 51) hx hb (by omega) (by omega) dX5_lengthWithin_11 (by decide) (fun zc11 => ?_) (fun zc11 => ?_)
      · refine lv_iload_n hx hb dX5_lengthWithin_51 rfl (lv_at hl 1 rfl) ?_
        exact ret_i hQ hx hb hr hlocks (hP.sub [0, 1] rfl) (hD.sub [0, 1] (by decide) rfl) hS dX5_lengthWithin_52 (by obtain rfl : k = i := (by omega); exact ec)
      · refine lv_iload_n hx hb dX5_lengthWithin_14 rfl (lv_at hl 1 rfl) ?_
        refine lv_aload_n hx hb dX5_lengthWithin_15 rfl (lv_at hl 2 rfl) ?_
        refine lv_iload_n hx hb dX5_lengthWithin_16 rfl (lv_at hl 0 rfl) ?_
        refine kV_i (E := E) (As := [.int (nI i)]) (rest := [.int y]) (wr := []) ⟨hx, hb, hml, hown, hts⟩ (c_X5_ends (l := l) (E := E) (sz := _) (mo := mo) (mA := mA) (mK := mK) (mH := mH) (mS := mS) (mV := mV) (mF := mF) (mP := mP) (mR := mR) (hy := hy) (pl := pl) (sp := sp) (nu := nu) (rm := rm) (n := n) (k := k) (Al := Al) (r := i) (gA1 := by first | assumption | omega) (gk := by first | assumption | omega) (gok := by first | assumption | omega) (gr := by first | assumption | omega)) (cwV 1 hts gX5_lengthWithin_X5_ends rfl rfl rfl (by decide +kernel) ⟨by rw [hR]; decide, by rw [hR]; decide⟩) hK hN hP hD hS hA [0, 1] [] rfl (by decide) rfl (by decide) (by decide) 0 5 rfl rfl rfl hl.1 rfl (Nat.le_of_ble_eq_true rfl) dX5_lengthWithin_17 ⟨Nat.zero_le _, Nat.zero_le _⟩ (fun H locs hP hD hS => ?_)
        have hP : va_P E.1 vwCl [(mo, .inr (5, [.ref mA, .ref mK, .ref mH, .int hy, .ref mS, .ref mV, .ref mF, .ref mP, .int pl, .int sp, .int nu, .ref mR, .int rm])), (mA, aI E 92 Al)] H := hP
        have hD : va_D A [(mo, .inr (5, [.ref mA, .ref mK, .ref mH, .int hy, .ref mS, .ref mV, .ref mF, .ref mP, .int pl, .int sp, .int nu, .ref mR, .int rm])), (mA, aI E 92 Al)] := hD
        refine lv_iload_n hx hb dX5_lengthWithin_20 rfl (lv_at hl 3 rfl) ?_
        refine lv_iand hx hb dX5_lengthWithin_21 ?_
        refine lv_aload_n hx hb dX5_lengthWithin_22 rfl (lv_at hl 2 rfl) ?_
        refine lv_iload_n hx hb dX5_lengthWithin_23 rfl (lv_at hl 0 rfl) ?_
        refine kV_i (E := E) (As := [.int (nI i)]) (rest := [.int ((enM Al i) &&& x), .int y]) (wr := []) ⟨hx, hb, hml, hown, hts⟩ (c_X5_ends (l := l) (E := E) (sz := _) (mo := mo) (mA := mA) (mK := mK) (mH := mH) (mS := mS) (mV := mV) (mF := mF) (mP := mP) (mR := mR) (hy := hy) (pl := pl) (sp := sp) (nu := nu) (rm := rm) (n := n) (k := k) (Al := Al) (r := i) (gA1 := by first | assumption | omega) (gk := by first | assumption | omega) (gok := by first | assumption | omega) (gr := by first | assumption | omega)) (cwV 1 hts gX5_lengthWithin_X5_ends rfl rfl rfl (by decide +kernel) ⟨by rw [hR]; decide, by rw [hR]; decide⟩) hK hN hP hD hS hA [0, 1] [] rfl (by decide) rfl (by decide) (by decide) 0 5 rfl rfl rfl hl.1 rfl (Nat.le_of_ble_eq_true rfl) dX5_lengthWithin_24 ⟨Nat.zero_le _, Nat.zero_le _⟩ (fun H locs hP hD hS => ?_)
        have hP : va_P E.1 vwCl [(mo, .inr (5, [.ref mA, .ref mK, .ref mH, .int hy, .ref mS, .ref mV, .ref mF, .ref mP, .int pl, .int sp, .int nu, .ref mR, .int rm])), (mA, aI E 92 Al)] H := hP
        have hD : va_D A [(mo, .inr (5, [.ref mA, .ref mK, .ref mH, .int hy, .ref mS, .ref mV, .ref mF, .ref mP, .int pl, .int sp, .int nu, .ref mR, .int rm])), (mA, aI E 92 Al)] := hD
        refine lv_icmp_ne (tgt := 42) hx hb dX5_lengthWithin_27 (by decide) (fun zc27 => ?_) (fun zc27 => ?_)
        · refine lv_iconst (v := nI 0) hx hb dX5_lengthWithin_42 (by decide) ?_
          refine lv_iadd hx hb dX5_lengthWithin_43 ?_
          refine lv_istore_n (lv' := [(2, .int (y + (nI 0))), (3, .int (nI i)), (0, .ref mo), (1, .int x)]) hx hb dX5_lengthWithin_44 rfl hl (by decide) rfl (fun ls hl => ?_)
          refine lv_iinc (v := nI (i + 1)) (lv' := [(3, .int (nI (i + 1))), (2, .int (y + (nI 0))), (0, .ref mo), (1, .int x)]) hx hb dX5_lengthWithin_45 hl (k := 1) rfl (by rw [show Int32.ofInt 1 = nI 1 by decide]; exact nI_add _ _) (by decide) rfl (fun ls hl => ?_)
          refine lv_goto (tgt := 4) hx hb dX5_lengthWithin_48 (by decide) ?_
          exact ih4 (y + (nI 0)) (i + 1) (by subst ec; simp only [lwM]; exact (if_neg zc27).symm) (by first | assumption | omega | rfl) (by omega) _ _ (hP.sub [0, 1] rfl) (hD.sub [0, 1] (by decide) rfl) hS ls (lv_sub hl [0, 1, 2, 3] rfl)
        · refine lv_aload_n hx hb dX5_lengthWithin_30 rfl (lv_at hl 2 rfl) ?_
          refine rk_get (ci := 5) (C := RX5) (T := TX5) (N := 13) hx hb hts iw_X5_lengthWithin_5 hown hK hP 0 rfl rfl 0 (by decide) fl_X5_lengthWithin_7 rfl (v := .ref mA) rfl dX5_lengthWithin_31 ?_
          refine lv_bipush (v := nI 62) hx hb dX5_lengthWithin_34 (by decide) ?_
          refine lv_iload_n hx hb dX5_lengthWithin_36 rfl (lv_at hl 0 rfl) ?_
          refine rk_iaddN hx hb dX5_lengthWithin_37 ?_
          refine rk_iald hx hb hK hP 1 rfl (by omega) (by omega) (v := Al (62 + i)) (rfl) dX5_lengthWithin_38 ?_
          refine lv_goto (tgt := 43) hx hb dX5_lengthWithin_39 (by decide) ?_
          refine lv_iadd hx hb dX5_lengthWithin_43 ?_
          refine lv_istore_n (lv' := [(2, .int (y + (Al (62 + i)))), (3, .int (nI i)), (0, .ref mo), (1, .int x)]) hx hb dX5_lengthWithin_44 rfl hl (by decide) rfl (fun ls hl => ?_)
          refine lv_iinc (v := nI (i + 1)) (lv' := [(3, .int (nI (i + 1))), (2, .int (y + (Al (62 + i)))), (0, .ref mo), (1, .int x)]) hx hb dX5_lengthWithin_45 hl (k := 1) rfl (by rw [show Int32.ofInt 1 = nI 1 by decide]; exact nI_add _ _) (by decide) rfl (fun ls hl => ?_)
          refine lv_goto (tgt := 4) hx hb dX5_lengthWithin_48 (by decide) ?_
          exact ih4 (y + (Al (62 + i))) (i + 1) (by subst ec; simp only [lwM]; exact (if_pos zc27).symm) (by first | assumption | omega | rfl) (by omega) _ _ (hP.sub [0, 1] rfl) (hD.sub [0, 1] (by decide) rfl) hS ls (lv_sub hl [0, 1, 2, 3] rfl)
  exact L4 ((k - 0) + 1) (nI 0) 0 (rfl) (by first | assumption | omega | rfl) (Nat.lt_succ_self _) _ _ (hP.sub [0, 1] rfl) (hD.sub [0, 1] (by decide) rfl) hS ls (lv_sub hl [0, 1, 2, 3] rfl)
theorem iw_X5_roadsOut_5 : ∀ w ∈ u_ws RX5 TX5 13, w ∈ wsX5_roadsOut := by decide +kernel
theorem fl_X5_roadsOut_7 : Cond.fieldLink RX5 7 (TX5 0).1 (TX5 0).2.1 (TX5 0).2.2.1 ∈ wsX5_roadsOut := by decide +kernel
set_option maxHeartbeats 400000 in
set_option maxRecDepth 100000 in
theorem c_X5_roadsOut (l : Launch) (E : EE) (sz : Nat) (mo mA mK mH mS mV mF mP mR : Nat) (hy pl sp nu rm : Int32) (n k : Nat) (Al : Nat → Int32) (x : Int32) (gA1 : Al 1 = nI k) (gk : k ≤ 30) (gok : okA Al k) : Ci l yX5_roadsOut wsX5_roadsOut 1 21 E [.ref mo, .int x] [(mo, .inr (5, [.ref mA, .ref mK, .ref mH, .int hy, .ref mS, .ref mV, .ref mF, .ref mP, .int pl, .int sp, .int nu, .ref mR, .int rm])), (mA, aI E 92 Al)] sz (nI (roM Al x k)) [(mo, .inr (5, [.ref mA, .ref mK, .ref mH, .int hy, .ref mS, .ref mV, .ref mF, .ref mP, .int pl, .int sp, .int nu, .ref mR, .int rm])), (mA, aI E 92 Al)] := by
  refine C_of (QQ := QI E (nI (roM Al x k)) [(mo, .inr (5, [.ref mA, .ref mK, .ref mH, .int hy, .ref mS, .ref mV, .ref mF, .ref mP, .int pl, .int sp, .int nu, .ref mR, .int rm])), (mA, aI E 92 Al)]) (cc := cX5_roadsOut) (maxL := 5) (ret := (some .int)) (by decide +kernel) rfl (Nat.le_of_ble_eq_true rfl) ?_
  intro p e s m args below meth c A R Q ls hx hb hr hts hown hml hlocks hA hK hN hP hD hS hl hR hQ
  have hown : s.vm.findClass RX5 = some m.cls := hown
  have hl : lv_has ls 5 [(0, .ref mo), (1, .int x)] := hl
  refine lv_iconst (v := nI 0) hx hb dX5_roadsOut_0 (by decide) ?_
  refine lv_istore_n (lv' := [(2, .int (nI 0)), (0, .ref mo), (1, .int x)]) hx hb dX5_roadsOut_1 rfl hl (by decide) rfl (fun ls hl => ?_)
  refine lv_iconst (v := nI 0) hx hb dX5_roadsOut_2 (by decide) ?_
  refine lv_istore_n (lv' := [(3, .int (nI 0)), (2, .int (nI 0)), (0, .ref mo), (1, .int x)]) hx hb dX5_roadsOut_3 rfl hl (by decide) rfl (fun ls hl => ?_)
  have L4 : ∀ (fu : Nat) (cn i : Nat), (ec : cn = roM Al x i) → (gi : i ≤ k) → k - i < fu → ∀ (H : Heap) (locs : List Loc), va_P E.1 vwCl [(mo, .inr (5, [.ref mA, .ref mK, .ref mH, .int hy, .ref mS, .ref mV, .ref mF, .ref mP, .int pl, .int sp, .int nu, .ref mR, .int rm])), (mA, aI E 92 Al)] H → va_D A [(mo, .inr (5, [.ref mA, .ref mK, .ref mH, .int hy, .ref mS, .ref mV, .ref mF, .ref mP, .int pl, .int sp, .int nu, .ref mR, .int rm])), (mA, aI E 92 Al)] → va_S A s.heap H locs → ∀ (ls : Array Slot), lv_has ls 5 [(3, .int (nI i)), (2, .int (nI cn)), (0, .ref mo), (1, .int x)] → W p l e R s m args below meth c H locs 0 0 Q (F0 m 4 ls []) := by
    intro fu
    induction fu with
    | zero => intro cn i ec gi hfu; exact absurd hfu (Nat.not_lt_zero _)
    | succ fu ih4 =>
      intro cn i ec gi hfu H locs hP hD hS ls hl
      refine lv_iload_n hx hb dX5_roadsOut_4 rfl (lv_at hl 0 rfl) ?_
      refine lv_aload_n hx hb dX5_roadsOut_5 rfl (lv_at hl 2 rfl) ?_
      refine rk_get (ci := 5) (C := RX5) (T := TX5) (N := 13) hx hb hts iw_X5_roadsOut_5 hown hK hP 0 rfl rfl 0 (by decide) fl_X5_roadsOut_7 rfl (v := .ref mA) rfl dX5_roadsOut_6 ?_
      refine lv_iconst (v := nI 1) hx hb dX5_roadsOut_9 (by decide) ?_
      refine rk_iald hx hb hK hP 1 rfl (by omega) (by omega) (v := nI k) (by exact gA1) dX5_roadsOut_10 ?_
      refine rk_geN (tgt := 52) hx hb (by omega) (by omega) dX5_roadsOut_11 (by decide) (fun zc11 => ?_) (fun zc11 => ?_)
      · refine lv_iload_n hx hb dX5_roadsOut_52 rfl (lv_at hl 1 rfl) ?_
        exact ret_i hQ hx hb hr hlocks (hP.sub [0, 1] rfl) (hD.sub [0, 1] (by decide) rfl) hS dX5_roadsOut_53 (by obtain rfl : k = i := (by omega); rw [ec])
      · refine lv_aload_n hx hb dX5_roadsOut_14 rfl (lv_at hl 2 rfl) ?_
        refine lv_iload_n hx hb dX5_roadsOut_15 rfl (lv_at hl 0 rfl) ?_
        refine kV_i (E := E) (As := [.int (nI i)]) (rest := []) (wr := []) ⟨hx, hb, hml, hown, hts⟩ (c_X5_ends (l := l) (E := E) (sz := _) (mo := mo) (mA := mA) (mK := mK) (mH := mH) (mS := mS) (mV := mV) (mF := mF) (mP := mP) (mR := mR) (hy := hy) (pl := pl) (sp := sp) (nu := nu) (rm := rm) (n := n) (k := k) (Al := Al) (r := i) (gA1 := by first | assumption | omega) (gk := by first | assumption | omega) (gok := by first | assumption | omega) (gr := by first | assumption | omega)) (cwV 1 hts gX5_roadsOut_X5_ends rfl rfl rfl (by decide +kernel) ⟨by rw [hR]; decide, by rw [hR]; decide⟩) hK hN hP hD hS hA [0, 1] [] rfl (by decide) rfl (by decide) (by decide) 0 5 rfl rfl rfl hl.1 rfl (Nat.le_of_ble_eq_true rfl) dX5_roadsOut_16 ⟨Nat.zero_le _, Nat.zero_le _⟩ (fun H locs hP hD hS => ?_)
        have hP : va_P E.1 vwCl [(mo, .inr (5, [.ref mA, .ref mK, .ref mH, .int hy, .ref mS, .ref mV, .ref mF, .ref mP, .int pl, .int sp, .int nu, .ref mR, .int rm])), (mA, aI E 92 Al)] H := hP
        have hD : va_D A [(mo, .inr (5, [.ref mA, .ref mK, .ref mH, .int hy, .ref mS, .ref mV, .ref mF, .ref mP, .int pl, .int sp, .int nu, .ref mR, .int rm])), (mA, aI E 92 Al)] := hD
        refine lv_iload_n hx hb dX5_roadsOut_19 rfl (lv_at hl 3 rfl) ?_
        refine lv_iand hx hb dX5_roadsOut_20 ?_
        refine lv_istore (lv' := [(4, .int ((enM Al i) &&& x)), (3, .int (nI i)), (2, .int (nI cn)), (0, .ref mo), (1, .int x)]) hx hb dX5_roadsOut_21 hl (by decide) rfl (fun ls hl => ?_)
        refine lv_iload_n hx hb dX5_roadsOut_23 rfl (lv_at hl 2 rfl) ?_
        refine lv_iload hx hb dX5_roadsOut_24 (lv_at hl 0 rfl) ?_
        refine lv_if_eq (tgt := 43) hx hb dX5_roadsOut_26 (by decide) (fun zc26 => ?_) (fun zc26 => ?_)
        · refine lv_iconst (v := nI 0) hx hb dX5_roadsOut_43 (by decide) ?_
          refine rk_iaddN hx hb dX5_roadsOut_44 ?_
          refine lv_istore_n (lv' := [(2, .int (nI (cn + 0))), (4, .int ((enM Al i) &&& x)), (3, .int (nI i)), (0, .ref mo), (1, .int x)]) hx hb dX5_roadsOut_45 rfl hl (by decide) rfl (fun ls hl => ?_)
          refine lv_iinc (v := nI (i + 1)) (lv' := [(3, .int (nI (i + 1))), (2, .int (nI (cn + 0))), (4, .int ((enM Al i) &&& x)), (0, .ref mo), (1, .int x)]) hx hb dX5_roadsOut_46 hl (k := 2) rfl (by rw [show Int32.ofInt 1 = nI 1 by decide]; exact nI_add _ _) (by decide) rfl (fun ls hl => ?_)
          refine lv_goto (tgt := 4) hx hb dX5_roadsOut_49 (by decide) ?_
          exact ih4 (cn + 0) (i + 1) (by subst ec; simp only [roM]; exact (ifn1 (fun q9 => q9 zc26)).symm) (by first | assumption | omega | rfl) (by omega) _ _ (hP.sub [0, 1] rfl) (hD.sub [0, 1] (by decide) rfl) hS ls (lv_sub hl [0, 1, 3, 4] rfl)
        · refine lv_iload hx hb dX5_roadsOut_29 (lv_at hl 0 rfl) ?_
          refine lv_aload_n hx hb dX5_roadsOut_31 rfl (lv_at hl 3 rfl) ?_
          refine lv_iload_n hx hb dX5_roadsOut_32 rfl (lv_at hl 1 rfl) ?_
          refine kV_i (E := E) (As := [.int (nI i)]) (rest := [.int ((enM Al i) &&& x), .int (nI cn)]) (wr := []) ⟨hx, hb, hml, hown, hts⟩ (c_X5_ends (l := l) (E := E) (sz := _) (mo := mo) (mA := mA) (mK := mK) (mH := mH) (mS := mS) (mV := mV) (mF := mF) (mP := mP) (mR := mR) (hy := hy) (pl := pl) (sp := sp) (nu := nu) (rm := rm) (n := n) (k := k) (Al := Al) (r := i) (gA1 := by first | assumption | omega) (gk := by first | assumption | omega) (gok := by first | assumption | omega) (gr := by first | assumption | omega)) (cwV 1 hts gX5_roadsOut_X5_ends rfl rfl rfl (by decide +kernel) ⟨by rw [hR]; decide, by rw [hR]; decide⟩) hK hN hP hD hS hA [0, 1] [] rfl (by decide) rfl (by decide) (by decide) 0 5 rfl rfl rfl hl.1 rfl (Nat.le_of_ble_eq_true rfl) dX5_roadsOut_33 ⟨Nat.zero_le _, Nat.zero_le _⟩ (fun H locs hP hD hS => ?_)
          have hP : va_P E.1 vwCl [(mo, .inr (5, [.ref mA, .ref mK, .ref mH, .int hy, .ref mS, .ref mV, .ref mF, .ref mP, .int pl, .int sp, .int nu, .ref mR, .int rm])), (mA, aI E 92 Al)] H := hP
          have hD : va_D A [(mo, .inr (5, [.ref mA, .ref mK, .ref mH, .int hy, .ref mS, .ref mV, .ref mF, .ref mP, .int pl, .int sp, .int nu, .ref mR, .int rm])), (mA, aI E 92 Al)] := hD
          refine lv_icmp_eq (tgt := 43) hx hb dX5_roadsOut_36 (by decide) (fun zc36 => ?_) (fun zc36 => ?_)
          · refine lv_iconst (v := nI 0) hx hb dX5_roadsOut_43 (by decide) ?_
            refine rk_iaddN hx hb dX5_roadsOut_44 ?_
            refine lv_istore_n (lv' := [(2, .int (nI (cn + 0))), (4, .int ((enM Al i) &&& x)), (3, .int (nI i)), (0, .ref mo), (1, .int x)]) hx hb dX5_roadsOut_45 rfl hl (by decide) rfl (fun ls hl => ?_)
            refine lv_iinc (v := nI (i + 1)) (lv' := [(3, .int (nI (i + 1))), (2, .int (nI (cn + 0))), (4, .int ((enM Al i) &&& x)), (0, .ref mo), (1, .int x)]) hx hb dX5_roadsOut_46 hl (k := 2) rfl (by rw [show Int32.ofInt 1 = nI 1 by decide]; exact nI_add _ _) (by decide) rfl (fun ls hl => ?_)
            refine lv_goto (tgt := 4) hx hb dX5_roadsOut_49 (by decide) ?_
            exact ih4 (cn + 0) (i + 1) (by subst ec; simp only [roM]; exact (ifn2 (fun q9 => q9 zc36)).symm) (by first | assumption | omega | rfl) (by omega) _ _ (hP.sub [0, 1] rfl) (hD.sub [0, 1] (by decide) rfl) hS ls (lv_sub hl [0, 1, 3, 4] rfl)
          · refine lv_iconst (v := nI 1) hx hb dX5_roadsOut_39 (by decide) ?_
            refine lv_goto (tgt := 44) hx hb dX5_roadsOut_40 (by decide) ?_
            refine rk_iaddN hx hb dX5_roadsOut_44 ?_
            refine lv_istore_n (lv' := [(2, .int (nI (cn + 1))), (4, .int ((enM Al i) &&& x)), (3, .int (nI i)), (0, .ref mo), (1, .int x)]) hx hb dX5_roadsOut_45 rfl hl (by decide) rfl (fun ls hl => ?_)
            refine lv_iinc (v := nI (i + 1)) (lv' := [(3, .int (nI (i + 1))), (2, .int (nI (cn + 1))), (4, .int ((enM Al i) &&& x)), (0, .ref mo), (1, .int x)]) hx hb dX5_roadsOut_46 hl (k := 2) rfl (by rw [show Int32.ofInt 1 = nI 1 by decide]; exact nI_add _ _) (by decide) rfl (fun ls hl => ?_)
            refine lv_goto (tgt := 4) hx hb dX5_roadsOut_49 (by decide) ?_
            exact ih4 (cn + 1) (i + 1) (by subst ec; simp only [roM]; exact (if_pos (And.intro zc26 zc36)).symm) (by first | assumption | omega | rfl) (by omega) _ _ (hP.sub [0, 1] rfl) (hD.sub [0, 1] (by decide) rfl) hS ls (lv_sub hl [0, 1, 3, 4] rfl)
  exact L4 ((k - 0) + 1) 0 0 (rfl) (by first | assumption | omega | rfl) (Nat.lt_succ_self _) _ _ (hP.sub [0, 1] rfl) (hD.sub [0, 1] (by decide) rfl) hS ls (lv_sub hl [0, 1, 2, 3] rfl)
set_option maxHeartbeats 400000 in
set_option maxRecDepth 100000 in
theorem c_X5_longestDistrict (l : Launch) (E : EE) (sz : Nat) (mo mA mK mH mS mV mF mP mR : Nat) (hy pl sp nu rm : Int32) (n k : Nat) (Al : Nat → Int32)  (gA0 : Al 0 = nI n) (gn : n ≤ 16) (gA1 : Al 1 = nI k) (gk : k ≤ 30) (gok : okA Al k) : Ci l yX5_longestDistrict wsX5_longestDistrict 6 136 E [.ref mo] [(mo, .inr (5, [.ref mA, .ref mK, .ref mH, .int hy, .ref mS, .ref mV, .ref mF, .ref mP, .int pl, .int sp, .int nu, .ref mR, .int rm])), (mA, aI E 92 Al)] sz (nI ((ldM (dlM Al k n) (dbM Al k n)).1)) [(mo, .inr (5, [.ref mA, .ref mK, .ref mH, .int hy, .ref mS, .ref mV, .ref mF, .ref mP, .int pl, .int sp, .int nu, .ref mR, .int rm])), (mA, aI E 92 Al)] := by
  refine C_of (QQ := QI E (nI ((ldM (dlM Al k n) (dbM Al k n)).1)) [(mo, .inr (5, [.ref mA, .ref mK, .ref mH, .int hy, .ref mS, .ref mV, .ref mF, .ref mP, .int pl, .int sp, .int nu, .ref mR, .int rm])), (mA, aI E 92 Al)]) (cc := cX5_longestDistrict) (maxL := 6) (ret := (some .int)) (by decide +kernel) rfl (Nat.le_of_ble_eq_true rfl) ?_
  intro p e s m args below meth c A R Q ls hx hb hr hts hown hml hlocks hA hK hN hP hD hS hl hR hQ
  have hown : s.vm.findClass RX5 = some m.cls := hown
  have hl : lv_has ls 6 [(0, .ref mo)] := hl
  refine lv_iconst (v := nI 0) hx hb dX5_longestDistrict_0 (by decide) ?_
  refine lv_istore_n (lv' := [(1, .int (nI 0)), (0, .ref mo)]) hx hb dX5_longestDistrict_1 rfl hl (by decide) rfl (fun ls hl => ?_)
  refine lv_iconst (v := (-1)) hx hb dX5_longestDistrict_2 (by decide) ?_
  refine lv_istore_n (lv' := [(2, .int ((-1))), (1, .int (nI 0)), (0, .ref mo)]) hx hb dX5_longestDistrict_3 rfl hl (by decide) rfl (fun ls hl => ?_)
  refine lv_aload_n hx hb dX5_longestDistrict_4 rfl (lv_at hl 2 rfl) ?_
  refine kV_i (E := E) (As := []) (rest := []) (wr := []) ⟨hx, hb, hml, hown, hts⟩ (c_X5_districts (l := l) (E := E) (sz := _) (mo := mo) (mA := mA) (mK := mK) (mH := mH) (mS := mS) (mV := mV) (mF := mF) (mP := mP) (mR := mR) (hy := hy) (pl := pl) (sp := sp) (nu := nu) (rm := rm) (n := n) (k := k) (Al := Al) (gA0 := by first | assumption | omega) (gn := by first | assumption | omega) (gA1 := by first | assumption | omega) (gk := by first | assumption | omega) (gok := by first | assumption | omega)) (cwV 0 hts gX5_longestDistrict_X5_districts rfl rfl rfl (by decide +kernel) ⟨by rw [hR]; decide, by rw [hR]; decide⟩) hK hN hP hD hS hA [0, 1] [] rfl (by decide) rfl (by decide) (by decide) 0 5 rfl rfl rfl hl.1 rfl (Nat.le_of_ble_eq_true rfl) dX5_longestDistrict_5 ⟨Nat.zero_le _, Nat.zero_le _⟩ (fun H locs hP hD hS => ?_)
  have hP : va_P E.1 vwCl [(mo, .inr (5, [.ref mA, .ref mK, .ref mH, .int hy, .ref mS, .ref mV, .ref mF, .ref mP, .int pl, .int sp, .int nu, .ref mR, .int rm])), (mA, aI E 92 Al)] H := hP
  have hD : va_D A [(mo, .inr (5, [.ref mA, .ref mK, .ref mH, .int hy, .ref mS, .ref mV, .ref mF, .ref mP, .int pl, .int sp, .int nu, .ref mR, .int rm])), (mA, aI E 92 Al)] := hD
  refine lv_istore_n (lv' := [(3, .int (nI (dbM Al k n))), (2, .int ((-1))), (1, .int (nI 0)), (0, .ref mo)]) hx hb dX5_longestDistrict_8 rfl hl (by decide) rfl (fun ls hl => ?_)
  have gdb0 : dbM Al k n ≤ n := pwM_le _ _ _
  refine lv_iconst (v := nI 0) hx hb dX5_longestDistrict_9 (by decide) ?_
  refine lv_istore (lv' := [(4, .int (nI 0)), (3, .int (nI (dbM Al k n))), (2, .int ((-1))), (1, .int (nI 0)), (0, .ref mo)]) hx hb dX5_longestDistrict_10 hl (by decide) rfl (fun ls hl => ?_)
  have L12 : ∀ (fu : Nat) (bs d : Nat) (mt : Int32), (el : bs = (ldM (dlM Al k n) d).1) → (em : mt = (ldM (dlM Al k n) d).2) → (gd9 : d ≤ dbM Al k n) → dbM Al k n - d < fu → ∀ (H : Heap) (locs : List Loc), va_P E.1 vwCl [(mo, .inr (5, [.ref mA, .ref mK, .ref mH, .int hy, .ref mS, .ref mV, .ref mF, .ref mP, .int pl, .int sp, .int nu, .ref mR, .int rm])), (mA, aI E 92 Al)] H → va_D A [(mo, .inr (5, [.ref mA, .ref mK, .ref mH, .int hy, .ref mS, .ref mV, .ref mF, .ref mP, .int pl, .int sp, .int nu, .ref mR, .int rm])), (mA, aI E 92 Al)] → va_S A s.heap H locs → ∀ (ls : Array Slot), lv_has ls 6 [(4, .int (nI d)), (3, .int (nI (dbM Al k n))), (2, .int mt), (1, .int (nI bs)), (0, .ref mo)] → W p l e R s m args below meth c H locs 0 0 Q (F0 m 12 ls []) := by
    intro fu
    induction fu with
    | zero => intro bs d mt el em gd9 hfu; exact absurd hfu (Nat.not_lt_zero _)
    | succ fu ih12 =>
      intro bs d mt el em gd9 hfu H locs hP hD hS ls hl
      have gdb : dbM Al k n ≤ n := pwM_le _ _ _
      refine lv_iload hx hb dX5_longestDistrict_12 (lv_at hl 0 rfl) ?_
      refine lv_iload_n hx hb dX5_longestDistrict_14 rfl (lv_at hl 1 rfl) ?_
      refine rk_geN (tgt := 62) hx hb (by omega) (by omega) dX5_longestDistrict_15 (by decide) (fun zc15 => ?_) (fun zc15 => ?_)
      · refine lv_iload_n hx hb dX5_longestDistrict_62 rfl (lv_at hl 3 rfl) ?_
        exact ret_i hQ hx hb hr hlocks (hP.sub [0, 1] rfl) (hD.sub [0, 1] (by decide) rfl) hS dX5_longestDistrict_63 (by rw [show dbM Al k n = d by omega, ← el])
      · refine lv_aload_n hx hb dX5_longestDistrict_18 rfl (lv_at hl 4 rfl) ?_
        refine lv_aload_n hx hb dX5_longestDistrict_19 rfl (lv_at hl 4 rfl) ?_
        refine lv_iload hx hb dX5_longestDistrict_20 (lv_at hl 0 rfl) ?_
        refine kV_i (E := E) (As := [.int (nI d)]) (rest := [.ref mo]) (wr := []) ⟨hx, hb, hml, hown, hts⟩ (c_X5_squaresOf (l := l) (E := E) (sz := _) (mo := mo) (mA := mA) (mK := mK) (mH := mH) (mS := mS) (mV := mV) (mF := mF) (mP := mP) (mR := mR) (hy := hy) (pl := pl) (sp := sp) (nu := nu) (rm := rm) (n := n) (k := k) (Al := Al) (d := d) (gA0 := by first | assumption | omega) (gn := by first | assumption | omega) (gA1 := by first | assumption | omega) (gk := by first | assumption | omega) (gok := by first | assumption | omega) (gd := by first | assumption | omega)) (cwV 1 hts gX5_longestDistrict_X5_squaresOf rfl rfl rfl (by decide +kernel) ⟨by rw [hR]; decide, by rw [hR]; decide⟩) hK hN hP hD hS hA [0, 1] [] rfl (by decide) rfl (by decide) (by decide) 0 5 rfl rfl rfl hl.1 rfl (Nat.le_of_ble_eq_true rfl) dX5_longestDistrict_22 ⟨Nat.zero_le _, Nat.zero_le _⟩ (fun H locs hP hD hS => ?_)
        have hP : va_P E.1 vwCl [(mo, .inr (5, [.ref mA, .ref mK, .ref mH, .int hy, .ref mS, .ref mV, .ref mF, .ref mP, .int pl, .int sp, .int nu, .ref mR, .int rm])), (mA, aI E 92 Al)] H := hP
        have hD : va_D A [(mo, .inr (5, [.ref mA, .ref mK, .ref mH, .int hy, .ref mS, .ref mV, .ref mF, .ref mP, .int pl, .int sp, .int nu, .ref mR, .int rm])), (mA, aI E 92 Al)] := hD
        refine kV_i (E := E) (As := [.int (sqM Al k n d)]) (rest := []) (wr := []) ⟨hx, hb, hml, hown, hts⟩ (c_X5_lengthWithin (l := l) (E := E) (sz := _) (mo := mo) (mA := mA) (mK := mK) (mH := mH) (mS := mS) (mV := mV) (mF := mF) (mP := mP) (mR := mR) (hy := hy) (pl := pl) (sp := sp) (nu := nu) (rm := rm) (n := n) (k := k) (Al := Al) (x := sqM Al k n d) (gA1 := by first | assumption | omega) (gk := by first | assumption | omega) (gok := by first | assumption | omega)) (cwV 1 hts gX5_longestDistrict_X5_lengthWithin rfl rfl rfl (by decide +kernel) ⟨by rw [hR]; decide, by rw [hR]; decide⟩) hK hN hP hD hS hA [0, 1] [] rfl (by decide) rfl (by decide) (by decide) 0 5 rfl rfl rfl hl.1 rfl (Nat.le_of_ble_eq_true rfl) dX5_longestDistrict_25 ⟨Nat.zero_le _, Nat.zero_le _⟩ (fun H locs hP hD hS => ?_)
        have hP : va_P E.1 vwCl [(mo, .inr (5, [.ref mA, .ref mK, .ref mH, .int hy, .ref mS, .ref mV, .ref mF, .ref mP, .int pl, .int sp, .int nu, .ref mR, .int rm])), (mA, aI E 92 Al)] H := hP
        have hD : va_D A [(mo, .inr (5, [.ref mA, .ref mK, .ref mH, .int hy, .ref mS, .ref mV, .ref mF, .ref mP, .int pl, .int sp, .int nu, .ref mR, .int rm])), (mA, aI E 92 Al)] := hD
        refine lv_istore (lv' := [(5, .int (lwM Al (sqM Al k n d) k)), (4, .int (nI d)), (3, .int (nI (dbM Al k n))), (2, .int mt), (1, .int (nI bs)), (0, .ref mo)]) hx hb dX5_longestDistrict_28 hl (by decide) rfl (fun ls hl => ?_)
        refine lv_iload hx hb dX5_longestDistrict_30 (lv_at hl 0 rfl) ?_
        refine lv_iload_n hx hb dX5_longestDistrict_32 rfl (lv_at hl 3 rfl) ?_
        refine lv_icmp_le (tgt := 41) hx hb dX5_longestDistrict_33 (by decide) (fun zc33 => ?_) (fun zc33 => ?_)
        · refine lv_iload_n hx hb dX5_longestDistrict_41 rfl (lv_at hl 4 rfl) ?_
          refine lv_istore_n (lv' := [(1, .int (nI bs)), (5, .int (lwM Al (sqM Al k n d) k)), (4, .int (nI d)), (3, .int (nI (dbM Al k n))), (2, .int mt), (0, .ref mo)]) hx hb dX5_longestDistrict_42 rfl hl (by decide) rfl (fun ls hl => ?_)
          refine lv_iload hx hb dX5_longestDistrict_43 (lv_at hl 1 rfl) ?_
          refine lv_iload_n hx hb dX5_longestDistrict_45 rfl (lv_at hl 4 rfl) ?_
          refine lv_icmp_le (tgt := 54) hx hb dX5_longestDistrict_46 (by decide) (fun zc46 => ?_) (fun q => absurd zc33 q)
          refine lv_iload_n hx hb dX5_longestDistrict_54 rfl (lv_at hl 4 rfl) ?_
          refine lv_istore_n (lv' := [(2, .int mt), (1, .int (nI bs)), (5, .int (lwM Al (sqM Al k n d) k)), (4, .int (nI d)), (3, .int (nI (dbM Al k n))), (0, .ref mo)]) hx hb dX5_longestDistrict_55 rfl hl (by decide) rfl (fun ls hl => ?_)
          refine lv_iinc (v := nI (d + 1)) (lv' := [(4, .int (nI (d + 1))), (2, .int mt), (1, .int (nI bs)), (5, .int (lwM Al (sqM Al k n d) k)), (3, .int (nI (dbM Al k n))), (0, .ref mo)]) hx hb dX5_longestDistrict_56 hl (k := 3) rfl (by rw [show Int32.ofInt 1 = nI 1 by decide]; exact nI_add _ _) (by decide) rfl (fun ls hl => ?_)
          refine lv_goto (tgt := 12) hx hb dX5_longestDistrict_59 (by decide) ?_
          exact ih12 bs (d + 1) mt (by subst el; subst em; rw [ldM_f (ln := dlM Al k n) zc33]) (by subst el; subst em; rw [ldM_f (ln := dlM Al k n) zc33]) (by first | assumption | omega | rfl) (by omega) _ _ (hP.sub [0, 1] rfl) (hD.sub [0, 1] (by decide) rfl) hS ls (lv_sub hl [0, 4, 1, 2, 5] rfl)
        · refine lv_iload hx hb dX5_longestDistrict_36 (lv_at hl 1 rfl) ?_
          refine lv_goto (tgt := 42) hx hb dX5_longestDistrict_38 (by decide) ?_
          refine lv_istore_n (lv' := [(1, .int (nI d)), (5, .int (lwM Al (sqM Al k n d) k)), (4, .int (nI d)), (3, .int (nI (dbM Al k n))), (2, .int mt), (0, .ref mo)]) hx hb dX5_longestDistrict_42 rfl hl (by decide) rfl (fun ls hl => ?_)
          refine lv_iload hx hb dX5_longestDistrict_43 (lv_at hl 1 rfl) ?_
          refine lv_iload_n hx hb dX5_longestDistrict_45 rfl (lv_at hl 4 rfl) ?_
          refine lv_icmp_le (tgt := 54) hx hb dX5_longestDistrict_46 (by decide) (fun q => absurd q zc33) (fun zc46 => ?_)
          refine lv_iload hx hb dX5_longestDistrict_49 (lv_at hl 1 rfl) ?_
          refine lv_goto (tgt := 55) hx hb dX5_longestDistrict_51 (by decide) ?_
          refine lv_istore_n (lv' := [(2, .int (lwM Al (sqM Al k n d) k)), (1, .int (nI d)), (5, .int (lwM Al (sqM Al k n d) k)), (4, .int (nI d)), (3, .int (nI (dbM Al k n))), (0, .ref mo)]) hx hb dX5_longestDistrict_55 rfl hl (by decide) rfl (fun ls hl => ?_)
          refine lv_iinc (v := nI (d + 1)) (lv' := [(4, .int (nI (d + 1))), (2, .int (lwM Al (sqM Al k n d) k)), (1, .int (nI d)), (5, .int (lwM Al (sqM Al k n d) k)), (3, .int (nI (dbM Al k n))), (0, .ref mo)]) hx hb dX5_longestDistrict_56 hl (k := 3) rfl (by rw [show Int32.ofInt 1 = nI 1 by decide]; exact nI_add _ _) (by decide) rfl (fun ls hl => ?_)
          refine lv_goto (tgt := 12) hx hb dX5_longestDistrict_59 (by decide) ?_
          exact ih12 d (d + 1) (lwM Al (sqM Al k n d) k) (by subst el; subst em; rw [ldM_t (ln := dlM Al k n) zc33]) (by subst el; subst em; rw [ldM_t (ln := dlM Al k n) zc33]; rfl) (by first | assumption | omega | rfl) (by omega) _ _ (hP.sub [0, 1] rfl) (hD.sub [0, 1] (by decide) rfl) hS ls (lv_sub hl [0, 4, 1, 2, 5] rfl)
  exact L12 ((dbM Al k n - 0) + 1) 0 0 ((-1)) (rfl) (rfl) (by first | assumption | omega | rfl) (Nat.lt_succ_self _) _ _ (hP.sub [0, 1] rfl) (hD.sub [0, 1] (by decide) rfl) hS ls (lv_sub hl [0, 1, 2, 3, 4] rfl)
theorem iw_X5_squaresThatPart_5 : ∀ w ∈ u_ws RX5 TX5 13, w ∈ wsX5_squaresThatPart := by decide +kernel
theorem fl_X5_squaresThatPart_7 : Cond.fieldLink RX5 7 (TX5 0).1 (TX5 0).2.1 (TX5 0).2.2.1 ∈ wsX5_squaresThatPart := by decide +kernel
set_option maxHeartbeats 400000 in
set_option maxRecDepth 100000 in
theorem c_X5_squaresThatPart (l : Launch) (E : EE) (sz : Nat) (mo mA mK mH mS mV mF mP mR : Nat) (hy pl sp nu rm : Int32) (n k : Nat) (Al : Nat → Int32)  (gA0 : Al 0 = nI n) (gn : n ≤ 16) (gA1 : Al 1 = nI k) (gk : k ≤ 30) (gok : okA Al k) : Ci l yX5_squaresThatPart wsX5_squaresThatPart 5 115 E [.ref mo] [(mo, .inr (5, [.ref mA, .ref mK, .ref mH, .int hy, .ref mS, .ref mV, .ref mF, .ref mP, .int pl, .int sp, .int nu, .ref mR, .int rm])), (mA, aI E 92 Al)] sz (nI (pSq (mpM Al k n) n)) [(mo, .inr (5, [.ref mA, .ref mK, .ref mH, .int hy, .ref mS, .ref mV, .ref mF, .ref mP, .int pl, .int sp, .int nu, .ref mR, .int rm])), (mA, aI E 92 Al)] := by
  refine C_of (QQ := QI E (nI (pSq (mpM Al k n) n)) [(mo, .inr (5, [.ref mA, .ref mK, .ref mH, .int hy, .ref mS, .ref mV, .ref mF, .ref mP, .int pl, .int sp, .int nu, .ref mR, .int rm])), (mA, aI E 92 Al)]) (cc := cX5_squaresThatPart) (maxL := 3) (ret := (some .int)) (by decide +kernel) rfl (Nat.le_of_ble_eq_true rfl) ?_
  intro p e s m args below meth c A R Q ls hx hb hr hts hown hml hlocks hA hK hN hP hD hS hl hR hQ
  have hown : s.vm.findClass RX5 = some m.cls := hown
  have hl : lv_has ls 3 [(0, .ref mo)] := hl
  refine lv_iconst (v := nI 0) hx hb dX5_squaresThatPart_0 (by decide) ?_
  refine lv_istore_n (lv' := [(1, .int (nI 0)), (0, .ref mo)]) hx hb dX5_squaresThatPart_1 rfl hl (by decide) rfl (fun ls hl => ?_)
  refine lv_iconst (v := nI 0) hx hb dX5_squaresThatPart_2 (by decide) ?_
  refine lv_istore_n (lv' := [(2, .int (nI 0)), (1, .int (nI 0)), (0, .ref mo)]) hx hb dX5_squaresThatPart_3 rfl hl (by decide) rfl (fun ls hl => ?_)
  have L4 : ∀ (fu : Nat) (cn i : Nat), (ec : cn = pSq (mpM Al k n) i) → (gi : i ≤ n) → n - i < fu → ∀ (H : Heap) (locs : List Loc), va_P E.1 vwCl [(mo, .inr (5, [.ref mA, .ref mK, .ref mH, .int hy, .ref mS, .ref mV, .ref mF, .ref mP, .int pl, .int sp, .int nu, .ref mR, .int rm])), (mA, aI E 92 Al)] H → va_D A [(mo, .inr (5, [.ref mA, .ref mK, .ref mH, .int hy, .ref mS, .ref mV, .ref mF, .ref mP, .int pl, .int sp, .int nu, .ref mR, .int rm])), (mA, aI E 92 Al)] → va_S A s.heap H locs → ∀ (ls : Array Slot), lv_has ls 3 [(2, .int (nI i)), (1, .int (nI cn)), (0, .ref mo)] → W p l e R s m args below meth c H locs 0 0 Q (F0 m 4 ls []) := by
    intro fu
    induction fu with
    | zero => intro cn i ec gi hfu; exact absurd hfu (Nat.not_lt_zero _)
    | succ fu ih4 =>
      intro cn i ec gi hfu H locs hP hD hS ls hl
      refine lv_iload_n hx hb dX5_squaresThatPart_4 rfl (lv_at hl 0 rfl) ?_
      refine lv_aload_n hx hb dX5_squaresThatPart_5 rfl (lv_at hl 2 rfl) ?_
      refine rk_get (ci := 5) (C := RX5) (T := TX5) (N := 13) hx hb hts iw_X5_squaresThatPart_5 hown hK hP 0 rfl rfl 0 (by decide) fl_X5_squaresThatPart_7 rfl (v := .ref mA) rfl dX5_squaresThatPart_6 ?_
      refine lv_iconst (v := nI 0) hx hb dX5_squaresThatPart_9 (by decide) ?_
      refine rk_iald hx hb hK hP 1 rfl (by omega) (by omega) (v := nI n) (by exact gA0) dX5_squaresThatPart_10 ?_
      refine rk_geN (tgt := 36) hx hb (by omega) (by omega) dX5_squaresThatPart_11 (by decide) (fun zc11 => ?_) (fun zc11 => ?_)
      · refine lv_iload_n hx hb dX5_squaresThatPart_36 rfl (lv_at hl 1 rfl) ?_
        exact ret_i hQ hx hb hr hlocks (hP.sub [0, 1] rfl) (hD.sub [0, 1] (by decide) rfl) hS dX5_squaresThatPart_37 (by obtain rfl : n = i := (by omega); rw [ec])
      · refine lv_iload_n hx hb dX5_squaresThatPart_14 rfl (lv_at hl 1 rfl) ?_
        refine lv_aload_n hx hb dX5_squaresThatPart_15 rfl (lv_at hl 2 rfl) ?_
        refine lv_iload_n hx hb dX5_squaresThatPart_16 rfl (lv_at hl 0 rfl) ?_
        refine kV_i (E := E) (As := [.int (nI i)]) (rest := [.int (nI cn)]) (wr := []) ⟨hx, hb, hml, hown, hts⟩ (c_X5_morePieces (l := l) (E := E) (sz := _) (mo := mo) (mA := mA) (mK := mK) (mH := mH) (mS := mS) (mV := mV) (mF := mF) (mP := mP) (mR := mR) (hy := hy) (pl := pl) (sp := sp) (nu := nu) (rm := rm) (n := n) (k := k) (Al := Al) (x := i) (gA0 := by first | assumption | omega) (gn := by first | assumption | omega) (gA1 := by first | assumption | omega) (gk := by first | assumption | omega) (gok := by first | assumption | omega) (gx := by first | assumption | omega)) (cwV 1 hts gX5_squaresThatPart_X5_morePieces rfl rfl rfl (by decide +kernel) ⟨by rw [hR]; decide, by rw [hR]; decide⟩) hK hN hP hD hS hA [0, 1] [] rfl (by decide) rfl (by decide) (by decide) 0 5 rfl rfl rfl hl.1 rfl (Nat.le_of_ble_eq_true rfl) dX5_squaresThatPart_17 ⟨Nat.zero_le _, Nat.zero_le _⟩ (fun H locs hP hD hS => ?_)
        have hP : va_P E.1 vwCl [(mo, .inr (5, [.ref mA, .ref mK, .ref mH, .int hy, .ref mS, .ref mV, .ref mF, .ref mP, .int pl, .int sp, .int nu, .ref mR, .int rm])), (mA, aI E 92 Al)] H := hP
        have hD : va_D A [(mo, .inr (5, [.ref mA, .ref mK, .ref mH, .int hy, .ref mS, .ref mV, .ref mF, .ref mP, .int pl, .int sp, .int nu, .ref mR, .int rm])), (mA, aI E 92 Al)] := hD
        refine lv_if_le (tgt := 27) hx hb dX5_squaresThatPart_20 (by decide) (fun zc20 => ?_) (fun zc20 => ?_)
        · refine lv_iconst (v := nI 0) hx hb dX5_squaresThatPart_27 (by decide) ?_
          refine rk_iaddN hx hb dX5_squaresThatPart_28 ?_
          refine lv_istore_n (lv' := [(1, .int (nI (cn + 0))), (2, .int (nI i)), (0, .ref mo)]) hx hb dX5_squaresThatPart_29 rfl hl (by decide) rfl (fun ls hl => ?_)
          refine lv_iinc (v := nI (i + 1)) (lv' := [(2, .int (nI (i + 1))), (1, .int (nI (cn + 0))), (0, .ref mo)]) hx hb dX5_squaresThatPart_30 hl (k := 1) rfl (by rw [show Int32.ofInt 1 = nI 1 by decide]; exact nI_add _ _) (by decide) rfl (fun ls hl => ?_)
          refine lv_goto (tgt := 4) hx hb dX5_squaresThatPart_33 (by decide) ?_
          exact ih4 (cn + 0) (i + 1) (by subst ec; simp only [pSq]; exact (if_pos zc20).symm) (by first | assumption | omega | rfl) (by omega) _ _ (hP.sub [0, 1] rfl) (hD.sub [0, 1] (by decide) rfl) hS ls (lv_sub hl [0, 1, 2] rfl)
        · refine lv_iconst (v := nI 1) hx hb dX5_squaresThatPart_23 (by decide) ?_
          refine lv_goto (tgt := 28) hx hb dX5_squaresThatPart_24 (by decide) ?_
          refine rk_iaddN hx hb dX5_squaresThatPart_28 ?_
          refine lv_istore_n (lv' := [(1, .int (nI (cn + 1))), (2, .int (nI i)), (0, .ref mo)]) hx hb dX5_squaresThatPart_29 rfl hl (by decide) rfl (fun ls hl => ?_)
          refine lv_iinc (v := nI (i + 1)) (lv' := [(2, .int (nI (i + 1))), (1, .int (nI (cn + 1))), (0, .ref mo)]) hx hb dX5_squaresThatPart_30 hl (k := 1) rfl (by rw [show Int32.ofInt 1 = nI 1 by decide]; exact nI_add _ _) (by decide) rfl (fun ls hl => ?_)
          refine lv_goto (tgt := 4) hx hb dX5_squaresThatPart_33 (by decide) ?_
          exact ih4 (cn + 1) (i + 1) (by subst ec; simp only [pSq]; exact (if_neg zc20).symm) (by first | assumption | omega | rfl) (by omega) _ _ (hP.sub [0, 1] rfl) (hD.sub [0, 1] (by decide) rfl) hS ls (lv_sub hl [0, 1, 2] rfl)
  exact L4 ((n - 0) + 1) 0 0 (rfl) (by first | assumption | omega | rfl) (Nat.lt_succ_self _) _ _ (hP.sub [0, 1] rfl) (hD.sub [0, 1] (by decide) rfl) hS ls (lv_sub hl [0, 1, 2] rfl)
set_option maxHeartbeats 400000 in
set_option maxRecDepth 100000 in
theorem c_X5_hang (l : Launch) (E : EE) (sz : Nat) (mo mA mK mH mS mV mF mP mR : Nat) (hy pl sp nu rm : Int32) (n k : Nat) (Al : Nat → Int32) (x : Nat) (y : Int32) (gA1 : Al 1 = nI k) (gk : k ≤ 30) (gok : okA Al k) (gq : x < 16) : Ci l yX5_hang wsX5_hang 3 70 E [.ref mo, .int (nI x), .int y] [(mo, .inr (5, [.ref mA, .ref mK, .ref mH, .int hy, .ref mS, .ref mV, .ref mF, .ref mP, .int pl, .int sp, .int nu, .ref mR, .int rm])), (mA, aI E 92 Al)] sz (b2i (hgM Al k x y)) [(mo, .inr (5, [.ref mA, .ref mK, .ref mH, .int hy, .ref mS, .ref mV, .ref mF, .ref mP, .int pl, .int sp, .int nu, .ref mR, .int rm])), (mA, aI E 92 Al)] := by
  refine C_of (QQ := QI E (b2i (hgM Al k x y)) [(mo, .inr (5, [.ref mA, .ref mK, .ref mH, .int hy, .ref mS, .ref mV, .ref mF, .ref mP, .int pl, .int sp, .int nu, .ref mR, .int rm])), (mA, aI E 92 Al)]) (cc := cX5_hang) (maxL := 3) (ret := (some .boolean)) (by decide +kernel) rfl (Nat.le_of_ble_eq_true rfl) ?_
  intro p e s m args below meth c A R Q ls hx hb hr hts hown hml hlocks hA hK hN hP hD hS hl hR hQ
  have hown : s.vm.findClass RX5 = some m.cls := hown
  have hl : lv_has ls 3 [(0, .ref mo), (1, .int (nI x)), (2, .int y)] := hl
  refine lv_aload_n hx hb dX5_hang_0 rfl (lv_at hl 0 rfl) ?_
  refine lv_iload_n hx hb dX5_hang_1 rfl (lv_at hl 1 rfl) ?_
  refine kV_i (E := E) (As := [.int (nI x)]) (rest := []) (wr := []) ⟨hx, hb, hml, hown, hts⟩ (c_X5_pieceOf (l := l) (E := E) (sz := _) (mo := mo) (mA := mA) (mK := mK) (mH := mH) (mS := mS) (mV := mV) (mF := mF) (mP := mP) (mR := mR) (hy := hy) (pl := pl) (sp := sp) (nu := nu) (rm := rm) (n := n) (k := k) (Al := Al) (q := x) (gA1 := by first | assumption | omega) (gk := by first | assumption | omega) (gok := by first | assumption | omega) (gq := by first | assumption | omega)) (cwV 1 hts gX5_hang_X5_pieceOf rfl rfl rfl (by decide +kernel) ⟨by rw [hR]; decide, by rw [hR]; decide⟩) hK hN hP hD hS hA [0, 1] [] rfl (by decide) rfl (by decide) (by decide) 0 5 rfl rfl rfl hl.1 rfl (Nat.le_of_ble_eq_true rfl) dX5_hang_2 ⟨Nat.zero_le _, Nat.zero_le _⟩ (fun H locs hP hD hS => ?_)
  have hP : va_P E.1 vwCl [(mo, .inr (5, [.ref mA, .ref mK, .ref mH, .int hy, .ref mS, .ref mV, .ref mF, .ref mP, .int pl, .int sp, .int nu, .ref mR, .int rm])), (mA, aI E 92 Al)] H := hP
  have hD : va_D A [(mo, .inr (5, [.ref mA, .ref mK, .ref mH, .int hy, .ref mS, .ref mV, .ref mF, .ref mP, .int pl, .int sp, .int nu, .ref mR, .int rm])), (mA, aI E 92 Al)] := hD
  refine lv_iload_n hx hb dX5_hang_5 rfl (lv_at hl 2 rfl) ?_
  refine lv_ishr hx hb dX5_hang_6 ?_
  refine lv_iconst (v := nI 1) hx hb dX5_hang_7 (by decide) ?_
  refine lv_iand hx hb dX5_hang_8 ?_
  refine lv_iconst (v := nI 1) hx hb dX5_hang_9 (by decide) ?_
  refine lv_icmp_ne (tgt := 17) hx hb dX5_hang_10 (by decide) (fun zc10 => ?_) (fun zc10 => ?_)
  · refine lv_iconst (v := nI 0) hx hb dX5_hang_17 (by decide) ?_
    exact ret_z hQ hx hb hr hlocks (hP.sub [0, 1] rfl) (hD.sub [0, 1] (by decide) rfl) hS dX5_hang_18 (nz_0) (by exact b2i_f (cnt_0 zc10))
  · refine lv_iconst (v := nI 1) hx hb dX5_hang_13 (by decide) ?_
    refine lv_goto (tgt := 18) hx hb dX5_hang_14 (by decide) ?_
    exact ret_z hQ hx hb hr hlocks (hP.sub [0, 1] rfl) (hD.sub [0, 1] (by decide) rfl) hS dX5_hang_18 (nz_1) (by exact b2i_t (cnt_1 zc10))
theorem iw_X5_musts_5 : ∀ w ∈ u_ws RX5 TX5 13, w ∈ wsX5_musts := by decide +kernel
theorem fl_X5_musts_7 : Cond.fieldLink RX5 7 (TX5 0).1 (TX5 0).2.1 (TX5 0).2.2.1 ∈ wsX5_musts := by decide +kernel
set_option maxHeartbeats 400000 in
set_option maxRecDepth 100000 in
theorem c_X5_musts (l : Launch) (E : EE) (sz : Nat) (mo mA mK mH mS mV mF mP mR : Nat) (hy pl sp nu rm : Int32) (n k : Nat) (Al : Nat → Int32) (x : Nat) (y : Int32) (gA1 : Al 1 = nI k) (gk : k ≤ 30) (gok : okA Al k) (gq : x < 16) : Ci l yX5_musts wsX5_musts 2 49 E [.ref mo, .int (nI x), .int y] [(mo, .inr (5, [.ref mA, .ref mK, .ref mH, .int hy, .ref mS, .ref mV, .ref mF, .ref mP, .int pl, .int sp, .int nu, .ref mR, .int rm])), (mA, aI E 92 Al)] sz (muM Al k x y k) [(mo, .inr (5, [.ref mA, .ref mK, .ref mH, .int hy, .ref mS, .ref mV, .ref mF, .ref mP, .int pl, .int sp, .int nu, .ref mR, .int rm])), (mA, aI E 92 Al)] := by
  refine C_of (QQ := QI E (muM Al k x y k) [(mo, .inr (5, [.ref mA, .ref mK, .ref mH, .int hy, .ref mS, .ref mV, .ref mF, .ref mP, .int pl, .int sp, .int nu, .ref mR, .int rm])), (mA, aI E 92 Al)]) (cc := cX5_musts) (maxL := 5) (ret := (some .int)) (by decide +kernel) rfl (Nat.le_of_ble_eq_true rfl) ?_
  intro p e s m args below meth c A R Q ls hx hb hr hts hown hml hlocks hA hK hN hP hD hS hl hR hQ
  have hown : s.vm.findClass RX5 = some m.cls := hown
  have hl : lv_has ls 5 [(0, .ref mo), (1, .int (nI x)), (2, .int y)] := hl
  refine lv_iconst (v := nI 0) hx hb dX5_musts_0 (by decide) ?_
  refine lv_istore_n (lv' := [(3, .int (nI 0)), (0, .ref mo), (1, .int (nI x)), (2, .int y)]) hx hb dX5_musts_1 rfl hl (by decide) rfl (fun ls hl => ?_)
  refine lv_iconst (v := nI 0) hx hb dX5_musts_2 (by decide) ?_
  refine lv_istore (lv' := [(4, .int (nI 0)), (3, .int (nI 0)), (0, .ref mo), (1, .int (nI x)), (2, .int y)]) hx hb dX5_musts_3 hl (by decide) rfl (fun ls hl => ?_)
  have L5 : ∀ (fu : Nat) (z : Int32) (i : Nat), (ez : z = muM Al k x y i) → (gi : i ≤ k) → k - i < fu → ∀ (H : Heap) (locs : List Loc), va_P E.1 vwCl [(mo, .inr (5, [.ref mA, .ref mK, .ref mH, .int hy, .ref mS, .ref mV, .ref mF, .ref mP, .int pl, .int sp, .int nu, .ref mR, .int rm])), (mA, aI E 92 Al)] H → va_D A [(mo, .inr (5, [.ref mA, .ref mK, .ref mH, .int hy, .ref mS, .ref mV, .ref mF, .ref mP, .int pl, .int sp, .int nu, .ref mR, .int rm])), (mA, aI E 92 Al)] → va_S A s.heap H locs → ∀ (ls : Array Slot), lv_has ls 5 [(4, .int (nI i)), (3, .int z), (0, .ref mo), (1, .int (nI x)), (2, .int y)] → W p l e R s m args below meth c H locs 0 0 Q (F0 m 5 ls []) := by
    intro fu
    induction fu with
    | zero => intro z i ez gi hfu; exact absurd hfu (Nat.not_lt_zero _)
    | succ fu ih5 =>
      intro z i ez gi hfu H locs hP hD hS ls hl
      refine lv_iload hx hb dX5_musts_5 (lv_at hl 0 rfl) ?_
      refine lv_aload_n hx hb dX5_musts_7 rfl (lv_at hl 2 rfl) ?_
      refine rk_get (ci := 5) (C := RX5) (T := TX5) (N := 13) hx hb hts iw_X5_musts_5 hown hK hP 0 rfl rfl 0 (by decide) fl_X5_musts_7 rfl (v := .ref mA) rfl dX5_musts_8 ?_
      refine lv_iconst (v := nI 1) hx hb dX5_musts_11 (by decide) ?_
      refine rk_iald hx hb hK hP 1 rfl (by omega) (by omega) (v := nI k) (by exact gA1) dX5_musts_12 ?_
      refine rk_geN (tgt := 51) hx hb (by omega) (by omega) dX5_musts_13 (by decide) (fun zc13 => ?_) (fun zc13 => ?_)
      · refine lv_iload_n hx hb dX5_musts_51 rfl (lv_at hl 1 rfl) ?_
        exact ret_i hQ hx hb hr hlocks (hP.sub [0, 1] rfl) (hD.sub [0, 1] (by decide) rfl) hS dX5_musts_52 (by obtain rfl : k = i := (by omega); exact ez)
      · refine lv_iload_n hx hb dX5_musts_16 rfl (lv_at hl 1 rfl) ?_
        refine lv_aload_n hx hb dX5_musts_17 rfl (lv_at hl 2 rfl) ?_
        refine lv_iload_n hx hb dX5_musts_18 rfl (lv_at hl 3 rfl) ?_
        refine lv_iconst (v := nI 1) hx hb dX5_musts_19 (by decide) ?_
        refine lv_iload hx hb dX5_musts_20 (lv_at hl 0 rfl) ?_
        refine lv_ishl hx hb dX5_musts_22 ?_
        refine lv_bipush (v := (-6)) hx hb dX5_musts_23 (by decide) ?_
        refine kV_i (E := E) (As := [.int (nI x), .int ((nI 1) <<< ((nI i) &&& 31)), .int ((-6))]) (rest := [.int z]) (wr := []) ⟨hx, hb, hml, hown, hts⟩ (c_X5_reach (l := l) (E := E) (sz := _) (mo := mo) (mA := mA) (mK := mK) (mH := mH) (mS := mS) (mV := mV) (mF := mF) (mP := mP) (mR := mR) (hy := hy) (pl := pl) (sp := sp) (nu := nu) (rm := rm) (n := n) (k := k) (Al := Al) (q := x) (w := (nI 1) <<< ((nI i) &&& 31)) (z := (-6)) (gA1 := by first | assumption | omega) (gk := by first | assumption | omega) (gok := by first | assumption | omega) (gq := by first | assumption | omega)) (cwV 3 hts gX5_musts_X5_reach rfl rfl rfl (by decide +kernel) ⟨by rw [hR]; decide, by rw [hR]; decide⟩) hK hN hP hD hS hA [0, 1] [] rfl (by decide) rfl (by decide) (by decide) 0 5 rfl rfl rfl hl.1 rfl (Nat.le_of_ble_eq_true rfl) dX5_musts_25 ⟨Nat.zero_le _, Nat.zero_le _⟩ (fun H locs hP hD hS => ?_)
        have hP : va_P E.1 vwCl [(mo, .inr (5, [.ref mA, .ref mK, .ref mH, .int hy, .ref mS, .ref mV, .ref mF, .ref mP, .int pl, .int sp, .int nu, .ref mR, .int rm])), (mA, aI E 92 Al)] H := hP
        have hD : va_D A [(mo, .inr (5, [.ref mA, .ref mK, .ref mH, .int hy, .ref mS, .ref mV, .ref mF, .ref mP, .int pl, .int sp, .int nu, .ref mR, .int rm])), (mA, aI E 92 Al)] := hD
        refine lv_iload_n hx hb dX5_musts_28 rfl (lv_at hl 4 rfl) ?_
        refine lv_ishr hx hb dX5_musts_29 ?_
        refine lv_iconst (v := nI 1) hx hb dX5_musts_30 (by decide) ?_
        refine lv_iand hx hb dX5_musts_31 ?_
        refine lv_if_ne (tgt := 42) hx hb dX5_musts_32 (by decide) (fun zc32 => ?_) (fun zc32 => ?_)
        · refine lv_iconst (v := nI 0) hx hb dX5_musts_42 (by decide) ?_
          refine lv_ior hx hb dX5_musts_43 ?_
          refine lv_istore_n (lv' := [(3, .int (z ||| (nI 0))), (4, .int (nI i)), (0, .ref mo), (1, .int (nI x)), (2, .int y)]) hx hb dX5_musts_44 rfl hl (by decide) rfl (fun ls hl => ?_)
          refine lv_iinc (v := nI (i + 1)) (lv' := [(4, .int (nI (i + 1))), (3, .int (z ||| (nI 0))), (0, .ref mo), (1, .int (nI x)), (2, .int y)]) hx hb dX5_musts_45 hl (k := 1) rfl (by rw [show Int32.ofInt 1 = nI 1 by decide]; exact nI_add _ _) (by decide) rfl (fun ls hl => ?_)
          refine lv_goto (tgt := 5) hx hb dX5_musts_48 (by decide) ?_
          exact ih5 (z ||| (nI 0)) (i + 1) (by subst ez; simp only [muM, or_z]; exact (if_pos (cnt_t zc32)).symm) (by first | assumption | omega | rfl) (by omega) _ _ (hP.sub [0, 1] rfl) (hD.sub [0, 1] (by decide) rfl) hS ls (lv_sub hl [0, 1, 2, 3, 4] rfl)
        · refine lv_iconst (v := nI 1) hx hb dX5_musts_35 (by decide) ?_
          refine lv_iload hx hb dX5_musts_36 (lv_at hl 0 rfl) ?_
          refine lv_ishl hx hb dX5_musts_38 ?_
          refine lv_goto (tgt := 43) hx hb dX5_musts_39 (by decide) ?_
          refine lv_ior hx hb dX5_musts_43 ?_
          refine lv_istore_n (lv' := [(3, .int (z ||| ((nI 1) <<< ((nI i) &&& 31)))), (4, .int (nI i)), (0, .ref mo), (1, .int (nI x)), (2, .int y)]) hx hb dX5_musts_44 rfl hl (by decide) rfl (fun ls hl => ?_)
          refine lv_iinc (v := nI (i + 1)) (lv' := [(4, .int (nI (i + 1))), (3, .int (z ||| ((nI 1) <<< ((nI i) &&& 31)))), (0, .ref mo), (1, .int (nI x)), (2, .int y)]) hx hb dX5_musts_45 hl (k := 1) rfl (by rw [show Int32.ofInt 1 = nI 1 by decide]; exact nI_add _ _) (by decide) rfl (fun ls hl => ?_)
          refine lv_goto (tgt := 5) hx hb dX5_musts_48 (by decide) ?_
          exact ih5 (z ||| ((nI 1) <<< ((nI i) &&& 31))) (i + 1) (by subst ez; simp only [muM]; exact (if_neg (by rw [cnt_f zc32]; decide)).symm) (by first | assumption | omega | rfl) (by omega) _ _ (hP.sub [0, 1] rfl) (hD.sub [0, 1] (by decide) rfl) hS ls (lv_sub hl [0, 1, 2, 3, 4] rfl)
  exact L5 ((k - 0) + 1) (nI 0) 0 (rfl) (by first | assumption | omega | rfl) (Nat.lt_succ_self _) _ _ (hP.sub [0, 1] rfl) (hD.sub [0, 1] (by decide) rfl) hS ls (lv_sub hl [0, 1, 2, 3, 4] rfl)
