set_option maxHeartbeats 400000 in
set_option maxRecDepth 100000 in
theorem c_X5_road_bad (l : Launch) (E : EE) (sz : Nat) (mo mA mK mH mS mV mF mP mR : Nat) (hy pl sp nu rm : Int32) (n k : Nat) (Al : Nat → Int32) (x w : Int32) (gA1 : Al 1 = nI k) (gk : k ≤ 30) (gb : inR x (nI k) = false) : Ci l yX5_road wsX5_road 2 46 E [.ref mo, .int x, .int w] [(mo, .inr (5, [.ref mA, .ref mK, .ref mH, .int hy, .ref mS, .ref mV, .ref mF, .ref mP, .int pl, .int sp, .int nu, .ref mR, .int rm])), (mA, aI E 92 Al)] sz (-1) [(mo, .inr (5, [.ref mA, .ref mK, .ref mH, .int hy, .ref mS, .ref mV, .ref mF, .ref mP, .int pl, .int sp, .int nu, .ref mR, .int rm])), (mA, aI E 92 Al)] := by
  refine C_of (QQ := QI E (-1) [(mo, .inr (5, [.ref mA, .ref mK, .ref mH, .int hy, .ref mS, .ref mV, .ref mF, .ref mP, .int pl, .int sp, .int nu, .ref mR, .int rm])), (mA, aI E 92 Al)]) (cc := cX5_road) (maxL := 3) (ret := (some .int)) (by decide +kernel) rfl (Nat.le_of_ble_eq_true rfl) ?_
  intro p e s m args below meth c A R Q ls hx hb hr hts hown hml hlocks hA hK hN hP hD hS hl hR hQ
  have hown : s.vm.findClass RX5 = some m.cls := hown
  have hl : lv_has ls 3 [(0, .ref mo), (1, .int x), (2, .int w)] := hl
  refine lv_aload_n hx hb dX5_road_0 rfl (lv_at hl 0 rfl) ?_
  refine lv_iload_n hx hb dX5_road_1 rfl (lv_at hl 1 rfl) ?_
  refine kV_i (E := E) (As := [.int x]) (rest := []) (wr := []) ⟨hx, hb, hml, hown, hts⟩ (c_X5_isRoad (l := l) (E := E) (sz := _) (mo := mo) (mA := mA) (mK := mK) (mH := mH) (mS := mS) (mV := mV) (mF := mF) (mP := mP) (mR := mR) (hy := hy) (pl := pl) (sp := sp) (nu := nu) (rm := rm) (n := n) (k := k) (Al := Al) (x := x) (gA1 := by first | assumption | omega) (gk := by first | assumption | omega)) (cwV 1 hts gX5_road_X5_isRoad rfl rfl rfl (by decide +kernel) ⟨by rw [hR]; decide, by rw [hR]; decide⟩) hK hN hP hD hS hA [0, 1] [] rfl (by decide) rfl (by decide) (by decide) 0 5 rfl rfl rfl hl.1 rfl (Nat.le_of_ble_eq_true rfl) dX5_road_2 ⟨Nat.zero_le _, Nat.zero_le _⟩ (fun H locs hP hD hS => ?_)
  have hP : va_P E.1 vwCl [(mo, .inr (5, [.ref mA, .ref mK, .ref mH, .int hy, .ref mS, .ref mV, .ref mF, .ref mP, .int pl, .int sp, .int nu, .ref mR, .int rm])), (mA, aI E 92 Al)] H := hP
  have hD : va_D A [(mo, .inr (5, [.ref mA, .ref mK, .ref mH, .int hy, .ref mS, .ref mV, .ref mF, .ref mP, .int pl, .int sp, .int nu, .ref mR, .int rm])), (mA, aI E 92 Al)] := hD
  refine rk_if_neB (tgt := 10) hx hb dX5_road_5 (by decide) (fun q => absurd q (by rw [gb]; decide)) (fun zc5 => ?_)
  refine lv_iconst (v := (-1)) hx hb dX5_road_8 (by decide) ?_
  exact ret_i hQ hx hb hr hlocks (hP.sub [0, 1] rfl) (hD.sub [0, 1] (by decide) rfl) hS dX5_road_9 (rfl)
theorem iw_X5_road_5 : ∀ w ∈ u_ws RX5 TX5 13, w ∈ wsX5_road := by decide +kernel
theorem fl_X5_road_7 : Cond.fieldLink RX5 7 (TX5 0).1 (TX5 0).2.1 (TX5 0).2.2.1 ∈ wsX5_road := by decide +kernel
set_option maxHeartbeats 400000 in
set_option maxRecDepth 100000 in
theorem c_X5_road_ok (l : Launch) (E : EE) (sz : Nat) (mo mA mK mH mS mV mF mP mR : Nat) (hy pl sp nu rm : Int32) (n k : Nat) (Al : Nat → Int32) (r : Nat) (w : Int32) (F : Nat → Int32) (gA1 : Al 1 = nI k) (gk : k ≤ 30) (gok : okA Al k) (gr : r < k) : Ci l yX5_road wsX5_road 4 91 E [.ref mo, .int (nI r), .int w] [(mo, .inr (5, [.ref mA, .ref mK, .ref mH, .int hy, .ref mS, .ref mV, .ref mF, .ref mP, .int pl, .int sp, .int nu, .ref mR, .int rm])), (mA, aI E 92 Al), (mF, aI E 16 F)] sz (swl w [nI (mlo Al r), nI (mhi Al r), Al (62 + r), b2i (ptM Al k r), lrM ((farM Al (nI 1 <<< (nI r &&& 31)) false F k (mlo Al r)) (mhi Al r)), nI (plM Al k r)] 0) [(mo, .inr (5, [.ref mA, .ref mK, .ref mH, .int hy, .ref mS, .ref mV, .ref mF, .ref mP, .int pl, .int sp, .int nu, .ref mR, .int rm])), (mA, aI E 92 Al), (mF, aI E 16 (if w = nI 4 then (farM Al (nI 1 <<< (nI r &&& 31)) false F k (mlo Al r)) else F))] := by
  refine C_of (QQ := QI E (swl w [nI (mlo Al r), nI (mhi Al r), Al (62 + r), b2i (ptM Al k r), lrM ((farM Al (nI 1 <<< (nI r &&& 31)) false F k (mlo Al r)) (mhi Al r)), nI (plM Al k r)] 0) [(mo, .inr (5, [.ref mA, .ref mK, .ref mH, .int hy, .ref mS, .ref mV, .ref mF, .ref mP, .int pl, .int sp, .int nu, .ref mR, .int rm])), (mA, aI E 92 Al), (mF, aI E 16 (if w = nI 4 then (farM Al (nI 1 <<< (nI r &&& 31)) false F k (mlo Al r)) else F))]) (cc := cX5_road) (maxL := 3) (ret := (some .int)) (by decide +kernel) rfl (Nat.le_of_ble_eq_true rfl) ?_
  intro p e s m args below meth c A R Q ls hx hb hr hts hown hml hlocks hA hK hN hP hD hS hl hR hQ
  have hown : s.vm.findClass RX5 = some m.cls := hown
  have hl : lv_has ls 3 [(0, .ref mo), (1, .int (nI r)), (2, .int w)] := hl
  refine lv_aload_n hx hb dX5_road_0 rfl (lv_at hl 0 rfl) ?_
  refine lv_iload_n hx hb dX5_road_1 rfl (lv_at hl 1 rfl) ?_
  refine kV_i (E := E) (As := [.int (nI r)]) (rest := []) (wr := [(mF, aI E 16 F)]) ⟨hx, hb, hml, hown, hts⟩ (c_X5_isRoad (l := l) (E := E) (sz := _) (mo := mo) (mA := mA) (mK := mK) (mH := mH) (mS := mS) (mV := mV) (mF := mF) (mP := mP) (mR := mR) (hy := hy) (pl := pl) (sp := sp) (nu := nu) (rm := rm) (n := n) (k := k) (Al := Al) (x := nI r) (gA1 := by first | assumption | omega) (gk := by first | assumption | omega)) (cwV 1 hts gX5_road_X5_isRoad rfl rfl rfl (by decide +kernel) ⟨by rw [hR]; decide, by rw [hR]; decide⟩) hK hN hP hD hS hA [0, 1] [2] rfl (by decide) rfl (by decide) (by decide) 0 5 rfl rfl rfl hl.1 rfl (Nat.le_of_ble_eq_true rfl) dX5_road_2 ⟨Nat.zero_le _, Nat.zero_le _⟩ (fun H locs hP hD hS => ?_)
  have hP : va_P E.1 vwCl [(mF, aI E 16 F), (mo, .inr (5, [.ref mA, .ref mK, .ref mH, .int hy, .ref mS, .ref mV, .ref mF, .ref mP, .int pl, .int sp, .int nu, .ref mR, .int rm])), (mA, aI E 92 Al)] H := hP
  have hD : va_D A [(mF, aI E 16 F), (mo, .inr (5, [.ref mA, .ref mK, .ref mH, .int hy, .ref mS, .ref mV, .ref mF, .ref mP, .int pl, .int sp, .int nu, .ref mR, .int rm])), (mA, aI E 92 Al)] := hD
  refine rk_if_neB (tgt := 10) hx hb dX5_road_5 (by decide) (fun zc5 => ?_) (fun q => absurd q (by rw [inR_ok gr (by omega)]; decide))
  refine lv_iload_n hx hb dX5_road_10 rfl (lv_at hl 2 rfl) ?_
  by_cases w11_0 : w = nI 0
  · subst w11_0
    refine lv_tableIn (tgt := 48) hx hb dX5_road_11 (by decide) (by decide) rfl (by decide) ?_
    refine lv_aload_n hx hb dX5_road_48 rfl (lv_at hl 0 rfl) ?_
    refine rk_get (ci := 5) (C := RX5) (T := TX5) (N := 13) hx hb hts iw_X5_road_5 hown hK hP 1 rfl rfl 0 (by decide) fl_X5_road_7 rfl (v := .ref mA) rfl dX5_road_49 ?_
    refine lv_iconst (v := nI 2) hx hb dX5_road_52 (by decide) ?_
    refine lv_iload_n hx hb dX5_road_53 rfl (lv_at hl 1 rfl) ?_
    refine rk_iaddN hx hb dX5_road_54 ?_
    refine rk_iald hx hb hK hP 2 rfl (by omega) (by omega) (v := nI (mlo Al r)) ((gok r (by omega)).1) dX5_road_55 ?_
    have hP9 : va_P E.1 vwCl [(mo, .inr (5, [.ref mA, .ref mK, .ref mH, .int hy, .ref mS, .ref mV, .ref mF, .ref mP, .int pl, .int sp, .int nu, .ref mR, .int rm])), (mA, aI E 92 Al), (mF, aI E 16 F)] _ := hP.sub [1, 2, 0] rfl
    have hD9 : va_D A [(mo, .inr (5, [.ref mA, .ref mK, .ref mH, .int hy, .ref mS, .ref mV, .ref mF, .ref mP, .int pl, .int sp, .int nu, .ref mR, .int rm])), (mA, aI E 92 Al), (mF, aI E 16 F)] := hD.sub [1, 2, 0] (by decide) rfl
    have hW9 : ([(mo, .inr (5, [.ref mA, .ref mK, .ref mH, .int hy, .ref mS, .ref mV, .ref mF, .ref mP, .int pl, .int sp, .int nu, .ref mR, .int rm])), (mA, aI E 92 Al), (mF, aI E 16 F)] : va_W) = [(mo, .inr (5, [.ref mA, .ref mK, .ref mH, .int hy, .ref mS, .ref mV, .ref mF, .ref mP, .int pl, .int sp, .int nu, .ref mR, .int rm])), (mA, aI E 92 Al), (mF, aI E 16 (if (nI 0) = nI 4 then (farM Al (nI 1 <<< (nI r &&& 31)) false F k (mlo Al r)) else F))] := by rw [if_neg (by decide)]
    rw [hW9] at hP9 hD9
    exact ret_i hQ hx hb hr hlocks hP9 hD9 hS dX5_road_56 (by rw [swl_0 (by decide)])
  by_cases w11_1 : w = nI 1
  · subst w11_1
    refine lv_tableIn (tgt := 57) hx hb dX5_road_11 (by decide) (by decide) rfl (by decide) ?_
    refine lv_aload_n hx hb dX5_road_57 rfl (lv_at hl 0 rfl) ?_
    refine rk_get (ci := 5) (C := RX5) (T := TX5) (N := 13) hx hb hts iw_X5_road_5 hown hK hP 1 rfl rfl 0 (by decide) fl_X5_road_7 rfl (v := .ref mA) rfl dX5_road_58 ?_
    refine lv_bipush (v := nI 32) hx hb dX5_road_61 (by decide) ?_
    refine lv_iload_n hx hb dX5_road_63 rfl (lv_at hl 1 rfl) ?_
    refine rk_iaddN hx hb dX5_road_64 ?_
    refine rk_iald hx hb hK hP 2 rfl (by omega) (by omega) (v := nI (mhi Al r)) ((gok r (by omega)).2.2.1) dX5_road_65 ?_
    have hP9 : va_P E.1 vwCl [(mo, .inr (5, [.ref mA, .ref mK, .ref mH, .int hy, .ref mS, .ref mV, .ref mF, .ref mP, .int pl, .int sp, .int nu, .ref mR, .int rm])), (mA, aI E 92 Al), (mF, aI E 16 F)] _ := hP.sub [1, 2, 0] rfl
    have hD9 : va_D A [(mo, .inr (5, [.ref mA, .ref mK, .ref mH, .int hy, .ref mS, .ref mV, .ref mF, .ref mP, .int pl, .int sp, .int nu, .ref mR, .int rm])), (mA, aI E 92 Al), (mF, aI E 16 F)] := hD.sub [1, 2, 0] (by decide) rfl
    have hW9 : ([(mo, .inr (5, [.ref mA, .ref mK, .ref mH, .int hy, .ref mS, .ref mV, .ref mF, .ref mP, .int pl, .int sp, .int nu, .ref mR, .int rm])), (mA, aI E 92 Al), (mF, aI E 16 F)] : va_W) = [(mo, .inr (5, [.ref mA, .ref mK, .ref mH, .int hy, .ref mS, .ref mV, .ref mF, .ref mP, .int pl, .int sp, .int nu, .ref mR, .int rm])), (mA, aI E 92 Al), (mF, aI E 16 (if (nI 1) = nI 4 then (farM Al (nI 1 <<< (nI r &&& 31)) false F k (mlo Al r)) else F))] := by rw [if_neg (by decide)]
    rw [hW9] at hP9 hD9
    exact ret_i hQ hx hb hr hlocks hP9 hD9 hS dX5_road_66 (by rw [swl_s (by decide), swl_0 (by decide)])
  by_cases w11_2 : w = nI 2
  · subst w11_2
    refine lv_tableIn (tgt := 67) hx hb dX5_road_11 (by decide) (by decide) rfl (by decide) ?_
    refine lv_aload_n hx hb dX5_road_67 rfl (lv_at hl 0 rfl) ?_
    refine rk_get (ci := 5) (C := RX5) (T := TX5) (N := 13) hx hb hts iw_X5_road_5 hown hK hP 1 rfl rfl 0 (by decide) fl_X5_road_7 rfl (v := .ref mA) rfl dX5_road_68 ?_
    refine lv_bipush (v := nI 62) hx hb dX5_road_71 (by decide) ?_
    refine lv_iload_n hx hb dX5_road_73 rfl (lv_at hl 1 rfl) ?_
    refine rk_iaddN hx hb dX5_road_74 ?_
    refine rk_iald hx hb hK hP 2 rfl (by omega) (by omega) (v := Al (62 + r)) (rfl) dX5_road_75 ?_
    have hP9 : va_P E.1 vwCl [(mo, .inr (5, [.ref mA, .ref mK, .ref mH, .int hy, .ref mS, .ref mV, .ref mF, .ref mP, .int pl, .int sp, .int nu, .ref mR, .int rm])), (mA, aI E 92 Al), (mF, aI E 16 F)] _ := hP.sub [1, 2, 0] rfl
    have hD9 : va_D A [(mo, .inr (5, [.ref mA, .ref mK, .ref mH, .int hy, .ref mS, .ref mV, .ref mF, .ref mP, .int pl, .int sp, .int nu, .ref mR, .int rm])), (mA, aI E 92 Al), (mF, aI E 16 F)] := hD.sub [1, 2, 0] (by decide) rfl
    have hW9 : ([(mo, .inr (5, [.ref mA, .ref mK, .ref mH, .int hy, .ref mS, .ref mV, .ref mF, .ref mP, .int pl, .int sp, .int nu, .ref mR, .int rm])), (mA, aI E 92 Al), (mF, aI E 16 F)] : va_W) = [(mo, .inr (5, [.ref mA, .ref mK, .ref mH, .int hy, .ref mS, .ref mV, .ref mF, .ref mP, .int pl, .int sp, .int nu, .ref mR, .int rm])), (mA, aI E 92 Al), (mF, aI E 16 (if (nI 2) = nI 4 then (farM Al (nI 1 <<< (nI r &&& 31)) false F k (mlo Al r)) else F))] := by rw [if_neg (by decide)]
    rw [hW9] at hP9 hD9
    exact ret_i hQ hx hb hr hlocks hP9 hD9 hS dX5_road_76 (by rw [swl_s (by decide), swl_s (by decide), swl_0 (by decide)])
  by_cases w11_3 : w = nI 3
  · subst w11_3
    refine lv_tableIn (tgt := 77) hx hb dX5_road_11 (by decide) (by decide) rfl (by decide) ?_
    refine lv_aload_n hx hb dX5_road_77 rfl (lv_at hl 0 rfl) ?_
    refine lv_iload_n hx hb dX5_road_78 rfl (lv_at hl 1 rfl) ?_
    refine kV_i (E := E) (As := [.int (nI r)]) (rest := []) (wr := [(mF, aI E 16 F)]) ⟨hx, hb, hml, hown, hts⟩ (c_X5_parts (l := l) (E := E) (sz := _) (mo := mo) (mA := mA) (mK := mK) (mH := mH) (mS := mS) (mV := mV) (mF := mF) (mP := mP) (mR := mR) (hy := hy) (pl := pl) (sp := sp) (nu := nu) (rm := rm) (n := n) (k := k) (Al := Al) (r := r) (gA1 := by first | assumption | omega) (gk := by first | assumption | omega) (gok := by first | assumption | omega) (gr := by first | assumption | omega)) (cwV 1 hts gX5_road_X5_parts rfl rfl rfl (by decide +kernel) ⟨by rw [hR]; decide, by rw [hR]; decide⟩) hK hN hP hD hS hA [1, 2] [0] rfl (by decide) rfl (by decide) (by decide) 1 5 rfl rfl rfl hl.1 rfl (Nat.le_of_ble_eq_true rfl) dX5_road_79 ⟨Nat.zero_le _, Nat.zero_le _⟩ (fun H locs hP hD hS => ?_)
    have hP : va_P E.1 vwCl [(mF, aI E 16 F), (mo, .inr (5, [.ref mA, .ref mK, .ref mH, .int hy, .ref mS, .ref mV, .ref mF, .ref mP, .int pl, .int sp, .int nu, .ref mR, .int rm])), (mA, aI E 92 Al)] H := hP
    have hD : va_D A [(mF, aI E 16 F), (mo, .inr (5, [.ref mA, .ref mK, .ref mH, .int hy, .ref mS, .ref mV, .ref mF, .ref mP, .int pl, .int sp, .int nu, .ref mR, .int rm])), (mA, aI E 92 Al)] := hD
    refine rk_if_eqB (tgt := 89) hx hb dX5_road_82 (by decide) (fun zc82 => ?_) (fun zc82 => ?_)
    · refine lv_iconst (v := nI 0) hx hb dX5_road_89 (by decide) ?_
      have hP9 : va_P E.1 vwCl [(mo, .inr (5, [.ref mA, .ref mK, .ref mH, .int hy, .ref mS, .ref mV, .ref mF, .ref mP, .int pl, .int sp, .int nu, .ref mR, .int rm])), (mA, aI E 92 Al), (mF, aI E 16 F)] _ := hP.sub [1, 2, 0] rfl
      have hD9 : va_D A [(mo, .inr (5, [.ref mA, .ref mK, .ref mH, .int hy, .ref mS, .ref mV, .ref mF, .ref mP, .int pl, .int sp, .int nu, .ref mR, .int rm])), (mA, aI E 92 Al), (mF, aI E 16 F)] := hD.sub [1, 2, 0] (by decide) rfl
      have hW9 : ([(mo, .inr (5, [.ref mA, .ref mK, .ref mH, .int hy, .ref mS, .ref mV, .ref mF, .ref mP, .int pl, .int sp, .int nu, .ref mR, .int rm])), (mA, aI E 92 Al), (mF, aI E 16 F)] : va_W) = [(mo, .inr (5, [.ref mA, .ref mK, .ref mH, .int hy, .ref mS, .ref mV, .ref mF, .ref mP, .int pl, .int sp, .int nu, .ref mR, .int rm])), (mA, aI E 92 Al), (mF, aI E 16 (if (nI 3) = nI 4 then (farM Al (nI 1 <<< (nI r &&& 31)) false F k (mlo Al r)) else F))] := by rw [if_neg (by decide)]
      rw [hW9] at hP9 hD9
      exact ret_i hQ hx hb hr hlocks hP9 hD9 hS dX5_road_90 (by rw [swl_s (by decide), swl_s (by decide), swl_s (by decide), swl_0 (by decide)]; exact b2i_f zc82)
    · refine lv_iconst (v := nI 1) hx hb dX5_road_85 (by decide) ?_
      refine lv_goto (tgt := 90) hx hb dX5_road_86 (by decide) ?_
      have hP9 : va_P E.1 vwCl [(mo, .inr (5, [.ref mA, .ref mK, .ref mH, .int hy, .ref mS, .ref mV, .ref mF, .ref mP, .int pl, .int sp, .int nu, .ref mR, .int rm])), (mA, aI E 92 Al), (mF, aI E 16 F)] _ := hP.sub [1, 2, 0] rfl
      have hD9 : va_D A [(mo, .inr (5, [.ref mA, .ref mK, .ref mH, .int hy, .ref mS, .ref mV, .ref mF, .ref mP, .int pl, .int sp, .int nu, .ref mR, .int rm])), (mA, aI E 92 Al), (mF, aI E 16 F)] := hD.sub [1, 2, 0] (by decide) rfl
      have hW9 : ([(mo, .inr (5, [.ref mA, .ref mK, .ref mH, .int hy, .ref mS, .ref mV, .ref mF, .ref mP, .int pl, .int sp, .int nu, .ref mR, .int rm])), (mA, aI E 92 Al), (mF, aI E 16 F)] : va_W) = [(mo, .inr (5, [.ref mA, .ref mK, .ref mH, .int hy, .ref mS, .ref mV, .ref mF, .ref mP, .int pl, .int sp, .int nu, .ref mR, .int rm])), (mA, aI E 92 Al), (mF, aI E 16 (if (nI 3) = nI 4 then (farM Al (nI 1 <<< (nI r &&& 31)) false F k (mlo Al r)) else F))] := by rw [if_neg (by decide)]
      rw [hW9] at hP9 hD9
      exact ret_i hQ hx hb hr hlocks hP9 hD9 hS dX5_road_90 (by rw [swl_s (by decide), swl_s (by decide), swl_s (by decide), swl_0 (by decide)]; exact b2i_t zc82)
  by_cases w11_4 : w = nI 4
  · subst w11_4
    refine lv_tableIn (tgt := 91) hx hb dX5_road_11 (by decide) (by decide) rfl (by decide) ?_
    refine lv_aload_n hx hb dX5_road_91 rfl (lv_at hl 0 rfl) ?_
    refine lv_iload_n hx hb dX5_road_92 rfl (lv_at hl 1 rfl) ?_
    refine kV_i (E := E) (As := [.int (nI r)]) (rest := []) (wr := []) ⟨hx, hb, hml, hown, hts⟩ (c_X5_leastRing (l := l) (E := E) (sz := _) (mo := mo) (mA := mA) (mK := mK) (mH := mH) (mS := mS) (mV := mV) (mF := mF) (mP := mP) (mR := mR) (hy := hy) (pl := pl) (sp := sp) (nu := nu) (rm := rm) (n := n) (k := k) (Al := Al) (r := r) (F := F) (gA1 := by first | assumption | omega) (gk := by first | assumption | omega) (gok := by first | assumption | omega) (gr := by first | assumption | omega)) (cwV 1 hts gX5_road_X5_leastRing rfl rfl rfl (by decide +kernel) ⟨by rw [hR]; decide, by rw [hR]; decide⟩) hK hN hP hD hS hA [1, 2, 0] [] rfl (by decide) rfl (by decide) (by decide) 1 5 rfl rfl rfl hl.1 rfl (Nat.le_of_ble_eq_true rfl) dX5_road_93 ⟨Nat.zero_le _, Nat.zero_le _⟩ (fun H locs hP hD hS => ?_)
    have hP : va_P E.1 vwCl [(mo, .inr (5, [.ref mA, .ref mK, .ref mH, .int hy, .ref mS, .ref mV, .ref mF, .ref mP, .int pl, .int sp, .int nu, .ref mR, .int rm])), (mA, aI E 92 Al), (mF, aI E 16 (farM Al (nI 1 <<< (nI r &&& 31)) false F k (mlo Al r)))] H := hP
    have hD : va_D A [(mo, .inr (5, [.ref mA, .ref mK, .ref mH, .int hy, .ref mS, .ref mV, .ref mF, .ref mP, .int pl, .int sp, .int nu, .ref mR, .int rm])), (mA, aI E 92 Al), (mF, aI E 16 (farM Al (nI 1 <<< (nI r &&& 31)) false F k (mlo Al r)))] := hD
    have hP9 : va_P E.1 vwCl [(mo, .inr (5, [.ref mA, .ref mK, .ref mH, .int hy, .ref mS, .ref mV, .ref mF, .ref mP, .int pl, .int sp, .int nu, .ref mR, .int rm])), (mA, aI E 92 Al), (mF, aI E 16 (farM Al (nI 1 <<< (nI r &&& 31)) false F k (mlo Al r)))] _ := hP.sub [0, 1, 2] rfl
    have hD9 : va_D A [(mo, .inr (5, [.ref mA, .ref mK, .ref mH, .int hy, .ref mS, .ref mV, .ref mF, .ref mP, .int pl, .int sp, .int nu, .ref mR, .int rm])), (mA, aI E 92 Al), (mF, aI E 16 (farM Al (nI 1 <<< (nI r &&& 31)) false F k (mlo Al r)))] := hD.sub [0, 1, 2] (by decide) rfl
    have hW9 : ([(mo, .inr (5, [.ref mA, .ref mK, .ref mH, .int hy, .ref mS, .ref mV, .ref mF, .ref mP, .int pl, .int sp, .int nu, .ref mR, .int rm])), (mA, aI E 92 Al), (mF, aI E 16 (farM Al (nI 1 <<< (nI r &&& 31)) false F k (mlo Al r)))] : va_W) = [(mo, .inr (5, [.ref mA, .ref mK, .ref mH, .int hy, .ref mS, .ref mV, .ref mF, .ref mP, .int pl, .int sp, .int nu, .ref mR, .int rm])), (mA, aI E 92 Al), (mF, aI E 16 (if (nI 4) = nI 4 then (farM Al (nI 1 <<< (nI r &&& 31)) false F k (mlo Al r)) else F))] := by rw [if_pos (by decide)]
    rw [hW9] at hP9 hD9
    exact ret_i hQ hx hb hr hlocks hP9 hD9 hS dX5_road_96 (by rw [swl_s (by decide), swl_s (by decide), swl_s (by decide), swl_s (by decide), swl_0 (by decide)])
  by_cases w11_5 : w = nI 5
  · subst w11_5
    refine lv_tableIn (tgt := 97) hx hb dX5_road_11 (by decide) (by decide) rfl (by decide) ?_
    refine lv_aload_n hx hb dX5_road_97 rfl (lv_at hl 0 rfl) ?_
    refine lv_iload_n hx hb dX5_road_98 rfl (lv_at hl 1 rfl) ?_
    refine kV_i (E := E) (As := [.int (nI r)]) (rest := []) (wr := [(mF, aI E 16 F)]) ⟨hx, hb, hml, hown, hts⟩ (c_X5_pairsLost (l := l) (E := E) (sz := _) (mo := mo) (mA := mA) (mK := mK) (mH := mH) (mS := mS) (mV := mV) (mF := mF) (mP := mP) (mR := mR) (hy := hy) (pl := pl) (sp := sp) (nu := nu) (rm := rm) (n := n) (k := k) (Al := Al) (r := r) (gA1 := by first | assumption | omega) (gk := by first | assumption | omega) (gok := by first | assumption | omega) (gr := by first | assumption | omega)) (cwV 1 hts gX5_road_X5_pairsLost rfl rfl rfl (by decide +kernel) ⟨by rw [hR]; decide, by rw [hR]; decide⟩) hK hN hP hD hS hA [1, 2] [0] rfl (by decide) rfl (by decide) (by decide) 1 5 rfl rfl rfl hl.1 rfl (Nat.le_of_ble_eq_true rfl) dX5_road_99 ⟨Nat.zero_le _, Nat.zero_le _⟩ (fun H locs hP hD hS => ?_)
    have hP : va_P E.1 vwCl [(mF, aI E 16 F), (mo, .inr (5, [.ref mA, .ref mK, .ref mH, .int hy, .ref mS, .ref mV, .ref mF, .ref mP, .int pl, .int sp, .int nu, .ref mR, .int rm])), (mA, aI E 92 Al)] H := hP
    have hD : va_D A [(mF, aI E 16 F), (mo, .inr (5, [.ref mA, .ref mK, .ref mH, .int hy, .ref mS, .ref mV, .ref mF, .ref mP, .int pl, .int sp, .int nu, .ref mR, .int rm])), (mA, aI E 92 Al)] := hD
    have hP9 : va_P E.1 vwCl [(mo, .inr (5, [.ref mA, .ref mK, .ref mH, .int hy, .ref mS, .ref mV, .ref mF, .ref mP, .int pl, .int sp, .int nu, .ref mR, .int rm])), (mA, aI E 92 Al), (mF, aI E 16 F)] _ := hP.sub [1, 2, 0] rfl
    have hD9 : va_D A [(mo, .inr (5, [.ref mA, .ref mK, .ref mH, .int hy, .ref mS, .ref mV, .ref mF, .ref mP, .int pl, .int sp, .int nu, .ref mR, .int rm])), (mA, aI E 92 Al), (mF, aI E 16 F)] := hD.sub [1, 2, 0] (by decide) rfl
    have hW9 : ([(mo, .inr (5, [.ref mA, .ref mK, .ref mH, .int hy, .ref mS, .ref mV, .ref mF, .ref mP, .int pl, .int sp, .int nu, .ref mR, .int rm])), (mA, aI E 92 Al), (mF, aI E 16 F)] : va_W) = [(mo, .inr (5, [.ref mA, .ref mK, .ref mH, .int hy, .ref mS, .ref mV, .ref mF, .ref mP, .int pl, .int sp, .int nu, .ref mR, .int rm])), (mA, aI E 92 Al), (mF, aI E 16 (if (nI 5) = nI 4 then (farM Al (nI 1 <<< (nI r &&& 31)) false F k (mlo Al r)) else F))] := by rw [if_neg (by decide)]
    rw [hW9] at hP9 hD9
    exact ret_i hQ hx hb hr hlocks hP9 hD9 hS dX5_road_102 (by rw [swl_s (by decide), swl_s (by decide), swl_s (by decide), swl_s (by decide), swl_s (by decide), swl_0 (by decide)])
  refine lv_tableOut (tgt := 103) hx hb dX5_road_11 (tsw_out (N := 5) (by decide) (fun j hj => by rcases (show j = 0 ∨ j = 1 ∨ j = 2 ∨ j = 3 ∨ j = 4 ∨ j = 5 by omega) with rfl | rfl | rfl | rfl | rfl | rfl <;> assumption)) (by decide) ?_
  refine lv_bipush (v := (-2)) hx hb dX5_road_103 (by decide) ?_
  have hP9 : va_P E.1 vwCl [(mo, .inr (5, [.ref mA, .ref mK, .ref mH, .int hy, .ref mS, .ref mV, .ref mF, .ref mP, .int pl, .int sp, .int nu, .ref mR, .int rm])), (mA, aI E 92 Al), (mF, aI E 16 F)] _ := hP.sub [1, 2, 0] rfl
  have hD9 : va_D A [(mo, .inr (5, [.ref mA, .ref mK, .ref mH, .int hy, .ref mS, .ref mV, .ref mF, .ref mP, .int pl, .int sp, .int nu, .ref mR, .int rm])), (mA, aI E 92 Al), (mF, aI E 16 F)] := hD.sub [1, 2, 0] (by decide) rfl
  have hW9 : ([(mo, .inr (5, [.ref mA, .ref mK, .ref mH, .int hy, .ref mS, .ref mV, .ref mF, .ref mP, .int pl, .int sp, .int nu, .ref mR, .int rm])), (mA, aI E 92 Al), (mF, aI E 16 F)] : va_W) = [(mo, .inr (5, [.ref mA, .ref mK, .ref mH, .int hy, .ref mS, .ref mV, .ref mF, .ref mP, .int pl, .int sp, .int nu, .ref mR, .int rm])), (mA, aI E 92 Al), (mF, aI E 16 (if w = nI 4 then (farM Al (nI 1 <<< (nI r &&& 31)) false F k (mlo Al r)) else F))] := by rw [if_neg w11_4]
  rw [hW9] at hP9 hD9
  exact ret_i hQ hx hb hr hlocks hP9 hD9 hS dX5_road_105 (by simp only [swl]; rw [if_neg w11_0, if_neg w11_1, if_neg w11_2, if_neg w11_3, if_neg w11_4, if_neg w11_5])
set_option maxHeartbeats 400000 in
set_option maxRecDepth 100000 in
theorem c_X5_square_bad (l : Launch) (E : EE) (sz : Nat) (mo mA mK mH mS mV mF mP mR : Nat) (hy pl sp nu rm : Int32) (n k : Nat) (Al : Nat → Int32) (x w : Int32) (gA0 : Al 0 = nI n) (gn : n ≤ 16) (gb : inR x (nI n) = false) : Ci l yX5_square wsX5_square 2 46 E [.ref mo, .int x, .int w] [(mo, .inr (5, [.ref mA, .ref mK, .ref mH, .int hy, .ref mS, .ref mV, .ref mF, .ref mP, .int pl, .int sp, .int nu, .ref mR, .int rm])), (mA, aI E 92 Al)] sz (-1) [(mo, .inr (5, [.ref mA, .ref mK, .ref mH, .int hy, .ref mS, .ref mV, .ref mF, .ref mP, .int pl, .int sp, .int nu, .ref mR, .int rm])), (mA, aI E 92 Al)] := by
  refine C_of (QQ := QI E (-1) [(mo, .inr (5, [.ref mA, .ref mK, .ref mH, .int hy, .ref mS, .ref mV, .ref mF, .ref mP, .int pl, .int sp, .int nu, .ref mR, .int rm])), (mA, aI E 92 Al)]) (cc := cX5_square) (maxL := 3) (ret := (some .int)) (by decide +kernel) rfl (Nat.le_of_ble_eq_true rfl) ?_
  intro p e s m args below meth c A R Q ls hx hb hr hts hown hml hlocks hA hK hN hP hD hS hl hR hQ
  have hown : s.vm.findClass RX5 = some m.cls := hown
  have hl : lv_has ls 3 [(0, .ref mo), (1, .int x), (2, .int w)] := hl
  refine lv_aload_n hx hb dX5_square_0 rfl (lv_at hl 0 rfl) ?_
  refine lv_iload_n hx hb dX5_square_1 rfl (lv_at hl 1 rfl) ?_
  refine kV_i (E := E) (As := [.int x]) (rest := []) (wr := []) ⟨hx, hb, hml, hown, hts⟩ (c_X5_isSquare (l := l) (E := E) (sz := _) (mo := mo) (mA := mA) (mK := mK) (mH := mH) (mS := mS) (mV := mV) (mF := mF) (mP := mP) (mR := mR) (hy := hy) (pl := pl) (sp := sp) (nu := nu) (rm := rm) (n := n) (k := k) (Al := Al) (x := x) (gA0 := by first | assumption | omega) (gn := by first | assumption | omega)) (cwV 1 hts gX5_square_X5_isSquare rfl rfl rfl (by decide +kernel) ⟨by rw [hR]; decide, by rw [hR]; decide⟩) hK hN hP hD hS hA [0, 1] [] rfl (by decide) rfl (by decide) (by decide) 0 5 rfl rfl rfl hl.1 rfl (Nat.le_of_ble_eq_true rfl) dX5_square_2 ⟨Nat.zero_le _, Nat.zero_le _⟩ (fun H locs hP hD hS => ?_)
  have hP : va_P E.1 vwCl [(mo, .inr (5, [.ref mA, .ref mK, .ref mH, .int hy, .ref mS, .ref mV, .ref mF, .ref mP, .int pl, .int sp, .int nu, .ref mR, .int rm])), (mA, aI E 92 Al)] H := hP
  have hD : va_D A [(mo, .inr (5, [.ref mA, .ref mK, .ref mH, .int hy, .ref mS, .ref mV, .ref mF, .ref mP, .int pl, .int sp, .int nu, .ref mR, .int rm])), (mA, aI E 92 Al)] := hD
  refine rk_if_neB (tgt := 10) hx hb dX5_square_5 (by decide) (fun q => absurd q (by rw [gb]; decide)) (fun zc5 => ?_)
  refine lv_iconst (v := (-1)) hx hb dX5_square_8 (by decide) ?_
  exact ret_i hQ hx hb hr hlocks (hP.sub [0, 1] rfl) (hD.sub [0, 1] (by decide) rfl) hS dX5_square_9 (rfl)
set_option maxHeartbeats 400000 in
set_option maxRecDepth 100000 in
theorem c_X5_square_ok (l : Launch) (E : EE) (sz : Nat) (mo mA mK mH mS mV mF mP mR : Nat) (hy pl sp nu rm : Int32) (n k : Nat) (Al : Nat → Int32) (x : Nat) (w : Int32) (gA0 : Al 0 = nI n) (gn : n ≤ 16) (gA1 : Al 1 = nI k) (gk : k ≤ 30) (gok : okA Al k) (gx : x < n) : Ci l yX5_square wsX5_square 6 137 E [.ref mo, .int (nI x), .int w] [(mo, .inr (5, [.ref mA, .ref mK, .ref mH, .int hy, .ref mS, .ref mV, .ref mF, .ref mP, .int pl, .int sp, .int nu, .ref mR, .int rm])), (mA, aI E 92 Al)] sz (swl w [nI (roM Al (nI 1 <<< (nI x &&& 31)) k), b2i (decide (¬ mpM Al k n x ≤ 0)), nI (dbM Al k (lwF ((rsM Al (pgM Al k k) (-6) k) x) 0 32)), rsM Al (nI 0) (-6) k x, mpM Al k n x] 0) [(mo, .inr (5, [.ref mA, .ref mK, .ref mH, .int hy, .ref mS, .ref mV, .ref mF, .ref mP, .int pl, .int sp, .int nu, .ref mR, .int rm])), (mA, aI E 92 Al)] := by
  refine C_of (QQ := QI E (swl w [nI (roM Al (nI 1 <<< (nI x &&& 31)) k), b2i (decide (¬ mpM Al k n x ≤ 0)), nI (dbM Al k (lwF ((rsM Al (pgM Al k k) (-6) k) x) 0 32)), rsM Al (nI 0) (-6) k x, mpM Al k n x] 0) [(mo, .inr (5, [.ref mA, .ref mK, .ref mH, .int hy, .ref mS, .ref mV, .ref mF, .ref mP, .int pl, .int sp, .int nu, .ref mR, .int rm])), (mA, aI E 92 Al)]) (cc := cX5_square) (maxL := 3) (ret := (some .int)) (by decide +kernel) rfl (Nat.le_of_ble_eq_true rfl) ?_
  intro p e s m args below meth c A R Q ls hx hb hr hts hown hml hlocks hA hK hN hP hD hS hl hR hQ
  have hown : s.vm.findClass RX5 = some m.cls := hown
  have hl : lv_has ls 3 [(0, .ref mo), (1, .int (nI x)), (2, .int w)] := hl
  refine lv_aload_n hx hb dX5_square_0 rfl (lv_at hl 0 rfl) ?_
  refine lv_iload_n hx hb dX5_square_1 rfl (lv_at hl 1 rfl) ?_
  refine kV_i (E := E) (As := [.int (nI x)]) (rest := []) (wr := []) ⟨hx, hb, hml, hown, hts⟩ (c_X5_isSquare (l := l) (E := E) (sz := _) (mo := mo) (mA := mA) (mK := mK) (mH := mH) (mS := mS) (mV := mV) (mF := mF) (mP := mP) (mR := mR) (hy := hy) (pl := pl) (sp := sp) (nu := nu) (rm := rm) (n := n) (k := k) (Al := Al) (x := nI x) (gA0 := by first | assumption | omega) (gn := by first | assumption | omega)) (cwV 1 hts gX5_square_X5_isSquare rfl rfl rfl (by decide +kernel) ⟨by rw [hR]; decide, by rw [hR]; decide⟩) hK hN hP hD hS hA [0, 1] [] rfl (by decide) rfl (by decide) (by decide) 0 5 rfl rfl rfl hl.1 rfl (Nat.le_of_ble_eq_true rfl) dX5_square_2 ⟨Nat.zero_le _, Nat.zero_le _⟩ (fun H locs hP hD hS => ?_)
  have hP : va_P E.1 vwCl [(mo, .inr (5, [.ref mA, .ref mK, .ref mH, .int hy, .ref mS, .ref mV, .ref mF, .ref mP, .int pl, .int sp, .int nu, .ref mR, .int rm])), (mA, aI E 92 Al)] H := hP
  have hD : va_D A [(mo, .inr (5, [.ref mA, .ref mK, .ref mH, .int hy, .ref mS, .ref mV, .ref mF, .ref mP, .int pl, .int sp, .int nu, .ref mR, .int rm])), (mA, aI E 92 Al)] := hD
  refine rk_if_neB (tgt := 10) hx hb dX5_square_5 (by decide) (fun zc5 => ?_) (fun q => absurd q (by rw [inR_ok gx (by omega)]; decide))
  refine lv_iload_n hx hb dX5_square_10 rfl (lv_at hl 2 rfl) ?_
  by_cases w11_0 : w = nI 0
  · subst w11_0
    refine lv_tableIn (tgt := 44) hx hb dX5_square_11 (by decide) (by decide) rfl (by decide) ?_
    refine lv_aload_n hx hb dX5_square_44 rfl (lv_at hl 0 rfl) ?_
    refine lv_iconst (v := nI 1) hx hb dX5_square_45 (by decide) ?_
    refine lv_iload_n hx hb dX5_square_46 rfl (lv_at hl 1 rfl) ?_
    refine lv_ishl hx hb dX5_square_47 ?_
    refine kV_i (E := E) (As := [.int ((nI 1) <<< ((nI x) &&& 31))]) (rest := []) (wr := []) ⟨hx, hb, hml, hown, hts⟩ (c_X5_roadsOut (l := l) (E := E) (sz := _) (mo := mo) (mA := mA) (mK := mK) (mH := mH) (mS := mS) (mV := mV) (mF := mF) (mP := mP) (mR := mR) (hy := hy) (pl := pl) (sp := sp) (nu := nu) (rm := rm) (n := n) (k := k) (Al := Al) (x := (nI 1) <<< ((nI x) &&& 31)) (gA1 := by first | assumption | omega) (gk := by first | assumption | omega) (gok := by first | assumption | omega)) (cwV 1 hts gX5_square_X5_roadsOut rfl rfl rfl (by decide +kernel) ⟨by rw [hR]; decide, by rw [hR]; decide⟩) hK hN hP hD hS hA [0, 1] [] rfl (by decide) rfl (by decide) (by decide) 0 5 rfl rfl rfl hl.1 rfl (Nat.le_of_ble_eq_true rfl) dX5_square_48 ⟨Nat.zero_le _, Nat.zero_le _⟩ (fun H locs hP hD hS => ?_)
    have hP : va_P E.1 vwCl [(mo, .inr (5, [.ref mA, .ref mK, .ref mH, .int hy, .ref mS, .ref mV, .ref mF, .ref mP, .int pl, .int sp, .int nu, .ref mR, .int rm])), (mA, aI E 92 Al)] H := hP
    have hD : va_D A [(mo, .inr (5, [.ref mA, .ref mK, .ref mH, .int hy, .ref mS, .ref mV, .ref mF, .ref mP, .int pl, .int sp, .int nu, .ref mR, .int rm])), (mA, aI E 92 Al)] := hD
    exact ret_i hQ hx hb hr hlocks (hP.sub [0, 1] rfl) (hD.sub [0, 1] (by decide) rfl) hS dX5_square_51 (by rw [swl_0 (by decide)])
  by_cases w11_1 : w = nI 1
  · subst w11_1
    refine lv_tableIn (tgt := 52) hx hb dX5_square_11 (by decide) (by decide) rfl (by decide) ?_
    refine lv_aload_n hx hb dX5_square_52 rfl (lv_at hl 0 rfl) ?_
    refine lv_iload_n hx hb dX5_square_53 rfl (lv_at hl 1 rfl) ?_
    refine kV_i (E := E) (As := [.int (nI x)]) (rest := []) (wr := []) ⟨hx, hb, hml, hown, hts⟩ (c_X5_morePieces (l := l) (E := E) (sz := _) (mo := mo) (mA := mA) (mK := mK) (mH := mH) (mS := mS) (mV := mV) (mF := mF) (mP := mP) (mR := mR) (hy := hy) (pl := pl) (sp := sp) (nu := nu) (rm := rm) (n := n) (k := k) (Al := Al) (x := x) (gA0 := by first | assumption | omega) (gn := by first | assumption | omega) (gA1 := by first | assumption | omega) (gk := by first | assumption | omega) (gok := by first | assumption | omega) (gx := by first | assumption | omega)) (cwV 1 hts gX5_square_X5_morePieces rfl rfl rfl (by decide +kernel) ⟨by rw [hR]; decide, by rw [hR]; decide⟩) hK hN hP hD hS hA [0, 1] [] rfl (by decide) rfl (by decide) (by decide) 0 5 rfl rfl rfl hl.1 rfl (Nat.le_of_ble_eq_true rfl) dX5_square_54 ⟨Nat.zero_le _, Nat.zero_le _⟩ (fun H locs hP hD hS => ?_)
    have hP : va_P E.1 vwCl [(mo, .inr (5, [.ref mA, .ref mK, .ref mH, .int hy, .ref mS, .ref mV, .ref mF, .ref mP, .int pl, .int sp, .int nu, .ref mR, .int rm])), (mA, aI E 92 Al)] H := hP
    have hD : va_D A [(mo, .inr (5, [.ref mA, .ref mK, .ref mH, .int hy, .ref mS, .ref mV, .ref mF, .ref mP, .int pl, .int sp, .int nu, .ref mR, .int rm])), (mA, aI E 92 Al)] := hD
    refine lv_if_le (tgt := 64) hx hb dX5_square_57 (by decide) (fun zc57 => ?_) (fun zc57 => ?_)
    · refine lv_iconst (v := nI 0) hx hb dX5_square_64 (by decide) ?_
      exact ret_i hQ hx hb hr hlocks (hP.sub [0, 1] rfl) (hD.sub [0, 1] (by decide) rfl) hS dX5_square_65 (by rw [swl_s (by decide), swl_0 (by decide)]; exact b2i_f (decide_eq_false (fun q => q zc57)))
    · refine lv_iconst (v := nI 1) hx hb dX5_square_60 (by decide) ?_
      refine lv_goto (tgt := 65) hx hb dX5_square_61 (by decide) ?_
      exact ret_i hQ hx hb hr hlocks (hP.sub [0, 1] rfl) (hD.sub [0, 1] (by decide) rfl) hS dX5_square_65 (by rw [swl_s (by decide), swl_0 (by decide)]; exact b2i_t (decide_eq_true zc57))
  by_cases w11_2 : w = nI 2
  · subst w11_2
    refine lv_tableIn (tgt := 66) hx hb dX5_square_11 (by decide) (by decide) rfl (by decide) ?_
    refine lv_aload_n hx hb dX5_square_66 rfl (lv_at hl 0 rfl) ?_
    refine lv_iload_n hx hb dX5_square_67 rfl (lv_at hl 1 rfl) ?_
    refine kV_i (E := E) (As := [.int (nI x)]) (rest := []) (wr := []) ⟨hx, hb, hml, hown, hts⟩ (c_X5_numberOf (l := l) (E := E) (sz := _) (mo := mo) (mA := mA) (mK := mK) (mH := mH) (mS := mS) (mV := mV) (mF := mF) (mP := mP) (mR := mR) (hy := hy) (pl := pl) (sp := sp) (nu := nu) (rm := rm) (n := n) (k := k) (Al := Al) (x := x) (gA1 := by first | assumption | omega) (gk := by first | assumption | omega) (gok := by first | assumption | omega) (gq := by first | assumption | omega)) (cwV 1 hts gX5_square_X5_numberOf rfl rfl rfl (by decide +kernel) ⟨by rw [hR]; decide, by rw [hR]; decide⟩) hK hN hP hD hS hA [0, 1] [] rfl (by decide) rfl (by decide) (by decide) 0 5 rfl rfl rfl hl.1 rfl (Nat.le_of_ble_eq_true rfl) dX5_square_68 ⟨Nat.zero_le _, Nat.zero_le _⟩ (fun H locs hP hD hS => ?_)
    have hP : va_P E.1 vwCl [(mo, .inr (5, [.ref mA, .ref mK, .ref mH, .int hy, .ref mS, .ref mV, .ref mF, .ref mP, .int pl, .int sp, .int nu, .ref mR, .int rm])), (mA, aI E 92 Al)] H := hP
    have hD : va_D A [(mo, .inr (5, [.ref mA, .ref mK, .ref mH, .int hy, .ref mS, .ref mV, .ref mF, .ref mP, .int pl, .int sp, .int nu, .ref mR, .int rm])), (mA, aI E 92 Al)] := hD
    exact ret_i hQ hx hb hr hlocks (hP.sub [0, 1] rfl) (hD.sub [0, 1] (by decide) rfl) hS dX5_square_71 (by rw [swl_s (by decide), swl_s (by decide), swl_0 (by decide)])
  by_cases w11_3 : w = nI 3
  · subst w11_3
    refine lv_tableIn (tgt := 72) hx hb dX5_square_11 (by decide) (by decide) rfl (by decide) ?_
    refine lv_aload_n hx hb dX5_square_72 rfl (lv_at hl 0 rfl) ?_
    refine lv_iload_n hx hb dX5_square_73 rfl (lv_at hl 1 rfl) ?_
    refine kV_i (E := E) (As := [.int (nI x)]) (rest := []) (wr := []) ⟨hx, hb, hml, hown, hts⟩ (c_X5_pieceOf (l := l) (E := E) (sz := _) (mo := mo) (mA := mA) (mK := mK) (mH := mH) (mS := mS) (mV := mV) (mF := mF) (mP := mP) (mR := mR) (hy := hy) (pl := pl) (sp := sp) (nu := nu) (rm := rm) (n := n) (k := k) (Al := Al) (q := x) (gA1 := by first | assumption | omega) (gk := by first | assumption | omega) (gok := by first | assumption | omega) (gq := by first | assumption | omega)) (cwV 1 hts gX5_square_X5_pieceOf rfl rfl rfl (by decide +kernel) ⟨by rw [hR]; decide, by rw [hR]; decide⟩) hK hN hP hD hS hA [0, 1] [] rfl (by decide) rfl (by decide) (by decide) 0 5 rfl rfl rfl hl.1 rfl (Nat.le_of_ble_eq_true rfl) dX5_square_74 ⟨Nat.zero_le _, Nat.zero_le _⟩ (fun H locs hP hD hS => ?_)
    have hP : va_P E.1 vwCl [(mo, .inr (5, [.ref mA, .ref mK, .ref mH, .int hy, .ref mS, .ref mV, .ref mF, .ref mP, .int pl, .int sp, .int nu, .ref mR, .int rm])), (mA, aI E 92 Al)] H := hP
    have hD : va_D A [(mo, .inr (5, [.ref mA, .ref mK, .ref mH, .int hy, .ref mS, .ref mV, .ref mF, .ref mP, .int pl, .int sp, .int nu, .ref mR, .int rm])), (mA, aI E 92 Al)] := hD
    exact ret_i hQ hx hb hr hlocks (hP.sub [0, 1] rfl) (hD.sub [0, 1] (by decide) rfl) hS dX5_square_77 (by rw [swl_s (by decide), swl_s (by decide), swl_s (by decide), swl_0 (by decide)])
  by_cases w11_4 : w = nI 4
  · subst w11_4
    refine lv_tableIn (tgt := 78) hx hb dX5_square_11 (by decide) (by decide) rfl (by decide) ?_
    refine lv_aload_n hx hb dX5_square_78 rfl (lv_at hl 0 rfl) ?_
    refine lv_iload_n hx hb dX5_square_79 rfl (lv_at hl 1 rfl) ?_
    refine kV_i (E := E) (As := [.int (nI x)]) (rest := []) (wr := []) ⟨hx, hb, hml, hown, hts⟩ (c_X5_morePieces (l := l) (E := E) (sz := _) (mo := mo) (mA := mA) (mK := mK) (mH := mH) (mS := mS) (mV := mV) (mF := mF) (mP := mP) (mR := mR) (hy := hy) (pl := pl) (sp := sp) (nu := nu) (rm := rm) (n := n) (k := k) (Al := Al) (x := x) (gA0 := by first | assumption | omega) (gn := by first | assumption | omega) (gA1 := by first | assumption | omega) (gk := by first | assumption | omega) (gok := by first | assumption | omega) (gx := by first | assumption | omega)) (cwV 1 hts gX5_square_X5_morePieces rfl rfl rfl (by decide +kernel) ⟨by rw [hR]; decide, by rw [hR]; decide⟩) hK hN hP hD hS hA [0, 1] [] rfl (by decide) rfl (by decide) (by decide) 0 5 rfl rfl rfl hl.1 rfl (Nat.le_of_ble_eq_true rfl) dX5_square_80 ⟨Nat.zero_le _, Nat.zero_le _⟩ (fun H locs hP hD hS => ?_)
    have hP : va_P E.1 vwCl [(mo, .inr (5, [.ref mA, .ref mK, .ref mH, .int hy, .ref mS, .ref mV, .ref mF, .ref mP, .int pl, .int sp, .int nu, .ref mR, .int rm])), (mA, aI E 92 Al)] H := hP
    have hD : va_D A [(mo, .inr (5, [.ref mA, .ref mK, .ref mH, .int hy, .ref mS, .ref mV, .ref mF, .ref mP, .int pl, .int sp, .int nu, .ref mR, .int rm])), (mA, aI E 92 Al)] := hD
    exact ret_i hQ hx hb hr hlocks (hP.sub [0, 1] rfl) (hD.sub [0, 1] (by decide) rfl) hS dX5_square_83 (by rw [swl_s (by decide), swl_s (by decide), swl_s (by decide), swl_s (by decide), swl_0 (by decide)])
  refine lv_tableOut (tgt := 84) hx hb dX5_square_11 (tsw_out (N := 4) (by decide) (fun j hj => by rcases (show j = 0 ∨ j = 1 ∨ j = 2 ∨ j = 3 ∨ j = 4 by omega) with rfl | rfl | rfl | rfl | rfl <;> assumption)) (by decide) ?_
  refine lv_bipush (v := (-2)) hx hb dX5_square_84 (by decide) ?_
  exact ret_i hQ hx hb hr hlocks (hP.sub [0, 1] rfl) (hD.sub [0, 1] (by decide) rfl) hS dX5_square_86 (by simp only [swl]; rw [if_neg w11_0, if_neg w11_1, if_neg w11_2, if_neg w11_3, if_neg w11_4])
set_option maxHeartbeats 400000 in
set_option maxRecDepth 100000 in
theorem c_X5_district_bad (l : Launch) (E : EE) (sz : Nat) (mo mA mK mH mS mV mF mP mR : Nat) (hy pl sp nu rm : Int32) (n k : Nat) (Al : Nat → Int32) (x w : Int32) (gA0 : Al 0 = nI n) (gn : n ≤ 16) (gA1 : Al 1 = nI k) (gk : k ≤ 30) (gok : okA Al k) (gb : inR x (nI (dbM Al k n)) = false) : Ci l yX5_district wsX5_district 6 136 E [.ref mo, .int x, .int w] [(mo, .inr (5, [.ref mA, .ref mK, .ref mH, .int hy, .ref mS, .ref mV, .ref mF, .ref mP, .int pl, .int sp, .int nu, .ref mR, .int rm])), (mA, aI E 92 Al)] sz (-1) [(mo, .inr (5, [.ref mA, .ref mK, .ref mH, .int hy, .ref mS, .ref mV, .ref mF, .ref mP, .int pl, .int sp, .int nu, .ref mR, .int rm])), (mA, aI E 92 Al)] := by
  refine C_of (QQ := QI E (-1) [(mo, .inr (5, [.ref mA, .ref mK, .ref mH, .int hy, .ref mS, .ref mV, .ref mF, .ref mP, .int pl, .int sp, .int nu, .ref mR, .int rm])), (mA, aI E 92 Al)]) (cc := cX5_district) (maxL := 4) (ret := (some .int)) (by decide +kernel) rfl (Nat.le_of_ble_eq_true rfl) ?_
  intro p e s m args below meth c A R Q ls hx hb hr hts hown hml hlocks hA hK hN hP hD hS hl hR hQ
  have hown : s.vm.findClass RX5 = some m.cls := hown
  have hl : lv_has ls 4 [(0, .ref mo), (1, .int x), (2, .int w)] := hl
  refine lv_iload_n hx hb dX5_district_0 rfl (lv_at hl 1 rfl) ?_
  refine lv_i2l hx hb dX5_district_1 rfl ?_
  refine lv_lconst (v := 0) hx hb dX5_district_2 (by decide) ?_
  refine lv_aload_n hx hb dX5_district_3 rfl (lv_at hl 0 rfl) ?_
  have gdb : dbM Al k n ≤ n := pwM_le _ _ _
  refine kV_i (E := E) (As := []) (rest := [.long ((0 : Int64)), .long x.toInt64]) (wr := []) ⟨hx, hb, hml, hown, hts⟩ (c_X5_districts (l := l) (E := E) (sz := _) (mo := mo) (mA := mA) (mK := mK) (mH := mH) (mS := mS) (mV := mV) (mF := mF) (mP := mP) (mR := mR) (hy := hy) (pl := pl) (sp := sp) (nu := nu) (rm := rm) (n := n) (k := k) (Al := Al) (gA0 := by first | assumption | omega) (gn := by first | assumption | omega) (gA1 := by first | assumption | omega) (gk := by first | assumption | omega) (gok := by first | assumption | omega)) (cwV 0 hts gX5_district_X5_districts rfl rfl rfl (by decide +kernel) ⟨by rw [hR]; decide, by rw [hR]; decide⟩) hK hN hP hD hS hA [0, 1] [] rfl (by decide) rfl (by decide) (by decide) 0 5 rfl rfl rfl hl.1 rfl (Nat.le_of_ble_eq_true rfl) dX5_district_4 ⟨Nat.zero_le _, Nat.zero_le _⟩ (fun H locs hP hD hS => ?_)
  have hP : va_P E.1 vwCl [(mo, .inr (5, [.ref mA, .ref mK, .ref mH, .int hy, .ref mS, .ref mV, .ref mF, .ref mP, .int pl, .int sp, .int nu, .ref mR, .int rm])), (mA, aI E 92 Al)] H := hP
  have hD : va_D A [(mo, .inr (5, [.ref mA, .ref mK, .ref mH, .int hy, .ref mS, .ref mV, .ref mF, .ref mP, .int pl, .int sp, .int nu, .ref mR, .int rm])), (mA, aI E 92 Al)] := hD
  refine lv_i2l hx hb dX5_district_7 rfl ?_
  refine lv_lconst (v := 1) hx hb dX5_district_8 (by decide) ?_
  refine lv_lsub hx hb dX5_district_9 ?_
  refine kS_i (E := E) (As := [.long x.toInt64, .long ((0 : Int64)), .long (((nI (dbM Al k n)).toInt64) - ((1 : Int64)))]) (rest := []) (wr := [(mo, .inr (5, [.ref mA, .ref mK, .ref mH, .int hy, .ref mS, .ref mV, .ref mF, .ref mP, .int pl, .int sp, .int nu, .ref mR, .int rm])), (mA, aI E 92 Al)]) ⟨hx, hb, hml, hown, hts⟩ (c_X5_in (l := l) (E := E) (sz := _) (v := x.toInt64) (lo9 := (0 : Int64)) (hi9 := ((nI (dbM Al k n)).toInt64) - ((1 : Int64))) ) (cwS 3 hts gX5_district_X5_in rfl rfl rfl (by decide +kernel) ⟨by rw [hR]; decide, by rw [hR]; decide⟩) hK hN hP hD hS hA [] [0, 1] rfl (by decide) rfl (by decide) (by decide) rfl hl.1 rfl (Nat.le_of_ble_eq_true rfl) dX5_district_10 ⟨Nat.zero_le _, Nat.zero_le _⟩ (fun H locs hP hD hS => ?_)
  have hP : va_P E.1 vwCl [(mo, .inr (5, [.ref mA, .ref mK, .ref mH, .int hy, .ref mS, .ref mV, .ref mF, .ref mP, .int pl, .int sp, .int nu, .ref mR, .int rm])), (mA, aI E 92 Al)] H := hP
  have hD : va_D A [(mo, .inr (5, [.ref mA, .ref mK, .ref mH, .int hy, .ref mS, .ref mV, .ref mF, .ref mP, .int pl, .int sp, .int nu, .ref mR, .int rm])), (mA, aI E 92 Al)] := hD
  refine rk_if_neB (tgt := 18) hx hb dX5_district_13 (by decide) (fun q => absurd (q.symm.trans ((inL_R (by omega)).trans gb)) (by decide)) (fun zc13 => ?_)
  refine lv_iconst (v := (-1)) hx hb dX5_district_16 (by decide) ?_
  exact ret_i hQ hx hb hr hlocks (hP.sub [0, 1] rfl) (hD.sub [0, 1] (by decide) rfl) hS dX5_district_17 (rfl)
set_option maxHeartbeats 400000 in
set_option maxRecDepth 100000 in
theorem c_X5_district_ok (l : Launch) (E : EE) (sz : Nat) (mo mA mK mH mS mV mF mP mR : Nat) (hy pl sp nu rm : Int32) (n k : Nat) (Al : Nat → Int32) (x : Nat) (w : Int32) (gA0 : Al 0 = nI n) (gn : n ≤ 16) (gA1 : Al 1 = nI k) (gk : k ≤ 30) (gok : okA Al k) (gd : x < dbM Al k n) : Ci l yX5_district wsX5_district 6 136 E [.ref mo, .int (nI x), .int w] [(mo, .inr (5, [.ref mA, .ref mK, .ref mH, .int hy, .ref mS, .ref mV, .ref mF, .ref mP, .int pl, .int sp, .int nu, .ref mR, .int rm])), (mA, aI E 92 Al)] sz (swl w [sqM Al k n x, lwM Al (sqM Al k n x) k, nI (roM Al (sqM Al k n x) k), nI (rwM Al (sqM Al k n x) k) - nI (popc (sqM Al k n x)) + nI 1] 0) [(mo, .inr (5, [.ref mA, .ref mK, .ref mH, .int hy, .ref mS, .ref mV, .ref mF, .ref mP, .int pl, .int sp, .int nu, .ref mR, .int rm])), (mA, aI E 92 Al)] := by
  refine C_of (QQ := QI E (swl w [sqM Al k n x, lwM Al (sqM Al k n x) k, nI (roM Al (sqM Al k n x) k), nI (rwM Al (sqM Al k n x) k) - nI (popc (sqM Al k n x)) + nI 1] 0) [(mo, .inr (5, [.ref mA, .ref mK, .ref mH, .int hy, .ref mS, .ref mV, .ref mF, .ref mP, .int pl, .int sp, .int nu, .ref mR, .int rm])), (mA, aI E 92 Al)]) (cc := cX5_district) (maxL := 4) (ret := (some .int)) (by decide +kernel) rfl (Nat.le_of_ble_eq_true rfl) ?_
  intro p e s m args below meth c A R Q ls hx hb hr hts hown hml hlocks hA hK hN hP hD hS hl hR hQ
  have hown : s.vm.findClass RX5 = some m.cls := hown
  have hl : lv_has ls 4 [(0, .ref mo), (1, .int (nI x)), (2, .int w)] := hl
  refine lv_iload_n hx hb dX5_district_0 rfl (lv_at hl 1 rfl) ?_
  refine lv_i2l hx hb dX5_district_1 rfl ?_
  refine lv_lconst (v := 0) hx hb dX5_district_2 (by decide) ?_
  refine lv_aload_n hx hb dX5_district_3 rfl (lv_at hl 0 rfl) ?_
  have gdb : dbM Al k n ≤ n := pwM_le _ _ _
  refine kV_i (E := E) (As := []) (rest := [.long ((0 : Int64)), .long ((nI x).toInt64)]) (wr := []) ⟨hx, hb, hml, hown, hts⟩ (c_X5_districts (l := l) (E := E) (sz := _) (mo := mo) (mA := mA) (mK := mK) (mH := mH) (mS := mS) (mV := mV) (mF := mF) (mP := mP) (mR := mR) (hy := hy) (pl := pl) (sp := sp) (nu := nu) (rm := rm) (n := n) (k := k) (Al := Al) (gA0 := by first | assumption | omega) (gn := by first | assumption | omega) (gA1 := by first | assumption | omega) (gk := by first | assumption | omega) (gok := by first | assumption | omega)) (cwV 0 hts gX5_district_X5_districts rfl rfl rfl (by decide +kernel) ⟨by rw [hR]; decide, by rw [hR]; decide⟩) hK hN hP hD hS hA [0, 1] [] rfl (by decide) rfl (by decide) (by decide) 0 5 rfl rfl rfl hl.1 rfl (Nat.le_of_ble_eq_true rfl) dX5_district_4 ⟨Nat.zero_le _, Nat.zero_le _⟩ (fun H locs hP hD hS => ?_)
  have hP : va_P E.1 vwCl [(mo, .inr (5, [.ref mA, .ref mK, .ref mH, .int hy, .ref mS, .ref mV, .ref mF, .ref mP, .int pl, .int sp, .int nu, .ref mR, .int rm])), (mA, aI E 92 Al)] H := hP
  have hD : va_D A [(mo, .inr (5, [.ref mA, .ref mK, .ref mH, .int hy, .ref mS, .ref mV, .ref mF, .ref mP, .int pl, .int sp, .int nu, .ref mR, .int rm])), (mA, aI E 92 Al)] := hD
  refine lv_i2l hx hb dX5_district_7 rfl ?_
  refine lv_lconst (v := 1) hx hb dX5_district_8 (by decide) ?_
  refine lv_lsub hx hb dX5_district_9 ?_
  refine kS_i (E := E) (As := [.long ((nI x).toInt64), .long ((0 : Int64)), .long (((nI (dbM Al k n)).toInt64) - ((1 : Int64)))]) (rest := []) (wr := [(mo, .inr (5, [.ref mA, .ref mK, .ref mH, .int hy, .ref mS, .ref mV, .ref mF, .ref mP, .int pl, .int sp, .int nu, .ref mR, .int rm])), (mA, aI E 92 Al)]) ⟨hx, hb, hml, hown, hts⟩ (c_X5_in (l := l) (E := E) (sz := _) (v := (nI x).toInt64) (lo9 := (0 : Int64)) (hi9 := ((nI (dbM Al k n)).toInt64) - ((1 : Int64))) ) (cwS 3 hts gX5_district_X5_in rfl rfl rfl (by decide +kernel) ⟨by rw [hR]; decide, by rw [hR]; decide⟩) hK hN hP hD hS hA [] [0, 1] rfl (by decide) rfl (by decide) (by decide) rfl hl.1 rfl (Nat.le_of_ble_eq_true rfl) dX5_district_10 ⟨Nat.zero_le _, Nat.zero_le _⟩ (fun H locs hP hD hS => ?_)
  have hP : va_P E.1 vwCl [(mo, .inr (5, [.ref mA, .ref mK, .ref mH, .int hy, .ref mS, .ref mV, .ref mF, .ref mP, .int pl, .int sp, .int nu, .ref mR, .int rm])), (mA, aI E 92 Al)] H := hP
  have hD : va_D A [(mo, .inr (5, [.ref mA, .ref mK, .ref mH, .int hy, .ref mS, .ref mV, .ref mF, .ref mP, .int pl, .int sp, .int nu, .ref mR, .int rm])), (mA, aI E 92 Al)] := hD
  refine rk_if_neB (tgt := 18) hx hb dX5_district_13 (by decide) (fun zc13 => ?_) (fun q => absurd (q.symm.trans ((inL_R (by omega)).trans (inR_ok gd (by omega)))) (by decide))
  refine lv_aload_n hx hb dX5_district_18 rfl (lv_at hl 0 rfl) ?_
  refine lv_iload_n hx hb dX5_district_19 rfl (lv_at hl 1 rfl) ?_
  refine kV_i (E := E) (As := [.int (nI x)]) (rest := []) (wr := []) ⟨hx, hb, hml, hown, hts⟩ (c_X5_squaresOf (l := l) (E := E) (sz := _) (mo := mo) (mA := mA) (mK := mK) (mH := mH) (mS := mS) (mV := mV) (mF := mF) (mP := mP) (mR := mR) (hy := hy) (pl := pl) (sp := sp) (nu := nu) (rm := rm) (n := n) (k := k) (Al := Al) (d := x) (gA0 := by first | assumption | omega) (gn := by first | assumption | omega) (gA1 := by first | assumption | omega) (gk := by first | assumption | omega) (gok := by first | assumption | omega) (gd := by first | assumption | omega)) (cwV 1 hts gX5_district_X5_squaresOf rfl rfl rfl (by decide +kernel) ⟨by rw [hR]; decide, by rw [hR]; decide⟩) hK hN hP hD hS hA [0, 1] [] rfl (by decide) rfl (by decide) (by decide) 0 5 rfl rfl rfl hl.1 rfl (Nat.le_of_ble_eq_true rfl) dX5_district_20 ⟨Nat.zero_le _, Nat.zero_le _⟩ (fun H locs hP hD hS => ?_)
  have hP : va_P E.1 vwCl [(mo, .inr (5, [.ref mA, .ref mK, .ref mH, .int hy, .ref mS, .ref mV, .ref mF, .ref mP, .int pl, .int sp, .int nu, .ref mR, .int rm])), (mA, aI E 92 Al)] H := hP
  have hD : va_D A [(mo, .inr (5, [.ref mA, .ref mK, .ref mH, .int hy, .ref mS, .ref mV, .ref mF, .ref mP, .int pl, .int sp, .int nu, .ref mR, .int rm])), (mA, aI E 92 Al)] := hD
  refine lv_istore_n (lv' := [(3, .int (sqM Al k n x)), (0, .ref mo), (1, .int (nI x)), (2, .int w)]) hx hb dX5_district_23 rfl hl (by decide) rfl (fun ls hl => ?_)
  refine lv_iload_n hx hb dX5_district_24 rfl (lv_at hl 3 rfl) ?_
  by_cases w25_0 : w = nI 0
  · subst w25_0
    refine lv_tableIn (tgt := 56) hx hb dX5_district_25 (by decide) (by decide) rfl (by decide) ?_
    refine lv_iload_n hx hb dX5_district_56 rfl (lv_at hl 0 rfl) ?_
    exact ret_i hQ hx hb hr hlocks (hP.sub [0, 1] rfl) (hD.sub [0, 1] (by decide) rfl) hS dX5_district_57 (by rw [swl_0 (by decide)])
  by_cases w25_1 : w = nI 1
  · subst w25_1
    refine lv_tableIn (tgt := 58) hx hb dX5_district_25 (by decide) (by decide) rfl (by decide) ?_
    refine lv_aload_n hx hb dX5_district_58 rfl (lv_at hl 1 rfl) ?_
    refine lv_iload_n hx hb dX5_district_59 rfl (lv_at hl 0 rfl) ?_
    refine kV_i (E := E) (As := [.int (sqM Al k n x)]) (rest := []) (wr := []) ⟨hx, hb, hml, hown, hts⟩ (c_X5_lengthWithin (l := l) (E := E) (sz := _) (mo := mo) (mA := mA) (mK := mK) (mH := mH) (mS := mS) (mV := mV) (mF := mF) (mP := mP) (mR := mR) (hy := hy) (pl := pl) (sp := sp) (nu := nu) (rm := rm) (n := n) (k := k) (Al := Al) (x := sqM Al k n x) (gA1 := by first | assumption | omega) (gk := by first | assumption | omega) (gok := by first | assumption | omega)) (cwV 1 hts gX5_district_X5_lengthWithin rfl rfl rfl (by decide +kernel) ⟨by rw [hR]; decide, by rw [hR]; decide⟩) hK hN hP hD hS hA [0, 1] [] rfl (by decide) rfl (by decide) (by decide) 0 5 rfl rfl rfl hl.1 rfl (Nat.le_of_ble_eq_true rfl) dX5_district_60 ⟨Nat.zero_le _, Nat.zero_le _⟩ (fun H locs hP hD hS => ?_)
    have hP : va_P E.1 vwCl [(mo, .inr (5, [.ref mA, .ref mK, .ref mH, .int hy, .ref mS, .ref mV, .ref mF, .ref mP, .int pl, .int sp, .int nu, .ref mR, .int rm])), (mA, aI E 92 Al)] H := hP
    have hD : va_D A [(mo, .inr (5, [.ref mA, .ref mK, .ref mH, .int hy, .ref mS, .ref mV, .ref mF, .ref mP, .int pl, .int sp, .int nu, .ref mR, .int rm])), (mA, aI E 92 Al)] := hD
    exact ret_i hQ hx hb hr hlocks (hP.sub [0, 1] rfl) (hD.sub [0, 1] (by decide) rfl) hS dX5_district_63 (by rw [swl_s (by decide), swl_0 (by decide)])
  by_cases w25_2 : w = nI 2
  · subst w25_2
    refine lv_tableIn (tgt := 64) hx hb dX5_district_25 (by decide) (by decide) rfl (by decide) ?_
    refine lv_aload_n hx hb dX5_district_64 rfl (lv_at hl 1 rfl) ?_
    refine lv_iload_n hx hb dX5_district_65 rfl (lv_at hl 0 rfl) ?_
    refine kV_i (E := E) (As := [.int (sqM Al k n x)]) (rest := []) (wr := []) ⟨hx, hb, hml, hown, hts⟩ (c_X5_roadsOut (l := l) (E := E) (sz := _) (mo := mo) (mA := mA) (mK := mK) (mH := mH) (mS := mS) (mV := mV) (mF := mF) (mP := mP) (mR := mR) (hy := hy) (pl := pl) (sp := sp) (nu := nu) (rm := rm) (n := n) (k := k) (Al := Al) (x := sqM Al k n x) (gA1 := by first | assumption | omega) (gk := by first | assumption | omega) (gok := by first | assumption | omega)) (cwV 1 hts gX5_district_X5_roadsOut rfl rfl rfl (by decide +kernel) ⟨by rw [hR]; decide, by rw [hR]; decide⟩) hK hN hP hD hS hA [0, 1] [] rfl (by decide) rfl (by decide) (by decide) 0 5 rfl rfl rfl hl.1 rfl (Nat.le_of_ble_eq_true rfl) dX5_district_66 ⟨Nat.zero_le _, Nat.zero_le _⟩ (fun H locs hP hD hS => ?_)
    have hP : va_P E.1 vwCl [(mo, .inr (5, [.ref mA, .ref mK, .ref mH, .int hy, .ref mS, .ref mV, .ref mF, .ref mP, .int pl, .int sp, .int nu, .ref mR, .int rm])), (mA, aI E 92 Al)] H := hP
    have hD : va_D A [(mo, .inr (5, [.ref mA, .ref mK, .ref mH, .int hy, .ref mS, .ref mV, .ref mF, .ref mP, .int pl, .int sp, .int nu, .ref mR, .int rm])), (mA, aI E 92 Al)] := hD
    exact ret_i hQ hx hb hr hlocks (hP.sub [0, 1] rfl) (hD.sub [0, 1] (by decide) rfl) hS dX5_district_69 (by rw [swl_s (by decide), swl_s (by decide), swl_0 (by decide)])
  by_cases w25_3 : w = nI 3
  · subst w25_3
    refine lv_tableIn (tgt := 70) hx hb dX5_district_25 (by decide) (by decide) rfl (by decide) ?_
    refine lv_aload_n hx hb dX5_district_70 rfl (lv_at hl 1 rfl) ?_
    refine lv_iload_n hx hb dX5_district_71 rfl (lv_at hl 0 rfl) ?_
    refine kV_i (E := E) (As := [.int (sqM Al k n x)]) (rest := []) (wr := []) ⟨hx, hb, hml, hown, hts⟩ (c_X5_roadsWithin (l := l) (E := E) (sz := _) (mo := mo) (mA := mA) (mK := mK) (mH := mH) (mS := mS) (mV := mV) (mF := mF) (mP := mP) (mR := mR) (hy := hy) (pl := pl) (sp := sp) (nu := nu) (rm := rm) (n := n) (k := k) (Al := Al) (x := sqM Al k n x) (gA1 := by first | assumption | omega) (gk := by first | assumption | omega) (gok := by first | assumption | omega)) (cwV 1 hts gX5_district_X5_roadsWithin rfl rfl rfl (by decide +kernel) ⟨by rw [hR]; decide, by rw [hR]; decide⟩) hK hN hP hD hS hA [0, 1] [] rfl (by decide) rfl (by decide) (by decide) 0 5 rfl rfl rfl hl.1 rfl (Nat.le_of_ble_eq_true rfl) dX5_district_72 ⟨Nat.zero_le _, Nat.zero_le _⟩ (fun H locs hP hD hS => ?_)
    have hP : va_P E.1 vwCl [(mo, .inr (5, [.ref mA, .ref mK, .ref mH, .int hy, .ref mS, .ref mV, .ref mF, .ref mP, .int pl, .int sp, .int nu, .ref mR, .int rm])), (mA, aI E 92 Al)] H := hP
    have hD : va_D A [(mo, .inr (5, [.ref mA, .ref mK, .ref mH, .int hy, .ref mS, .ref mV, .ref mF, .ref mP, .int pl, .int sp, .int nu, .ref mR, .int rm])), (mA, aI E 92 Al)] := hD
    refine lv_iload_n hx hb dX5_district_75 rfl (lv_at hl 0 rfl) ?_
    refine kS_i (E := E) (As := [.int (sqM Al k n x)]) (rest := [.int (nI (rwM Al (sqM Al k n x) k))]) (wr := [(mo, .inr (5, [.ref mA, .ref mK, .ref mH, .int hy, .ref mS, .ref mV, .ref mF, .ref mP, .int pl, .int sp, .int nu, .ref mR, .int rm])), (mA, aI E 92 Al)]) ⟨hx, hb, hml, hown, hts⟩ (c_X5_bits (l := l) (E := E) (sz := _) (x := sqM Al k n x) ) (cwS 1 hts gX5_district_X5_bits rfl rfl rfl (by decide +kernel) ⟨by rw [hR]; decide, by rw [hR]; decide⟩) hK hN hP hD hS hA [] [0, 1] rfl (by decide) rfl (by decide) (by decide) rfl hl.1 rfl (Nat.le_of_ble_eq_true rfl) dX5_district_76 ⟨Nat.zero_le _, Nat.zero_le _⟩ (fun H locs hP hD hS => ?_)
    have hP : va_P E.1 vwCl [(mo, .inr (5, [.ref mA, .ref mK, .ref mH, .int hy, .ref mS, .ref mV, .ref mF, .ref mP, .int pl, .int sp, .int nu, .ref mR, .int rm])), (mA, aI E 92 Al)] H := hP
    have hD : va_D A [(mo, .inr (5, [.ref mA, .ref mK, .ref mH, .int hy, .ref mS, .ref mV, .ref mF, .ref mP, .int pl, .int sp, .int nu, .ref mR, .int rm])), (mA, aI E 92 Al)] := hD
    refine lv_isub hx hb dX5_district_79 ?_
    refine lv_iconst (v := nI 1) hx hb dX5_district_80 (by decide) ?_
    refine lv_iadd hx hb dX5_district_81 ?_
    exact ret_i hQ hx hb hr hlocks (hP.sub [0, 1] rfl) (hD.sub [0, 1] (by decide) rfl) hS dX5_district_82 (by rw [swl_s (by decide), swl_s (by decide), swl_s (by decide), swl_0 (by decide)])
  refine lv_tableOut (tgt := 83) hx hb dX5_district_25 (tsw_out (N := 3) (by decide) (fun j hj => by rcases (show j = 0 ∨ j = 1 ∨ j = 2 ∨ j = 3 by omega) with rfl | rfl | rfl | rfl <;> assumption)) (by decide) ?_
  refine lv_bipush (v := (-2)) hx hb dX5_district_83 (by decide) ?_
  exact ret_i hQ hx hb hr hlocks (hP.sub [0, 1] rfl) (hD.sub [0, 1] (by decide) rfl) hS dX5_district_85 (by simp only [swl]; rw [if_neg w25_0, if_neg w25_1, if_neg w25_2, if_neg w25_3])
theorem iw_X5_count_5 : ∀ w ∈ u_ws RX5 TX5 13, w ∈ wsX5_count := by decide +kernel
theorem fl_X5_count_7 : Cond.fieldLink RX5 7 (TX5 0).1 (TX5 0).2.1 (TX5 0).2.2.1 ∈ wsX5_count := by decide +kernel
theorem ct140_X5_count : Cond.constant RX5 140 (nI 65535) ∈ wsX5_count := by decide +kernel
theorem fl_X5_count_141 : Cond.fieldLink RX5 141 (TX5 8).1 (TX5 8).2.1 (TX5 8).2.2.1 ∈ wsX5_count := by decide +kernel
theorem fl_X5_count_34 : Cond.fieldLink RX5 34 (TX5 3).1 (TX5 3).2.1 (TX5 3).2.2.1 ∈ wsX5_count := by decide +kernel
set_option maxHeartbeats 400000 in
set_option maxRecDepth 100000 in
theorem c_X5_count (l : Launch) (E : EE) (sz : Nat) (mo mA mK mH mS mV mF mP mR : Nat) (hy pl sp nu rm : Int32) (n k : Nat) (Al : Nat → Int32) (w : Int32) (gA0 : Al 0 = nI n) (gn : n ≤ 16) (gA1 : Al 1 = nI k) (gk : k ≤ 30) (gok : okA Al k) : Ci l yX5_count wsX5_count 7 161 E [.ref mo, .int w] [(mo, .inr (5, [.ref mA, .ref mK, .ref mH, .int hy, .ref mS, .ref mV, .ref mF, .ref mP, .int pl, .int sp, .int nu, .ref mR, .int rm])), (mA, aI E 92 Al)] sz (swl w [nI n, nI k, nI (piM Al k n), nI (popc (pgM Al k k)), nI (pSq (mpM Al k n) n), nI (dbM Al k n), nI (ldM (dlM Al k n) (dbM Al k n)).1, lwM Al (nI 65535) k, pl, hy] 0) [(mo, .inr (5, [.ref mA, .ref mK, .ref mH, .int hy, .ref mS, .ref mV, .ref mF, .ref mP, .int pl, .int sp, .int nu, .ref mR, .int rm])), (mA, aI E 92 Al)] := by
  refine C_of (QQ := QI E (swl w [nI n, nI k, nI (piM Al k n), nI (popc (pgM Al k k)), nI (pSq (mpM Al k n) n), nI (dbM Al k n), nI (ldM (dlM Al k n) (dbM Al k n)).1, lwM Al (nI 65535) k, pl, hy] 0) [(mo, .inr (5, [.ref mA, .ref mK, .ref mH, .int hy, .ref mS, .ref mV, .ref mF, .ref mP, .int pl, .int sp, .int nu, .ref mR, .int rm])), (mA, aI E 92 Al)]) (cc := cX5_count) (maxL := 2) (ret := (some .int)) (by decide +kernel) rfl (Nat.le_of_ble_eq_true rfl) ?_
  intro p e s m args below meth c A R Q ls hx hb hr hts hown hml hlocks hA hK hN hP hD hS hl hR hQ
  have hown : s.vm.findClass RX5 = some m.cls := hown
  have hl : lv_has ls 2 [(0, .ref mo), (1, .int w)] := hl
  refine lv_iload_n hx hb dX5_count_0 rfl (lv_at hl 1 rfl) ?_
  by_cases w1_0 : w = nI 0
  · subst w1_0
    refine lv_tableIn (tgt := 56) hx hb dX5_count_1 (by decide) (by decide) rfl (by decide) ?_
    refine lv_aload_n hx hb dX5_count_56 rfl (lv_at hl 0 rfl) ?_
    refine rk_get (ci := 5) (C := RX5) (T := TX5) (N := 13) hx hb hts iw_X5_count_5 hown hK hP 0 rfl rfl 0 (by decide) fl_X5_count_7 rfl (v := .ref mA) rfl dX5_count_57 ?_
    refine lv_iconst (v := nI 0) hx hb dX5_count_60 (by decide) ?_
    refine rk_iald hx hb hK hP 1 rfl (by omega) (by omega) (v := nI n) (by exact gA0) dX5_count_61 ?_
    exact ret_i hQ hx hb hr hlocks (hP.sub [0, 1] rfl) (hD.sub [0, 1] (by decide) rfl) hS dX5_count_62 (by rw [swl_0 (by decide)])
  by_cases w1_1 : w = nI 1
  · subst w1_1
    refine lv_tableIn (tgt := 63) hx hb dX5_count_1 (by decide) (by decide) rfl (by decide) ?_
    refine lv_aload_n hx hb dX5_count_63 rfl (lv_at hl 0 rfl) ?_
    refine rk_get (ci := 5) (C := RX5) (T := TX5) (N := 13) hx hb hts iw_X5_count_5 hown hK hP 0 rfl rfl 0 (by decide) fl_X5_count_7 rfl (v := .ref mA) rfl dX5_count_64 ?_
    refine lv_iconst (v := nI 1) hx hb dX5_count_67 (by decide) ?_
    refine rk_iald hx hb hK hP 1 rfl (by omega) (by omega) (v := nI k) (by exact gA1) dX5_count_68 ?_
    exact ret_i hQ hx hb hr hlocks (hP.sub [0, 1] rfl) (hD.sub [0, 1] (by decide) rfl) hS dX5_count_69 (by rw [swl_s (by decide), swl_0 (by decide)])
  by_cases w1_2 : w = nI 2
  · subst w1_2
    refine lv_tableIn (tgt := 70) hx hb dX5_count_1 (by decide) (by decide) rfl (by decide) ?_
    refine lv_aload_n hx hb dX5_count_70 rfl (lv_at hl 0 rfl) ?_
    refine kV_i (E := E) (As := []) (rest := []) (wr := []) ⟨hx, hb, hml, hown, hts⟩ (c_X5_pieces (l := l) (E := E) (sz := _) (mo := mo) (mA := mA) (mK := mK) (mH := mH) (mS := mS) (mV := mV) (mF := mF) (mP := mP) (mR := mR) (hy := hy) (pl := pl) (sp := sp) (nu := nu) (rm := rm) (n := n) (k := k) (Al := Al) (gA0 := by first | assumption | omega) (gn := by first | assumption | omega) (gA1 := by first | assumption | omega) (gk := by first | assumption | omega) (gok := by first | assumption | omega)) (cwV 0 hts gX5_count_X5_pieces rfl rfl rfl (by decide +kernel) ⟨by rw [hR]; decide, by rw [hR]; decide⟩) hK hN hP hD hS hA [0, 1] [] rfl (by decide) rfl (by decide) (by decide) 0 5 rfl rfl rfl hl.1 rfl (Nat.le_of_ble_eq_true rfl) dX5_count_71 ⟨Nat.zero_le _, Nat.zero_le _⟩ (fun H locs hP hD hS => ?_)
    have hP : va_P E.1 vwCl [(mo, .inr (5, [.ref mA, .ref mK, .ref mH, .int hy, .ref mS, .ref mV, .ref mF, .ref mP, .int pl, .int sp, .int nu, .ref mR, .int rm])), (mA, aI E 92 Al)] H := hP
    have hD : va_D A [(mo, .inr (5, [.ref mA, .ref mK, .ref mH, .int hy, .ref mS, .ref mV, .ref mF, .ref mP, .int pl, .int sp, .int nu, .ref mR, .int rm])), (mA, aI E 92 Al)] := hD
    exact ret_i hQ hx hb hr hlocks (hP.sub [0, 1] rfl) (hD.sub [0, 1] (by decide) rfl) hS dX5_count_74 (by rw [swl_s (by decide), swl_s (by decide), swl_0 (by decide)])
  by_cases w1_3 : w = nI 3
  · subst w1_3
    refine lv_tableIn (tgt := 75) hx hb dX5_count_1 (by decide) (by decide) rfl (by decide) ?_
    refine lv_aload_n hx hb dX5_count_75 rfl (lv_at hl 0 rfl) ?_
    refine kV_i (E := E) (As := []) (rest := []) (wr := []) ⟨hx, hb, hml, hown, hts⟩ (c_X5_parting (l := l) (E := E) (sz := _) (mo := mo) (mA := mA) (mK := mK) (mH := mH) (mS := mS) (mV := mV) (mF := mF) (mP := mP) (mR := mR) (hy := hy) (pl := pl) (sp := sp) (nu := nu) (rm := rm) (n := n) (k := k) (Al := Al) (gA1 := by first | assumption | omega) (gk := by first | assumption | omega) (gok := by first | assumption | omega)) (cwV 0 hts gX5_count_X5_parting rfl rfl rfl (by decide +kernel) ⟨by rw [hR]; decide, by rw [hR]; decide⟩) hK hN hP hD hS hA [0, 1] [] rfl (by decide) rfl (by decide) (by decide) 0 5 rfl rfl rfl hl.1 rfl (Nat.le_of_ble_eq_true rfl) dX5_count_76 ⟨Nat.zero_le _, Nat.zero_le _⟩ (fun H locs hP hD hS => ?_)
    have hP : va_P E.1 vwCl [(mo, .inr (5, [.ref mA, .ref mK, .ref mH, .int hy, .ref mS, .ref mV, .ref mF, .ref mP, .int pl, .int sp, .int nu, .ref mR, .int rm])), (mA, aI E 92 Al)] H := hP
    have hD : va_D A [(mo, .inr (5, [.ref mA, .ref mK, .ref mH, .int hy, .ref mS, .ref mV, .ref mF, .ref mP, .int pl, .int sp, .int nu, .ref mR, .int rm])), (mA, aI E 92 Al)] := hD
    refine kS_i (E := E) (As := [.int (pgM Al k k)]) (rest := []) (wr := [(mo, .inr (5, [.ref mA, .ref mK, .ref mH, .int hy, .ref mS, .ref mV, .ref mF, .ref mP, .int pl, .int sp, .int nu, .ref mR, .int rm])), (mA, aI E 92 Al)]) ⟨hx, hb, hml, hown, hts⟩ (c_X5_bits (l := l) (E := E) (sz := _) (x := pgM Al k k) ) (cwS 1 hts gX5_count_X5_bits rfl rfl rfl (by decide +kernel) ⟨by rw [hR]; decide, by rw [hR]; decide⟩) hK hN hP hD hS hA [] [0, 1] rfl (by decide) rfl (by decide) (by decide) rfl hl.1 rfl (Nat.le_of_ble_eq_true rfl) dX5_count_79 ⟨Nat.zero_le _, Nat.zero_le _⟩ (fun H locs hP hD hS => ?_)
    have hP : va_P E.1 vwCl [(mo, .inr (5, [.ref mA, .ref mK, .ref mH, .int hy, .ref mS, .ref mV, .ref mF, .ref mP, .int pl, .int sp, .int nu, .ref mR, .int rm])), (mA, aI E 92 Al)] H := hP
    have hD : va_D A [(mo, .inr (5, [.ref mA, .ref mK, .ref mH, .int hy, .ref mS, .ref mV, .ref mF, .ref mP, .int pl, .int sp, .int nu, .ref mR, .int rm])), (mA, aI E 92 Al)] := hD
    exact ret_i hQ hx hb hr hlocks (hP.sub [0, 1] rfl) (hD.sub [0, 1] (by decide) rfl) hS dX5_count_82 (by rw [swl_s (by decide), swl_s (by decide), swl_s (by decide), swl_0 (by decide)])
  by_cases w1_4 : w = nI 4
  · subst w1_4
    refine lv_tableIn (tgt := 83) hx hb dX5_count_1 (by decide) (by decide) rfl (by decide) ?_
    refine lv_aload_n hx hb dX5_count_83 rfl (lv_at hl 0 rfl) ?_
    refine kV_i (E := E) (As := []) (rest := []) (wr := []) ⟨hx, hb, hml, hown, hts⟩ (c_X5_squaresThatPart (l := l) (E := E) (sz := _) (mo := mo) (mA := mA) (mK := mK) (mH := mH) (mS := mS) (mV := mV) (mF := mF) (mP := mP) (mR := mR) (hy := hy) (pl := pl) (sp := sp) (nu := nu) (rm := rm) (n := n) (k := k) (Al := Al) (gA0 := by first | assumption | omega) (gn := by first | assumption | omega) (gA1 := by first | assumption | omega) (gk := by first | assumption | omega) (gok := by first | assumption | omega)) (cwV 0 hts gX5_count_X5_squaresThatPart rfl rfl rfl (by decide +kernel) ⟨by rw [hR]; decide, by rw [hR]; decide⟩) hK hN hP hD hS hA [0, 1] [] rfl (by decide) rfl (by decide) (by decide) 0 5 rfl rfl rfl hl.1 rfl (Nat.le_of_ble_eq_true rfl) dX5_count_84 ⟨Nat.zero_le _, Nat.zero_le _⟩ (fun H locs hP hD hS => ?_)
    have hP : va_P E.1 vwCl [(mo, .inr (5, [.ref mA, .ref mK, .ref mH, .int hy, .ref mS, .ref mV, .ref mF, .ref mP, .int pl, .int sp, .int nu, .ref mR, .int rm])), (mA, aI E 92 Al)] H := hP
    have hD : va_D A [(mo, .inr (5, [.ref mA, .ref mK, .ref mH, .int hy, .ref mS, .ref mV, .ref mF, .ref mP, .int pl, .int sp, .int nu, .ref mR, .int rm])), (mA, aI E 92 Al)] := hD
    exact ret_i hQ hx hb hr hlocks (hP.sub [0, 1] rfl) (hD.sub [0, 1] (by decide) rfl) hS dX5_count_87 (by rw [swl_s (by decide), swl_s (by decide), swl_s (by decide), swl_s (by decide), swl_0 (by decide)])
  by_cases w1_5 : w = nI 5
  · subst w1_5
    refine lv_tableIn (tgt := 88) hx hb dX5_count_1 (by decide) (by decide) rfl (by decide) ?_
    refine lv_aload_n hx hb dX5_count_88 rfl (lv_at hl 0 rfl) ?_
    refine kV_i (E := E) (As := []) (rest := []) (wr := []) ⟨hx, hb, hml, hown, hts⟩ (c_X5_districts (l := l) (E := E) (sz := _) (mo := mo) (mA := mA) (mK := mK) (mH := mH) (mS := mS) (mV := mV) (mF := mF) (mP := mP) (mR := mR) (hy := hy) (pl := pl) (sp := sp) (nu := nu) (rm := rm) (n := n) (k := k) (Al := Al) (gA0 := by first | assumption | omega) (gn := by first | assumption | omega) (gA1 := by first | assumption | omega) (gk := by first | assumption | omega) (gok := by first | assumption | omega)) (cwV 0 hts gX5_count_X5_districts rfl rfl rfl (by decide +kernel) ⟨by rw [hR]; decide, by rw [hR]; decide⟩) hK hN hP hD hS hA [0, 1] [] rfl (by decide) rfl (by decide) (by decide) 0 5 rfl rfl rfl hl.1 rfl (Nat.le_of_ble_eq_true rfl) dX5_count_89 ⟨Nat.zero_le _, Nat.zero_le _⟩ (fun H locs hP hD hS => ?_)
    have hP : va_P E.1 vwCl [(mo, .inr (5, [.ref mA, .ref mK, .ref mH, .int hy, .ref mS, .ref mV, .ref mF, .ref mP, .int pl, .int sp, .int nu, .ref mR, .int rm])), (mA, aI E 92 Al)] H := hP
    have hD : va_D A [(mo, .inr (5, [.ref mA, .ref mK, .ref mH, .int hy, .ref mS, .ref mV, .ref mF, .ref mP, .int pl, .int sp, .int nu, .ref mR, .int rm])), (mA, aI E 92 Al)] := hD
    exact ret_i hQ hx hb hr hlocks (hP.sub [0, 1] rfl) (hD.sub [0, 1] (by decide) rfl) hS dX5_count_92 (by rw [swl_s (by decide), swl_s (by decide), swl_s (by decide), swl_s (by decide), swl_s (by decide), swl_0 (by decide)])
  by_cases w1_6 : w = nI 6
  · subst w1_6
    refine lv_tableIn (tgt := 93) hx hb dX5_count_1 (by decide) (by decide) rfl (by decide) ?_
    refine lv_aload_n hx hb dX5_count_93 rfl (lv_at hl 0 rfl) ?_
    refine kV_i (E := E) (As := []) (rest := []) (wr := []) ⟨hx, hb, hml, hown, hts⟩ (c_X5_longestDistrict (l := l) (E := E) (sz := _) (mo := mo) (mA := mA) (mK := mK) (mH := mH) (mS := mS) (mV := mV) (mF := mF) (mP := mP) (mR := mR) (hy := hy) (pl := pl) (sp := sp) (nu := nu) (rm := rm) (n := n) (k := k) (Al := Al) (gA0 := by first | assumption | omega) (gn := by first | assumption | omega) (gA1 := by first | assumption | omega) (gk := by first | assumption | omega) (gok := by first | assumption | omega)) (cwV 0 hts gX5_count_X5_longestDistrict rfl rfl rfl (by decide +kernel) ⟨by rw [hR]; decide, by rw [hR]; decide⟩) hK hN hP hD hS hA [0, 1] [] rfl (by decide) rfl (by decide) (by decide) 0 5 rfl rfl rfl hl.1 rfl (Nat.le_of_ble_eq_true rfl) dX5_count_94 ⟨Nat.zero_le _, Nat.zero_le _⟩ (fun H locs hP hD hS => ?_)
    have hP : va_P E.1 vwCl [(mo, .inr (5, [.ref mA, .ref mK, .ref mH, .int hy, .ref mS, .ref mV, .ref mF, .ref mP, .int pl, .int sp, .int nu, .ref mR, .int rm])), (mA, aI E 92 Al)] H := hP
    have hD : va_D A [(mo, .inr (5, [.ref mA, .ref mK, .ref mH, .int hy, .ref mS, .ref mV, .ref mF, .ref mP, .int pl, .int sp, .int nu, .ref mR, .int rm])), (mA, aI E 92 Al)] := hD
    exact ret_i hQ hx hb hr hlocks (hP.sub [0, 1] rfl) (hD.sub [0, 1] (by decide) rfl) hS dX5_count_97 (by rw [swl_s (by decide), swl_s (by decide), swl_s (by decide), swl_s (by decide), swl_s (by decide), swl_s (by decide), swl_0 (by decide)])
  by_cases w1_7 : w = nI 7
  · subst w1_7
    refine lv_tableIn (tgt := 98) hx hb dX5_count_1 (by decide) (by decide) rfl (by decide) ?_
    refine lv_aload_n hx hb dX5_count_98 rfl (lv_at hl 0 rfl) ?_
    refine lv_ldc (v := nI 65535) hx hb hown (hts _ ct140_X5_count) dX5_count_99 ?_
    refine kV_i (E := E) (As := [.int (nI 65535)]) (rest := []) (wr := []) ⟨hx, hb, hml, hown, hts⟩ (c_X5_lengthWithin (l := l) (E := E) (sz := _) (mo := mo) (mA := mA) (mK := mK) (mH := mH) (mS := mS) (mV := mV) (mF := mF) (mP := mP) (mR := mR) (hy := hy) (pl := pl) (sp := sp) (nu := nu) (rm := rm) (n := n) (k := k) (Al := Al) (x := nI 65535) (gA1 := by first | assumption | omega) (gk := by first | assumption | omega) (gok := by first | assumption | omega)) (cwV 1 hts gX5_count_X5_lengthWithin rfl rfl rfl (by decide +kernel) ⟨by rw [hR]; decide, by rw [hR]; decide⟩) hK hN hP hD hS hA [0, 1] [] rfl (by decide) rfl (by decide) (by decide) 0 5 rfl rfl rfl hl.1 rfl (Nat.le_of_ble_eq_true rfl) dX5_count_101 ⟨Nat.zero_le _, Nat.zero_le _⟩ (fun H locs hP hD hS => ?_)
    have hP : va_P E.1 vwCl [(mo, .inr (5, [.ref mA, .ref mK, .ref mH, .int hy, .ref mS, .ref mV, .ref mF, .ref mP, .int pl, .int sp, .int nu, .ref mR, .int rm])), (mA, aI E 92 Al)] H := hP
    have hD : va_D A [(mo, .inr (5, [.ref mA, .ref mK, .ref mH, .int hy, .ref mS, .ref mV, .ref mF, .ref mP, .int pl, .int sp, .int nu, .ref mR, .int rm])), (mA, aI E 92 Al)] := hD
    exact ret_i hQ hx hb hr hlocks (hP.sub [0, 1] rfl) (hD.sub [0, 1] (by decide) rfl) hS dX5_count_104 (by rw [swl_s (by decide), swl_s (by decide), swl_s (by decide), swl_s (by decide), swl_s (by decide), swl_s (by decide), swl_s (by decide), swl_0 (by decide)])
  by_cases w1_8 : w = nI 8
  · subst w1_8
    refine lv_tableIn (tgt := 105) hx hb dX5_count_1 (by decide) (by decide) rfl (by decide) ?_
    refine lv_aload_n hx hb dX5_count_105 rfl (lv_at hl 0 rfl) ?_
    refine rk_get (ci := 5) (C := RX5) (T := TX5) (N := 13) hx hb hts iw_X5_count_5 hown hK hP 0 rfl rfl 8 (by decide) fl_X5_count_141 rfl (v := .int pl) rfl dX5_count_106 ?_
    exact ret_i hQ hx hb hr hlocks (hP.sub [0, 1] rfl) (hD.sub [0, 1] (by decide) rfl) hS dX5_count_109 (by rw [swl_s (by decide), swl_s (by decide), swl_s (by decide), swl_s (by decide), swl_s (by decide), swl_s (by decide), swl_s (by decide), swl_s (by decide), swl_0 (by decide)])
  by_cases w1_9 : w = nI 9
  · subst w1_9
    refine lv_tableIn (tgt := 110) hx hb dX5_count_1 (by decide) (by decide) rfl (by decide) ?_
    refine lv_aload_n hx hb dX5_count_110 rfl (lv_at hl 0 rfl) ?_
    refine rk_get (ci := 5) (C := RX5) (T := TX5) (N := 13) hx hb hts iw_X5_count_5 hown hK hP 0 rfl rfl 3 (by decide) fl_X5_count_34 rfl (v := .int hy) rfl dX5_count_111 ?_
    exact ret_i hQ hx hb hr hlocks (hP.sub [0, 1] rfl) (hD.sub [0, 1] (by decide) rfl) hS dX5_count_114 (by rw [swl_s (by decide), swl_s (by decide), swl_s (by decide), swl_s (by decide), swl_s (by decide), swl_s (by decide), swl_s (by decide), swl_s (by decide), swl_s (by decide), swl_0 (by decide)])
  refine lv_tableOut (tgt := 115) hx hb dX5_count_1 (tsw_out (N := 9) (by decide) (fun j hj => by rcases (show j = 0 ∨ j = 1 ∨ j = 2 ∨ j = 3 ∨ j = 4 ∨ j = 5 ∨ j = 6 ∨ j = 7 ∨ j = 8 ∨ j = 9 by omega) with rfl | rfl | rfl | rfl | rfl | rfl | rfl | rfl | rfl | rfl <;> assumption)) (by decide) ?_
  refine lv_bipush (v := (-2)) hx hb dX5_count_115 (by decide) ?_
  exact ret_i hQ hx hb hr hlocks (hP.sub [0, 1] rfl) (hD.sub [0, 1] (by decide) rfl) hS dX5_count_117 (by simp only [swl]; rw [if_neg w1_0, if_neg w1_1, if_neg w1_2, if_neg w1_3, if_neg w1_4, if_neg w1_5, if_neg w1_6, if_neg w1_7, if_neg w1_8, if_neg w1_9])
set_option maxHeartbeats 400000 in
set_option maxRecDepth 100000 in
theorem c_X5_way_bad (l : Launch) (E : EE) (sz : Nat) (mo mA mK mH mS mV mF mP mR : Nat) (hy pl sp nu rm : Int32) (n k : Nat) (Al : Nat → Int32) (a b w : Int32) (gA0 : Al 0 = nI n) (gn : n ≤ 16) (gb : inR a (nI n) = true → inR b (nI n) = false) : Ci l yX5_way wsX5_way 2 46 E [.ref mo, .int a, .int b, .int w] [(mo, .inr (5, [.ref mA, .ref mK, .ref mH, .int hy, .ref mS, .ref mV, .ref mF, .ref mP, .int pl, .int sp, .int nu, .ref mR, .int rm])), (mA, aI E 92 Al)] sz (-1) [(mo, .inr (5, [.ref mA, .ref mK, .ref mH, .int hy, .ref mS, .ref mV, .ref mF, .ref mP, .int pl, .int sp, .int nu, .ref mR, .int rm])), (mA, aI E 92 Al)] := by
  refine C_of (QQ := QI E (-1) [(mo, .inr (5, [.ref mA, .ref mK, .ref mH, .int hy, .ref mS, .ref mV, .ref mF, .ref mP, .int pl, .int sp, .int nu, .ref mR, .int rm])), (mA, aI E 92 Al)]) (cc := cX5_way) (maxL := 4) (ret := (some .int)) (by decide +kernel) rfl (Nat.le_of_ble_eq_true rfl) ?_
  intro p e s m args below meth c A R Q ls hx hb hr hts hown hml hlocks hA hK hN hP hD hS hl hR hQ
  have hown : s.vm.findClass RX5 = some m.cls := hown
  have hl : lv_has ls 4 [(0, .ref mo), (1, .int a), (2, .int b), (3, .int w)] := hl
  refine lv_aload_n hx hb dX5_way_0 rfl (lv_at hl 0 rfl) ?_
  refine lv_iload_n hx hb dX5_way_1 rfl (lv_at hl 1 rfl) ?_
  refine kV_i (E := E) (As := [.int a]) (rest := []) (wr := []) ⟨hx, hb, hml, hown, hts⟩ (c_X5_isSquare (l := l) (E := E) (sz := _) (mo := mo) (mA := mA) (mK := mK) (mH := mH) (mS := mS) (mV := mV) (mF := mF) (mP := mP) (mR := mR) (hy := hy) (pl := pl) (sp := sp) (nu := nu) (rm := rm) (n := n) (k := k) (Al := Al) (x := a) (gA0 := by first | assumption | omega) (gn := by first | assumption | omega)) (cwV 1 hts gX5_way_X5_isSquare rfl rfl rfl (by decide +kernel) ⟨by rw [hR]; decide, by rw [hR]; decide⟩) hK hN hP hD hS hA [0, 1] [] rfl (by decide) rfl (by decide) (by decide) 0 5 rfl rfl rfl hl.1 rfl (Nat.le_of_ble_eq_true rfl) dX5_way_2 ⟨Nat.zero_le _, Nat.zero_le _⟩ (fun H locs hP hD hS => ?_)
  have hP : va_P E.1 vwCl [(mo, .inr (5, [.ref mA, .ref mK, .ref mH, .int hy, .ref mS, .ref mV, .ref mF, .ref mP, .int pl, .int sp, .int nu, .ref mR, .int rm])), (mA, aI E 92 Al)] H := hP
  have hD : va_D A [(mo, .inr (5, [.ref mA, .ref mK, .ref mH, .int hy, .ref mS, .ref mV, .ref mF, .ref mP, .int pl, .int sp, .int nu, .ref mR, .int rm])), (mA, aI E 92 Al)] := hD
  refine rk_if_eqB (tgt := 16) hx hb dX5_way_5 (by decide) (fun zc5 => ?_) (fun zc5 => ?_)
  · refine lv_iconst (v := (-1)) hx hb dX5_way_16 (by decide) ?_
    exact ret_i hQ hx hb hr hlocks (hP.sub [0, 1] rfl) (hD.sub [0, 1] (by decide) rfl) hS dX5_way_17 (rfl)
  · refine lv_aload_n hx hb dX5_way_8 rfl (lv_at hl 0 rfl) ?_
    refine lv_iload_n hx hb dX5_way_9 rfl (lv_at hl 2 rfl) ?_
    refine kV_i (E := E) (As := [.int b]) (rest := []) (wr := []) ⟨hx, hb, hml, hown, hts⟩ (c_X5_isSquare (l := l) (E := E) (sz := _) (mo := mo) (mA := mA) (mK := mK) (mH := mH) (mS := mS) (mV := mV) (mF := mF) (mP := mP) (mR := mR) (hy := hy) (pl := pl) (sp := sp) (nu := nu) (rm := rm) (n := n) (k := k) (Al := Al) (x := b) (gA0 := by first | assumption | omega) (gn := by first | assumption | omega)) (cwV 1 hts gX5_way_X5_isSquare rfl rfl rfl (by decide +kernel) ⟨by rw [hR]; decide, by rw [hR]; decide⟩) hK hN hP hD hS hA [0, 1] [] rfl (by decide) rfl (by decide) (by decide) 0 5 rfl rfl rfl hl.1 rfl (Nat.le_of_ble_eq_true rfl) dX5_way_10 ⟨Nat.zero_le _, Nat.zero_le _⟩ (fun H locs hP hD hS => ?_)
    have hP : va_P E.1 vwCl [(mo, .inr (5, [.ref mA, .ref mK, .ref mH, .int hy, .ref mS, .ref mV, .ref mF, .ref mP, .int pl, .int sp, .int nu, .ref mR, .int rm])), (mA, aI E 92 Al)] H := hP
    have hD : va_D A [(mo, .inr (5, [.ref mA, .ref mK, .ref mH, .int hy, .ref mS, .ref mV, .ref mF, .ref mP, .int pl, .int sp, .int nu, .ref mR, .int rm])), (mA, aI E 92 Al)] := hD
    refine rk_if_neB (tgt := 18) hx hb dX5_way_13 (by decide) (fun q => absurd q (by rw [gb zc5]; decide)) (fun zc13 => ?_)
    refine lv_iconst (v := (-1)) hx hb dX5_way_16 (by decide) ?_
    exact ret_i hQ hx hb hr hlocks (hP.sub [0, 1] rfl) (hD.sub [0, 1] (by decide) rfl) hS dX5_way_17 (rfl)
set_option maxHeartbeats 400000 in
set_option maxRecDepth 100000 in
theorem c_X5_must_bad (l : Launch) (E : EE) (sz : Nat) (mo mA mK mH mS mV mF mP mR : Nat) (hy pl sp nu rm : Int32) (n k : Nat) (Al : Nat → Int32) (a b w : Int32) (gA0 : Al 0 = nI n) (gn : n ≤ 16) (gb : inR a (nI n) = true → inR b (nI n) = false) : Ci l yX5_must wsX5_must 2 46 E [.ref mo, .int a, .int b, .int w] [(mo, .inr (5, [.ref mA, .ref mK, .ref mH, .int hy, .ref mS, .ref mV, .ref mF, .ref mP, .int pl, .int sp, .int nu, .ref mR, .int rm])), (mA, aI E 92 Al)] sz (-1) [(mo, .inr (5, [.ref mA, .ref mK, .ref mH, .int hy, .ref mS, .ref mV, .ref mF, .ref mP, .int pl, .int sp, .int nu, .ref mR, .int rm])), (mA, aI E 92 Al)] := by
  refine C_of (QQ := QI E (-1) [(mo, .inr (5, [.ref mA, .ref mK, .ref mH, .int hy, .ref mS, .ref mV, .ref mF, .ref mP, .int pl, .int sp, .int nu, .ref mR, .int rm])), (mA, aI E 92 Al)]) (cc := cX5_must) (maxL := 8) (ret := (some .int)) (by decide +kernel) rfl (Nat.le_of_ble_eq_true rfl) ?_
  intro p e s m args below meth c A R Q ls hx hb hr hts hown hml hlocks hA hK hN hP hD hS hl hR hQ
  have hown : s.vm.findClass RX5 = some m.cls := hown
  have hl : lv_has ls 8 [(0, .ref mo), (1, .int a), (2, .int b), (3, .int w)] := hl
  refine lv_aload_n hx hb dX5_must_0 rfl (lv_at hl 0 rfl) ?_
  refine lv_iload_n hx hb dX5_must_1 rfl (lv_at hl 1 rfl) ?_
  refine kV_i (E := E) (As := [.int a]) (rest := []) (wr := []) ⟨hx, hb, hml, hown, hts⟩ (c_X5_isSquare (l := l) (E := E) (sz := _) (mo := mo) (mA := mA) (mK := mK) (mH := mH) (mS := mS) (mV := mV) (mF := mF) (mP := mP) (mR := mR) (hy := hy) (pl := pl) (sp := sp) (nu := nu) (rm := rm) (n := n) (k := k) (Al := Al) (x := a) (gA0 := by first | assumption | omega) (gn := by first | assumption | omega)) (cwV 1 hts gX5_must_X5_isSquare rfl rfl rfl (by decide +kernel) ⟨by rw [hR]; decide, by rw [hR]; decide⟩) hK hN hP hD hS hA [0, 1] [] rfl (by decide) rfl (by decide) (by decide) 0 5 rfl rfl rfl hl.1 rfl (Nat.le_of_ble_eq_true rfl) dX5_must_2 ⟨Nat.zero_le _, Nat.zero_le _⟩ (fun H locs hP hD hS => ?_)
  have hP : va_P E.1 vwCl [(mo, .inr (5, [.ref mA, .ref mK, .ref mH, .int hy, .ref mS, .ref mV, .ref mF, .ref mP, .int pl, .int sp, .int nu, .ref mR, .int rm])), (mA, aI E 92 Al)] H := hP
  have hD : va_D A [(mo, .inr (5, [.ref mA, .ref mK, .ref mH, .int hy, .ref mS, .ref mV, .ref mF, .ref mP, .int pl, .int sp, .int nu, .ref mR, .int rm])), (mA, aI E 92 Al)] := hD
  refine rk_if_eqB (tgt := 16) hx hb dX5_must_5 (by decide) (fun zc5 => ?_) (fun zc5 => ?_)
  · refine lv_iconst (v := (-1)) hx hb dX5_must_16 (by decide) ?_
    exact ret_i hQ hx hb hr hlocks (hP.sub [0, 1] rfl) (hD.sub [0, 1] (by decide) rfl) hS dX5_must_17 (rfl)
  · refine lv_aload_n hx hb dX5_must_8 rfl (lv_at hl 0 rfl) ?_
    refine lv_iload_n hx hb dX5_must_9 rfl (lv_at hl 2 rfl) ?_
    refine kV_i (E := E) (As := [.int b]) (rest := []) (wr := []) ⟨hx, hb, hml, hown, hts⟩ (c_X5_isSquare (l := l) (E := E) (sz := _) (mo := mo) (mA := mA) (mK := mK) (mH := mH) (mS := mS) (mV := mV) (mF := mF) (mP := mP) (mR := mR) (hy := hy) (pl := pl) (sp := sp) (nu := nu) (rm := rm) (n := n) (k := k) (Al := Al) (x := b) (gA0 := by first | assumption | omega) (gn := by first | assumption | omega)) (cwV 1 hts gX5_must_X5_isSquare rfl rfl rfl (by decide +kernel) ⟨by rw [hR]; decide, by rw [hR]; decide⟩) hK hN hP hD hS hA [0, 1] [] rfl (by decide) rfl (by decide) (by decide) 0 5 rfl rfl rfl hl.1 rfl (Nat.le_of_ble_eq_true rfl) dX5_must_10 ⟨Nat.zero_le _, Nat.zero_le _⟩ (fun H locs hP hD hS => ?_)
    have hP : va_P E.1 vwCl [(mo, .inr (5, [.ref mA, .ref mK, .ref mH, .int hy, .ref mS, .ref mV, .ref mF, .ref mP, .int pl, .int sp, .int nu, .ref mR, .int rm])), (mA, aI E 92 Al)] H := hP
    have hD : va_D A [(mo, .inr (5, [.ref mA, .ref mK, .ref mH, .int hy, .ref mS, .ref mV, .ref mF, .ref mP, .int pl, .int sp, .int nu, .ref mR, .int rm])), (mA, aI E 92 Al)] := hD
    refine rk_if_neB (tgt := 18) hx hb dX5_must_13 (by decide) (fun q => absurd q (by rw [gb zc5]; decide)) (fun zc13 => ?_)
    refine lv_iconst (v := (-1)) hx hb dX5_must_16 (by decide) ?_
    exact ret_i hQ hx hb hr hlocks (hP.sub [0, 1] rfl) (hD.sub [0, 1] (by decide) rfl) hS dX5_must_17 (rfl)
set_option maxHeartbeats 400000 in
set_option maxRecDepth 100000 in
theorem c_X5_ifBuilt_bad (l : Launch) (E : EE) (sz : Nat) (mo mA mK mH mS mV mF mP mR : Nat) (hy pl sp nu rm : Int32) (n k : Nat) (Al : Nat → Int32) (a b w : Int32) (gA0 : Al 0 = nI n) (gn : n ≤ 16) (gb : inR a (nI n) = true → inR b (nI n) = false) : Ci l yX5_ifBuilt wsX5_ifBuilt 2 46 E [.ref mo, .int a, .int b, .int w] [(mo, .inr (5, [.ref mA, .ref mK, .ref mH, .int hy, .ref mS, .ref mV, .ref mF, .ref mP, .int pl, .int sp, .int nu, .ref mR, .int rm])), (mA, aI E 92 Al)] sz (-1) [(mo, .inr (5, [.ref mA, .ref mK, .ref mH, .int hy, .ref mS, .ref mV, .ref mF, .ref mP, .int pl, .int sp, .int nu, .ref mR, .int rm])), (mA, aI E 92 Al)] := by
  refine C_of (QQ := QI E (-1) [(mo, .inr (5, [.ref mA, .ref mK, .ref mH, .int hy, .ref mS, .ref mV, .ref mF, .ref mP, .int pl, .int sp, .int nu, .ref mR, .int rm])), (mA, aI E 92 Al)]) (cc := cX5_ifBuilt) (maxL := 6) (ret := (some .int)) (by decide +kernel) rfl (Nat.le_of_ble_eq_true rfl) ?_
  intro p e s m args below meth c A R Q ls hx hb hr hts hown hml hlocks hA hK hN hP hD hS hl hR hQ
  have hown : s.vm.findClass RX5 = some m.cls := hown
  have hl : lv_has ls 6 [(0, .ref mo), (1, .int a), (2, .int b), (3, .int w)] := hl
  refine lv_aload_n hx hb dX5_ifBuilt_0 rfl (lv_at hl 0 rfl) ?_
  refine lv_iload_n hx hb dX5_ifBuilt_1 rfl (lv_at hl 1 rfl) ?_
  refine kV_i (E := E) (As := [.int a]) (rest := []) (wr := []) ⟨hx, hb, hml, hown, hts⟩ (c_X5_isSquare (l := l) (E := E) (sz := _) (mo := mo) (mA := mA) (mK := mK) (mH := mH) (mS := mS) (mV := mV) (mF := mF) (mP := mP) (mR := mR) (hy := hy) (pl := pl) (sp := sp) (nu := nu) (rm := rm) (n := n) (k := k) (Al := Al) (x := a) (gA0 := by first | assumption | omega) (gn := by first | assumption | omega)) (cwV 1 hts gX5_ifBuilt_X5_isSquare rfl rfl rfl (by decide +kernel) ⟨by rw [hR]; decide, by rw [hR]; decide⟩) hK hN hP hD hS hA [0, 1] [] rfl (by decide) rfl (by decide) (by decide) 0 5 rfl rfl rfl hl.1 rfl (Nat.le_of_ble_eq_true rfl) dX5_ifBuilt_2 ⟨Nat.zero_le _, Nat.zero_le _⟩ (fun H locs hP hD hS => ?_)
  have hP : va_P E.1 vwCl [(mo, .inr (5, [.ref mA, .ref mK, .ref mH, .int hy, .ref mS, .ref mV, .ref mF, .ref mP, .int pl, .int sp, .int nu, .ref mR, .int rm])), (mA, aI E 92 Al)] H := hP
  have hD : va_D A [(mo, .inr (5, [.ref mA, .ref mK, .ref mH, .int hy, .ref mS, .ref mV, .ref mF, .ref mP, .int pl, .int sp, .int nu, .ref mR, .int rm])), (mA, aI E 92 Al)] := hD
  refine rk_if_eqB (tgt := 16) hx hb dX5_ifBuilt_5 (by decide) (fun zc5 => ?_) (fun zc5 => ?_)
  · refine lv_iconst (v := (-1)) hx hb dX5_ifBuilt_16 (by decide) ?_
    exact ret_i hQ hx hb hr hlocks (hP.sub [0, 1] rfl) (hD.sub [0, 1] (by decide) rfl) hS dX5_ifBuilt_17 (rfl)
  · refine lv_aload_n hx hb dX5_ifBuilt_8 rfl (lv_at hl 0 rfl) ?_
    refine lv_iload_n hx hb dX5_ifBuilt_9 rfl (lv_at hl 2 rfl) ?_
    refine kV_i (E := E) (As := [.int b]) (rest := []) (wr := []) ⟨hx, hb, hml, hown, hts⟩ (c_X5_isSquare (l := l) (E := E) (sz := _) (mo := mo) (mA := mA) (mK := mK) (mH := mH) (mS := mS) (mV := mV) (mF := mF) (mP := mP) (mR := mR) (hy := hy) (pl := pl) (sp := sp) (nu := nu) (rm := rm) (n := n) (k := k) (Al := Al) (x := b) (gA0 := by first | assumption | omega) (gn := by first | assumption | omega)) (cwV 1 hts gX5_ifBuilt_X5_isSquare rfl rfl rfl (by decide +kernel) ⟨by rw [hR]; decide, by rw [hR]; decide⟩) hK hN hP hD hS hA [0, 1] [] rfl (by decide) rfl (by decide) (by decide) 0 5 rfl rfl rfl hl.1 rfl (Nat.le_of_ble_eq_true rfl) dX5_ifBuilt_10 ⟨Nat.zero_le _, Nat.zero_le _⟩ (fun H locs hP hD hS => ?_)
    have hP : va_P E.1 vwCl [(mo, .inr (5, [.ref mA, .ref mK, .ref mH, .int hy, .ref mS, .ref mV, .ref mF, .ref mP, .int pl, .int sp, .int nu, .ref mR, .int rm])), (mA, aI E 92 Al)] H := hP
    have hD : va_D A [(mo, .inr (5, [.ref mA, .ref mK, .ref mH, .int hy, .ref mS, .ref mV, .ref mF, .ref mP, .int pl, .int sp, .int nu, .ref mR, .int rm])), (mA, aI E 92 Al)] := hD
    refine rk_if_neB (tgt := 18) hx hb dX5_ifBuilt_13 (by decide) (fun q => absurd q (by rw [gb zc5]; decide)) (fun zc13 => ?_)
    refine lv_iconst (v := (-1)) hx hb dX5_ifBuilt_16 (by decide) ?_
    exact ret_i hQ hx hb hr hlocks (hP.sub [0, 1] rfl) (hD.sub [0, 1] (by decide) rfl) hS dX5_ifBuilt_17 (rfl)
theorem cl68_X5_way : Cond.constantLong RX5 68 (2) ∈ wsX5_way := by decide +kernel
set_option maxHeartbeats 400000 in
set_option maxRecDepth 100000 in
theorem c_X5_way_val (l : Launch) (E : EE) (sz : Nat) (mo mA mK mH mS mV mF mP mR : Nat) (hy pl sp nu rm : Int32) (n k : Nat) (Al : Nat → Int32) (x y : Nat) (w : Int32) (gA0 : Al 0 = nI n) (gn : n ≤ 16) (gA1 : Al 1 = nI k) (gk : k ≤ 30) (gok : okA Al k) (gx : x < n) (gy : y < n) (gw : w < nI 0 ∨ nI 2 < w) : Ci l yX5_way wsX5_way 2 46 E [.ref mo, .int (nI x), .int (nI y), .int w] [(mo, .inr (5, [.ref mA, .ref mK, .ref mH, .int hy, .ref mS, .ref mV, .ref mF, .ref mP, .int pl, .int sp, .int nu, .ref mR, .int rm])), (mA, aI E 92 Al)] sz (-2) [(mo, .inr (5, [.ref mA, .ref mK, .ref mH, .int hy, .ref mS, .ref mV, .ref mF, .ref mP, .int pl, .int sp, .int nu, .ref mR, .int rm])), (mA, aI E 92 Al)] := by
  refine C_of (QQ := QI E (-2) [(mo, .inr (5, [.ref mA, .ref mK, .ref mH, .int hy, .ref mS, .ref mV, .ref mF, .ref mP, .int pl, .int sp, .int nu, .ref mR, .int rm])), (mA, aI E 92 Al)]) (cc := cX5_way) (maxL := 4) (ret := (some .int)) (by decide +kernel) rfl (Nat.le_of_ble_eq_true rfl) ?_
  intro p e s m args below meth c A R Q ls hx hb hr hts hown hml hlocks hA hK hN hP hD hS hl hR hQ
  have hown : s.vm.findClass RX5 = some m.cls := hown
  have hl : lv_has ls 4 [(0, .ref mo), (1, .int (nI x)), (2, .int (nI y)), (3, .int w)] := hl
  refine lv_aload_n hx hb dX5_way_0 rfl (lv_at hl 0 rfl) ?_
  refine lv_iload_n hx hb dX5_way_1 rfl (lv_at hl 1 rfl) ?_
  refine kV_i (E := E) (As := [.int (nI x)]) (rest := []) (wr := []) ⟨hx, hb, hml, hown, hts⟩ (c_X5_isSquare (l := l) (E := E) (sz := _) (mo := mo) (mA := mA) (mK := mK) (mH := mH) (mS := mS) (mV := mV) (mF := mF) (mP := mP) (mR := mR) (hy := hy) (pl := pl) (sp := sp) (nu := nu) (rm := rm) (n := n) (k := k) (Al := Al) (x := nI x) (gA0 := by first | assumption | omega) (gn := by first | assumption | omega)) (cwV 1 hts gX5_way_X5_isSquare rfl rfl rfl (by decide +kernel) ⟨by rw [hR]; decide, by rw [hR]; decide⟩) hK hN hP hD hS hA [0, 1] [] rfl (by decide) rfl (by decide) (by decide) 0 5 rfl rfl rfl hl.1 rfl (Nat.le_of_ble_eq_true rfl) dX5_way_2 ⟨Nat.zero_le _, Nat.zero_le _⟩ (fun H locs hP hD hS => ?_)
  have hP : va_P E.1 vwCl [(mo, .inr (5, [.ref mA, .ref mK, .ref mH, .int hy, .ref mS, .ref mV, .ref mF, .ref mP, .int pl, .int sp, .int nu, .ref mR, .int rm])), (mA, aI E 92 Al)] H := hP
  have hD : va_D A [(mo, .inr (5, [.ref mA, .ref mK, .ref mH, .int hy, .ref mS, .ref mV, .ref mF, .ref mP, .int pl, .int sp, .int nu, .ref mR, .int rm])), (mA, aI E 92 Al)] := hD
  refine rk_if_eqB (tgt := 16) hx hb dX5_way_5 (by decide) (fun q => absurd q (by rw [inR_ok gx (by omega)]; decide)) (fun zc5 => ?_)
  refine lv_aload_n hx hb dX5_way_8 rfl (lv_at hl 0 rfl) ?_
  refine lv_iload_n hx hb dX5_way_9 rfl (lv_at hl 2 rfl) ?_
  refine kV_i (E := E) (As := [.int (nI y)]) (rest := []) (wr := []) ⟨hx, hb, hml, hown, hts⟩ (c_X5_isSquare (l := l) (E := E) (sz := _) (mo := mo) (mA := mA) (mK := mK) (mH := mH) (mS := mS) (mV := mV) (mF := mF) (mP := mP) (mR := mR) (hy := hy) (pl := pl) (sp := sp) (nu := nu) (rm := rm) (n := n) (k := k) (Al := Al) (x := nI y) (gA0 := by first | assumption | omega) (gn := by first | assumption | omega)) (cwV 1 hts gX5_way_X5_isSquare rfl rfl rfl (by decide +kernel) ⟨by rw [hR]; decide, by rw [hR]; decide⟩) hK hN hP hD hS hA [0, 1] [] rfl (by decide) rfl (by decide) (by decide) 0 5 rfl rfl rfl hl.1 rfl (Nat.le_of_ble_eq_true rfl) dX5_way_10 ⟨Nat.zero_le _, Nat.zero_le _⟩ (fun H locs hP hD hS => ?_)
  have hP : va_P E.1 vwCl [(mo, .inr (5, [.ref mA, .ref mK, .ref mH, .int hy, .ref mS, .ref mV, .ref mF, .ref mP, .int pl, .int sp, .int nu, .ref mR, .int rm])), (mA, aI E 92 Al)] H := hP
  have hD : va_D A [(mo, .inr (5, [.ref mA, .ref mK, .ref mH, .int hy, .ref mS, .ref mV, .ref mF, .ref mP, .int pl, .int sp, .int nu, .ref mR, .int rm])), (mA, aI E 92 Al)] := hD
  refine rk_if_neB (tgt := 18) hx hb dX5_way_13 (by decide) (fun zc13 => ?_) (fun q => absurd q (by rw [inR_ok gy (by omega)]; decide))
  refine lv_iload_n hx hb dX5_way_18 rfl (lv_at hl 3 rfl) ?_
  refine lv_i2l hx hb dX5_way_19 rfl ?_
  refine lv_lconst (v := 0) hx hb dX5_way_20 (by decide) ?_
  refine lv_ldc2 (v := 2) hx hb hown (hts _ cl68_X5_way) dX5_way_21 ?_
  refine kS_i (E := E) (As := [.long w.toInt64, .long ((0 : Int64)), .long ((2 : Int64))]) (rest := []) (wr := [(mo, .inr (5, [.ref mA, .ref mK, .ref mH, .int hy, .ref mS, .ref mV, .ref mF, .ref mP, .int pl, .int sp, .int nu, .ref mR, .int rm])), (mA, aI E 92 Al)]) ⟨hx, hb, hml, hown, hts⟩ (c_X5_in (l := l) (E := E) (sz := _) (v := w.toInt64) (lo9 := (0 : Int64)) (hi9 := (2 : Int64)) ) (cwS 3 hts gX5_way_X5_in rfl rfl rfl (by decide +kernel) ⟨by rw [hR]; decide, by rw [hR]; decide⟩) hK hN hP hD hS hA [] [0, 1] rfl (by decide) rfl (by decide) (by decide) rfl hl.1 rfl (Nat.le_of_ble_eq_true rfl) dX5_way_24 ⟨Nat.zero_le _, Nat.zero_le _⟩ (fun H locs hP hD hS => ?_)
  have hP : va_P E.1 vwCl [(mo, .inr (5, [.ref mA, .ref mK, .ref mH, .int hy, .ref mS, .ref mV, .ref mF, .ref mP, .int pl, .int sp, .int nu, .ref mR, .int rm])), (mA, aI E 92 Al)] H := hP
  have hD : va_D A [(mo, .inr (5, [.ref mA, .ref mK, .ref mH, .int hy, .ref mS, .ref mV, .ref mF, .ref mP, .int pl, .int sp, .int nu, .ref mR, .int rm])), (mA, aI E 92 Al)] := hD
  refine rk_if_neB (tgt := 33) hx hb dX5_way_27 (by decide) (fun q => absurd (q.symm.trans (inLw_f (a := 0) (b := 2) (by decide) (by decide) gw)) (by decide)) (fun zc27 => ?_)
  refine lv_bipush (v := (-2)) hx hb dX5_way_30 (by decide) ?_
  exact ret_i hQ hx hb hr hlocks (hP.sub [0, 1] rfl) (hD.sub [0, 1] (by decide) rfl) hS dX5_way_32 (rfl)
set_option maxHeartbeats 400000 in
set_option maxRecDepth 100000 in
theorem c_X5_way_none (l : Launch) (E : EE) (sz : Nat) (mo mA mK mH mS mV mF mP mR : Nat) (hy pl sp nu rm : Int32) (n k : Nat) (Al : Nat → Int32) (x y : Nat) (w : Int32) (gA0 : Al 0 = nI n) (gn : n ≤ 16) (gA1 : Al 1 = nI k) (gk : k ≤ 30) (gok : okA Al k) (gx : x < n) (gy : y < n) (gw1 : ¬ w < nI 0) (gw2 : ¬ nI 2 < w) (gh : hgM Al k x (nI y) = false) : Ci l yX5_way wsX5_way 4 92 E [.ref mo, .int (nI x), .int (nI y), .int w] [(mo, .inr (5, [.ref mA, .ref mK, .ref mH, .int hy, .ref mS, .ref mV, .ref mF, .ref mP, .int pl, .int sp, .int nu, .ref mR, .int rm])), (mA, aI E 92 Al)] sz (-6) [(mo, .inr (5, [.ref mA, .ref mK, .ref mH, .int hy, .ref mS, .ref mV, .ref mF, .ref mP, .int pl, .int sp, .int nu, .ref mR, .int rm])), (mA, aI E 92 Al)] := by
  refine C_of (QQ := QI E (-6) [(mo, .inr (5, [.ref mA, .ref mK, .ref mH, .int hy, .ref mS, .ref mV, .ref mF, .ref mP, .int pl, .int sp, .int nu, .ref mR, .int rm])), (mA, aI E 92 Al)]) (cc := cX5_way) (maxL := 4) (ret := (some .int)) (by decide +kernel) rfl (Nat.le_of_ble_eq_true rfl) ?_
  intro p e s m args below meth c A R Q ls hx hb hr hts hown hml hlocks hA hK hN hP hD hS hl hR hQ
  have hown : s.vm.findClass RX5 = some m.cls := hown
  have hl : lv_has ls 4 [(0, .ref mo), (1, .int (nI x)), (2, .int (nI y)), (3, .int w)] := hl
  refine lv_aload_n hx hb dX5_way_0 rfl (lv_at hl 0 rfl) ?_
  refine lv_iload_n hx hb dX5_way_1 rfl (lv_at hl 1 rfl) ?_
  refine kV_i (E := E) (As := [.int (nI x)]) (rest := []) (wr := []) ⟨hx, hb, hml, hown, hts⟩ (c_X5_isSquare (l := l) (E := E) (sz := _) (mo := mo) (mA := mA) (mK := mK) (mH := mH) (mS := mS) (mV := mV) (mF := mF) (mP := mP) (mR := mR) (hy := hy) (pl := pl) (sp := sp) (nu := nu) (rm := rm) (n := n) (k := k) (Al := Al) (x := nI x) (gA0 := by first | assumption | omega) (gn := by first | assumption | omega)) (cwV 1 hts gX5_way_X5_isSquare rfl rfl rfl (by decide +kernel) ⟨by rw [hR]; decide, by rw [hR]; decide⟩) hK hN hP hD hS hA [0, 1] [] rfl (by decide) rfl (by decide) (by decide) 0 5 rfl rfl rfl hl.1 rfl (Nat.le_of_ble_eq_true rfl) dX5_way_2 ⟨Nat.zero_le _, Nat.zero_le _⟩ (fun H locs hP hD hS => ?_)
  have hP : va_P E.1 vwCl [(mo, .inr (5, [.ref mA, .ref mK, .ref mH, .int hy, .ref mS, .ref mV, .ref mF, .ref mP, .int pl, .int sp, .int nu, .ref mR, .int rm])), (mA, aI E 92 Al)] H := hP
  have hD : va_D A [(mo, .inr (5, [.ref mA, .ref mK, .ref mH, .int hy, .ref mS, .ref mV, .ref mF, .ref mP, .int pl, .int sp, .int nu, .ref mR, .int rm])), (mA, aI E 92 Al)] := hD
  refine rk_if_eqB (tgt := 16) hx hb dX5_way_5 (by decide) (fun q => absurd q (by rw [inR_ok gx (by omega)]; decide)) (fun zc5 => ?_)
  refine lv_aload_n hx hb dX5_way_8 rfl (lv_at hl 0 rfl) ?_
  refine lv_iload_n hx hb dX5_way_9 rfl (lv_at hl 2 rfl) ?_
  refine kV_i (E := E) (As := [.int (nI y)]) (rest := []) (wr := []) ⟨hx, hb, hml, hown, hts⟩ (c_X5_isSquare (l := l) (E := E) (sz := _) (mo := mo) (mA := mA) (mK := mK) (mH := mH) (mS := mS) (mV := mV) (mF := mF) (mP := mP) (mR := mR) (hy := hy) (pl := pl) (sp := sp) (nu := nu) (rm := rm) (n := n) (k := k) (Al := Al) (x := nI y) (gA0 := by first | assumption | omega) (gn := by first | assumption | omega)) (cwV 1 hts gX5_way_X5_isSquare rfl rfl rfl (by decide +kernel) ⟨by rw [hR]; decide, by rw [hR]; decide⟩) hK hN hP hD hS hA [0, 1] [] rfl (by decide) rfl (by decide) (by decide) 0 5 rfl rfl rfl hl.1 rfl (Nat.le_of_ble_eq_true rfl) dX5_way_10 ⟨Nat.zero_le _, Nat.zero_le _⟩ (fun H locs hP hD hS => ?_)
  have hP : va_P E.1 vwCl [(mo, .inr (5, [.ref mA, .ref mK, .ref mH, .int hy, .ref mS, .ref mV, .ref mF, .ref mP, .int pl, .int sp, .int nu, .ref mR, .int rm])), (mA, aI E 92 Al)] H := hP
  have hD : va_D A [(mo, .inr (5, [.ref mA, .ref mK, .ref mH, .int hy, .ref mS, .ref mV, .ref mF, .ref mP, .int pl, .int sp, .int nu, .ref mR, .int rm])), (mA, aI E 92 Al)] := hD
  refine rk_if_neB (tgt := 18) hx hb dX5_way_13 (by decide) (fun zc13 => ?_) (fun q => absurd q (by rw [inR_ok gy (by omega)]; decide))
  refine lv_iload_n hx hb dX5_way_18 rfl (lv_at hl 3 rfl) ?_
  refine lv_i2l hx hb dX5_way_19 rfl ?_
  refine lv_lconst (v := 0) hx hb dX5_way_20 (by decide) ?_
  refine lv_ldc2 (v := 2) hx hb hown (hts _ cl68_X5_way) dX5_way_21 ?_
  refine kS_i (E := E) (As := [.long w.toInt64, .long ((0 : Int64)), .long ((2 : Int64))]) (rest := []) (wr := [(mo, .inr (5, [.ref mA, .ref mK, .ref mH, .int hy, .ref mS, .ref mV, .ref mF, .ref mP, .int pl, .int sp, .int nu, .ref mR, .int rm])), (mA, aI E 92 Al)]) ⟨hx, hb, hml, hown, hts⟩ (c_X5_in (l := l) (E := E) (sz := _) (v := w.toInt64) (lo9 := (0 : Int64)) (hi9 := (2 : Int64)) ) (cwS 3 hts gX5_way_X5_in rfl rfl rfl (by decide +kernel) ⟨by rw [hR]; decide, by rw [hR]; decide⟩) hK hN hP hD hS hA [] [0, 1] rfl (by decide) rfl (by decide) (by decide) rfl hl.1 rfl (Nat.le_of_ble_eq_true rfl) dX5_way_24 ⟨Nat.zero_le _, Nat.zero_le _⟩ (fun H locs hP hD hS => ?_)
  have hP : va_P E.1 vwCl [(mo, .inr (5, [.ref mA, .ref mK, .ref mH, .int hy, .ref mS, .ref mV, .ref mF, .ref mP, .int pl, .int sp, .int nu, .ref mR, .int rm])), (mA, aI E 92 Al)] H := hP
  have hD : va_D A [(mo, .inr (5, [.ref mA, .ref mK, .ref mH, .int hy, .ref mS, .ref mV, .ref mF, .ref mP, .int pl, .int sp, .int nu, .ref mR, .int rm])), (mA, aI E 92 Al)] := hD
  refine rk_if_neB (tgt := 33) hx hb dX5_way_27 (by decide) (fun zc27 => ?_) (fun q => absurd (q.symm.trans (inLw_t (a := 0) (b := 2) (by decide) (by decide) gw1 gw2)) (by decide))
  refine lv_aload_n hx hb dX5_way_33 rfl (lv_at hl 0 rfl) ?_
  refine lv_iload_n hx hb dX5_way_34 rfl (lv_at hl 1 rfl) ?_
  refine lv_iload_n hx hb dX5_way_35 rfl (lv_at hl 2 rfl) ?_
  refine kV_i (E := E) (As := [.int (nI x), .int (nI y)]) (rest := []) (wr := []) ⟨hx, hb, hml, hown, hts⟩ (c_X5_hang (l := l) (E := E) (sz := _) (mo := mo) (mA := mA) (mK := mK) (mH := mH) (mS := mS) (mV := mV) (mF := mF) (mP := mP) (mR := mR) (hy := hy) (pl := pl) (sp := sp) (nu := nu) (rm := rm) (n := n) (k := k) (Al := Al) (x := x) (y := nI y) (gA1 := by first | assumption | omega) (gk := by first | assumption | omega) (gok := by first | assumption | omega) (gq := by first | assumption | omega)) (cwV 2 hts gX5_way_X5_hang rfl rfl rfl (by decide +kernel) ⟨by rw [hR]; decide, by rw [hR]; decide⟩) hK hN hP hD hS hA [0, 1] [] rfl (by decide) rfl (by decide) (by decide) 0 5 rfl rfl rfl hl.1 rfl (Nat.le_of_ble_eq_true rfl) dX5_way_36 ⟨Nat.zero_le _, Nat.zero_le _⟩ (fun H locs hP hD hS => ?_)
  have hP : va_P E.1 vwCl [(mo, .inr (5, [.ref mA, .ref mK, .ref mH, .int hy, .ref mS, .ref mV, .ref mF, .ref mP, .int pl, .int sp, .int nu, .ref mR, .int rm])), (mA, aI E 92 Al)] H := hP
  have hD : va_D A [(mo, .inr (5, [.ref mA, .ref mK, .ref mH, .int hy, .ref mS, .ref mV, .ref mF, .ref mP, .int pl, .int sp, .int nu, .ref mR, .int rm])), (mA, aI E 92 Al)] := hD
  refine rk_if_neB (tgt := 45) hx hb dX5_way_39 (by decide) (fun q => absurd q (by rw [gh]; decide)) (fun zc39 => ?_)
  refine lv_bipush (v := (-6)) hx hb dX5_way_42 (by decide) ?_
  exact ret_i hQ hx hb hr hlocks (hP.sub [0, 1] rfl) (hD.sub [0, 1] (by decide) rfl) hS dX5_way_44 (rfl)
theorem iw_X5_way_5 : ∀ w ∈ u_ws RX5 TX5 13, w ∈ wsX5_way := by decide +kernel
theorem fl_X5_way_25 : Cond.fieldLink RX5 25 (TX5 6).1 (TX5 6).2.1 (TX5 6).2.2.1 ∈ wsX5_way := by decide +kernel
set_option maxHeartbeats 400000 in
set_option maxRecDepth 100000 in
theorem c_X5_way_len (l : Launch) (E : EE) (sz : Nat) (mo mA mK mH mS mV mF mP mR : Nat) (hy pl sp nu rm : Int32) (n k : Nat) (Al : Nat → Int32) (x y : Nat) (F : Nat → Int32) (gA0 : Al 0 = nI n) (gn : n ≤ 16) (gA1 : Al 1 = nI k) (gk : k ≤ 30) (gok : okA Al k) (gx : x < n) (gy : y < n) (gc : hgM Al k x (nI y) = true) : Ci l yX5_way wsX5_way 4 92 E [.ref mo, .int (nI x), .int (nI y), .int (nI 0)] [(mo, .inr (5, [.ref mA, .ref mK, .ref mH, .int hy, .ref mS, .ref mV, .ref mF, .ref mP, .int pl, .int sp, .int nu, .ref mR, .int rm])), (mA, aI E 92 Al), (mF, aI E 16 F)] sz (farM Al (nI 0) true F k x y) [(mo, .inr (5, [.ref mA, .ref mK, .ref mH, .int hy, .ref mS, .ref mV, .ref mF, .ref mP, .int pl, .int sp, .int nu, .ref mR, .int rm])), (mA, aI E 92 Al), (mF, aI E 16 (farM Al (nI 0) true F k x))] := by
  refine C_of (QQ := QI E (farM Al (nI 0) true F k x y) [(mo, .inr (5, [.ref mA, .ref mK, .ref mH, .int hy, .ref mS, .ref mV, .ref mF, .ref mP, .int pl, .int sp, .int nu, .ref mR, .int rm])), (mA, aI E 92 Al), (mF, aI E 16 (farM Al (nI 0) true F k x))]) (cc := cX5_way) (maxL := 4) (ret := (some .int)) (by decide +kernel) rfl (Nat.le_of_ble_eq_true rfl) ?_
  intro p e s m args below meth c A R Q ls hx hb hr hts hown hml hlocks hA hK hN hP hD hS hl hR hQ
  have hown : s.vm.findClass RX5 = some m.cls := hown
  have hl : lv_has ls 4 [(0, .ref mo), (1, .int (nI x)), (2, .int (nI y)), (3, .int (nI 0))] := hl
  refine lv_aload_n hx hb dX5_way_0 rfl (lv_at hl 0 rfl) ?_
  refine lv_iload_n hx hb dX5_way_1 rfl (lv_at hl 1 rfl) ?_
  refine kV_i (E := E) (As := [.int (nI x)]) (rest := []) (wr := [(mF, aI E 16 F)]) ⟨hx, hb, hml, hown, hts⟩ (c_X5_isSquare (l := l) (E := E) (sz := _) (mo := mo) (mA := mA) (mK := mK) (mH := mH) (mS := mS) (mV := mV) (mF := mF) (mP := mP) (mR := mR) (hy := hy) (pl := pl) (sp := sp) (nu := nu) (rm := rm) (n := n) (k := k) (Al := Al) (x := nI x) (gA0 := by first | assumption | omega) (gn := by first | assumption | omega)) (cwV 1 hts gX5_way_X5_isSquare rfl rfl rfl (by decide +kernel) ⟨by rw [hR]; decide, by rw [hR]; decide⟩) hK hN hP hD hS hA [0, 1] [2] rfl (by decide) rfl (by decide) (by decide) 0 5 rfl rfl rfl hl.1 rfl (Nat.le_of_ble_eq_true rfl) dX5_way_2 ⟨Nat.zero_le _, Nat.zero_le _⟩ (fun H locs hP hD hS => ?_)
  have hP : va_P E.1 vwCl [(mF, aI E 16 F), (mo, .inr (5, [.ref mA, .ref mK, .ref mH, .int hy, .ref mS, .ref mV, .ref mF, .ref mP, .int pl, .int sp, .int nu, .ref mR, .int rm])), (mA, aI E 92 Al)] H := hP
  have hD : va_D A [(mF, aI E 16 F), (mo, .inr (5, [.ref mA, .ref mK, .ref mH, .int hy, .ref mS, .ref mV, .ref mF, .ref mP, .int pl, .int sp, .int nu, .ref mR, .int rm])), (mA, aI E 92 Al)] := hD
  refine rk_if_eqB (tgt := 16) hx hb dX5_way_5 (by decide) (fun q => absurd q (by rw [inR_ok gx (by omega)]; decide)) (fun zc5 => ?_)
  refine lv_aload_n hx hb dX5_way_8 rfl (lv_at hl 0 rfl) ?_
  refine lv_iload_n hx hb dX5_way_9 rfl (lv_at hl 2 rfl) ?_
  refine kV_i (E := E) (As := [.int (nI y)]) (rest := []) (wr := [(mF, aI E 16 F)]) ⟨hx, hb, hml, hown, hts⟩ (c_X5_isSquare (l := l) (E := E) (sz := _) (mo := mo) (mA := mA) (mK := mK) (mH := mH) (mS := mS) (mV := mV) (mF := mF) (mP := mP) (mR := mR) (hy := hy) (pl := pl) (sp := sp) (nu := nu) (rm := rm) (n := n) (k := k) (Al := Al) (x := nI y) (gA0 := by first | assumption | omega) (gn := by first | assumption | omega)) (cwV 1 hts gX5_way_X5_isSquare rfl rfl rfl (by decide +kernel) ⟨by rw [hR]; decide, by rw [hR]; decide⟩) hK hN hP hD hS hA [1, 2] [0] rfl (by decide) rfl (by decide) (by decide) 1 5 rfl rfl rfl hl.1 rfl (Nat.le_of_ble_eq_true rfl) dX5_way_10 ⟨Nat.zero_le _, Nat.zero_le _⟩ (fun H locs hP hD hS => ?_)
  have hP : va_P E.1 vwCl [(mF, aI E 16 F), (mo, .inr (5, [.ref mA, .ref mK, .ref mH, .int hy, .ref mS, .ref mV, .ref mF, .ref mP, .int pl, .int sp, .int nu, .ref mR, .int rm])), (mA, aI E 92 Al)] H := hP
  have hD : va_D A [(mF, aI E 16 F), (mo, .inr (5, [.ref mA, .ref mK, .ref mH, .int hy, .ref mS, .ref mV, .ref mF, .ref mP, .int pl, .int sp, .int nu, .ref mR, .int rm])), (mA, aI E 92 Al)] := hD
  refine rk_if_neB (tgt := 18) hx hb dX5_way_13 (by decide) (fun zc13 => ?_) (fun q => absurd q (by rw [inR_ok gy (by omega)]; decide))
  refine lv_iload_n hx hb dX5_way_18 rfl (lv_at hl 3 rfl) ?_
  refine lv_i2l hx hb dX5_way_19 rfl ?_
  refine lv_lconst (v := 0) hx hb dX5_way_20 (by decide) ?_
  refine lv_ldc2 (v := 2) hx hb hown (hts _ cl68_X5_way) dX5_way_21 ?_
  refine kS_i (E := E) (As := [.long ((nI 0).toInt64), .long ((0 : Int64)), .long ((2 : Int64))]) (rest := []) (wr := [(mF, aI E 16 F), (mo, .inr (5, [.ref mA, .ref mK, .ref mH, .int hy, .ref mS, .ref mV, .ref mF, .ref mP, .int pl, .int sp, .int nu, .ref mR, .int rm])), (mA, aI E 92 Al)]) ⟨hx, hb, hml, hown, hts⟩ (c_X5_in (l := l) (E := E) (sz := _) (v := (nI 0).toInt64) (lo9 := (0 : Int64)) (hi9 := (2 : Int64)) ) (cwS 3 hts gX5_way_X5_in rfl rfl rfl (by decide +kernel) ⟨by rw [hR]; decide, by rw [hR]; decide⟩) hK hN hP hD hS hA [] [0, 1, 2] rfl (by decide) rfl (by decide) (by decide) rfl hl.1 rfl (Nat.le_of_ble_eq_true rfl) dX5_way_24 ⟨Nat.zero_le _, Nat.zero_le _⟩ (fun H locs hP hD hS => ?_)
  have hP : va_P E.1 vwCl [(mF, aI E 16 F), (mo, .inr (5, [.ref mA, .ref mK, .ref mH, .int hy, .ref mS, .ref mV, .ref mF, .ref mP, .int pl, .int sp, .int nu, .ref mR, .int rm])), (mA, aI E 92 Al)] H := hP
  have hD : va_D A [(mF, aI E 16 F), (mo, .inr (5, [.ref mA, .ref mK, .ref mH, .int hy, .ref mS, .ref mV, .ref mF, .ref mP, .int pl, .int sp, .int nu, .ref mR, .int rm])), (mA, aI E 92 Al)] := hD
  refine rk_if_neB (tgt := 33) hx hb dX5_way_27 (by decide) (fun zc27 => ?_) (fun q => absurd (q.symm.trans (inLn_t (a := 0) (b := 2) (by decide) (by decide) (by decide))) (by decide))
  refine lv_aload_n hx hb dX5_way_33 rfl (lv_at hl 0 rfl) ?_
  refine lv_iload_n hx hb dX5_way_34 rfl (lv_at hl 1 rfl) ?_
  refine lv_iload_n hx hb dX5_way_35 rfl (lv_at hl 2 rfl) ?_
  refine kV_i (E := E) (As := [.int (nI x), .int (nI y)]) (rest := []) (wr := [(mF, aI E 16 F)]) ⟨hx, hb, hml, hown, hts⟩ (c_X5_hang (l := l) (E := E) (sz := _) (mo := mo) (mA := mA) (mK := mK) (mH := mH) (mS := mS) (mV := mV) (mF := mF) (mP := mP) (mR := mR) (hy := hy) (pl := pl) (sp := sp) (nu := nu) (rm := rm) (n := n) (k := k) (Al := Al) (x := x) (y := nI y) (gA1 := by first | assumption | omega) (gk := by first | assumption | omega) (gok := by first | assumption | omega) (gq := by first | assumption | omega)) (cwV 2 hts gX5_way_X5_hang rfl rfl rfl (by decide +kernel) ⟨by rw [hR]; decide, by rw [hR]; decide⟩) hK hN hP hD hS hA [1, 2] [0] rfl (by decide) rfl (by decide) (by decide) 1 5 rfl rfl rfl hl.1 rfl (Nat.le_of_ble_eq_true rfl) dX5_way_36 ⟨Nat.zero_le _, Nat.zero_le _⟩ (fun H locs hP hD hS => ?_)
  have hP : va_P E.1 vwCl [(mF, aI E 16 F), (mo, .inr (5, [.ref mA, .ref mK, .ref mH, .int hy, .ref mS, .ref mV, .ref mF, .ref mP, .int pl, .int sp, .int nu, .ref mR, .int rm])), (mA, aI E 92 Al)] H := hP
  have hD : va_D A [(mF, aI E 16 F), (mo, .inr (5, [.ref mA, .ref mK, .ref mH, .int hy, .ref mS, .ref mV, .ref mF, .ref mP, .int pl, .int sp, .int nu, .ref mR, .int rm])), (mA, aI E 92 Al)] := hD
  refine rk_if_neB (tgt := 45) hx hb dX5_way_39 (by decide) (fun zc39 => ?_) (fun q => absurd q (by rw [gc]; decide))
  refine lv_iload_n hx hb dX5_way_45 rfl (lv_at hl 3 rfl) ?_
  refine lv_if_ne (tgt := 63) hx hb dX5_way_46 (by decide) (fun q => absurd q (by decide)) (fun _ => ?_)
  refine lv_aload_n hx hb dX5_way_49 rfl (lv_at hl 0 rfl) ?_
  refine lv_iload_n hx hb dX5_way_50 rfl (lv_at hl 1 rfl) ?_
  refine lv_iconst (v := nI 0) hx hb dX5_way_51 (by decide) ?_
  refine lv_iconst (v := nI 1) hx hb dX5_way_52 (by decide) ?_
  refine kV_v (E := E) (As := [.int (nI x), .int (nI 0), .int (nI 1)]) (rest := []) (wr := []) ⟨hx, hb, hml, hown, hts⟩ (c_X5_findsFar_len (l := l) (E := E) (sz := _) (mo := mo) (mA := mA) (mK := mK) (mH := mH) (mS := mS) (mV := mV) (mF := mF) (mP := mP) (mR := mR) (hy := hy) (pl := pl) (sp := sp) (nu := nu) (rm := rm) (n := n) (k := k) (Al := Al) (q := x) (w := nI 0) (F := F) (gA1 := by first | assumption | omega) (gk := by first | assumption | omega) (gok := by first | assumption | omega) (gq := by first | assumption | omega)) (cwV 3 hts gX5_way_X5_findsFar rfl rfl rfl (by decide +kernel) ⟨by rw [hR]; decide, by rw [hR]; decide⟩) hK hN hP hD hS hA [1, 2, 0] [] rfl (by decide) rfl (by decide) (by decide) 1 5 rfl rfl rfl hl.1 rfl (Nat.le_of_ble_eq_true rfl) dX5_way_53 ⟨Nat.zero_le _, Nat.zero_le _⟩ (fun H locs hP hD hS => ?_)
  have hP : va_P E.1 vwCl [(mo, .inr (5, [.ref mA, .ref mK, .ref mH, .int hy, .ref mS, .ref mV, .ref mF, .ref mP, .int pl, .int sp, .int nu, .ref mR, .int rm])), (mA, aI E 92 Al), (mF, aI E 16 (farM Al (nI 0) true F k x))] H := hP
  have hD : va_D A [(mo, .inr (5, [.ref mA, .ref mK, .ref mH, .int hy, .ref mS, .ref mV, .ref mF, .ref mP, .int pl, .int sp, .int nu, .ref mR, .int rm])), (mA, aI E 92 Al), (mF, aI E 16 (farM Al (nI 0) true F k x))] := hD
  refine lv_aload_n hx hb dX5_way_56 rfl (lv_at hl 0 rfl) ?_
  refine rk_get (ci := 5) (C := RX5) (T := TX5) (N := 13) hx hb hts iw_X5_way_5 hown hK hP 0 rfl rfl 6 (by decide) fl_X5_way_25 rfl (v := .ref mF) rfl dX5_way_57 ?_
  refine lv_iload_n hx hb dX5_way_60 rfl (lv_at hl 2 rfl) ?_
  refine rk_iald hx hb hK hP 2 rfl (by omega) (by omega) (v := (farM Al (nI 0) true F k x) y) (rfl) dX5_way_61 ?_
  exact ret_i hQ hx hb hr hlocks (hP.sub [0, 1, 2] rfl) (hD.sub [0, 1, 2] (by decide) rfl) hS dX5_way_62 (rfl)
set_option maxHeartbeats 400000 in
set_option maxRecDepth 100000 in
theorem c_X5_way_cnt (l : Launch) (E : EE) (sz : Nat) (mo mA mK mH mS mV mF mP mR : Nat) (hy pl sp nu rm : Int32) (n k : Nat) (Al : Nat → Int32) (x y w : Nat) (gA0 : Al 0 = nI n) (gn : n ≤ 16) (gA1 : Al 1 = nI k) (gk : k ≤ 30) (gok : okA Al k) (gx : x < n) (gy : y < n) (gw1 : 1 ≤ w) (gw2 : w ≤ 2) (gc : hgM Al k x (nI y) = true) : Ci l yX5_way wsX5_way 4 92 E [.ref mo, .int (nI x), .int (nI y), .int (nI w)] [(mo, .inr (5, [.ref mA, .ref mK, .ref mH, .int hy, .ref mS, .ref mV, .ref mF, .ref mP, .int pl, .int sp, .int nu, .ref mR, .int rm])), (mA, aI E 92 Al)] sz (nI (popc (muM Al k x (nI y) k) + w - 1)) [(mo, .inr (5, [.ref mA, .ref mK, .ref mH, .int hy, .ref mS, .ref mV, .ref mF, .ref mP, .int pl, .int sp, .int nu, .ref mR, .int rm])), (mA, aI E 92 Al)] := by
  refine C_of (QQ := QI E (nI (popc (muM Al k x (nI y) k) + w - 1)) [(mo, .inr (5, [.ref mA, .ref mK, .ref mH, .int hy, .ref mS, .ref mV, .ref mF, .ref mP, .int pl, .int sp, .int nu, .ref mR, .int rm])), (mA, aI E 92 Al)]) (cc := cX5_way) (maxL := 4) (ret := (some .int)) (by decide +kernel) rfl (Nat.le_of_ble_eq_true rfl) ?_
  intro p e s m args below meth c A R Q ls hx hb hr hts hown hml hlocks hA hK hN hP hD hS hl hR hQ
  have hown : s.vm.findClass RX5 = some m.cls := hown
  have hl : lv_has ls 4 [(0, .ref mo), (1, .int (nI x)), (2, .int (nI y)), (3, .int (nI w))] := hl
  refine lv_aload_n hx hb dX5_way_0 rfl (lv_at hl 0 rfl) ?_
  refine lv_iload_n hx hb dX5_way_1 rfl (lv_at hl 1 rfl) ?_
  refine kV_i (E := E) (As := [.int (nI x)]) (rest := []) (wr := []) ⟨hx, hb, hml, hown, hts⟩ (c_X5_isSquare (l := l) (E := E) (sz := _) (mo := mo) (mA := mA) (mK := mK) (mH := mH) (mS := mS) (mV := mV) (mF := mF) (mP := mP) (mR := mR) (hy := hy) (pl := pl) (sp := sp) (nu := nu) (rm := rm) (n := n) (k := k) (Al := Al) (x := nI x) (gA0 := by first | assumption | omega) (gn := by first | assumption | omega)) (cwV 1 hts gX5_way_X5_isSquare rfl rfl rfl (by decide +kernel) ⟨by rw [hR]; decide, by rw [hR]; decide⟩) hK hN hP hD hS hA [0, 1] [] rfl (by decide) rfl (by decide) (by decide) 0 5 rfl rfl rfl hl.1 rfl (Nat.le_of_ble_eq_true rfl) dX5_way_2 ⟨Nat.zero_le _, Nat.zero_le _⟩ (fun H locs hP hD hS => ?_)
  have hP : va_P E.1 vwCl [(mo, .inr (5, [.ref mA, .ref mK, .ref mH, .int hy, .ref mS, .ref mV, .ref mF, .ref mP, .int pl, .int sp, .int nu, .ref mR, .int rm])), (mA, aI E 92 Al)] H := hP
  have hD : va_D A [(mo, .inr (5, [.ref mA, .ref mK, .ref mH, .int hy, .ref mS, .ref mV, .ref mF, .ref mP, .int pl, .int sp, .int nu, .ref mR, .int rm])), (mA, aI E 92 Al)] := hD
  refine rk_if_eqB (tgt := 16) hx hb dX5_way_5 (by decide) (fun q => absurd q (by rw [inR_ok gx (by omega)]; decide)) (fun zc5 => ?_)
  refine lv_aload_n hx hb dX5_way_8 rfl (lv_at hl 0 rfl) ?_
  refine lv_iload_n hx hb dX5_way_9 rfl (lv_at hl 2 rfl) ?_
  refine kV_i (E := E) (As := [.int (nI y)]) (rest := []) (wr := []) ⟨hx, hb, hml, hown, hts⟩ (c_X5_isSquare (l := l) (E := E) (sz := _) (mo := mo) (mA := mA) (mK := mK) (mH := mH) (mS := mS) (mV := mV) (mF := mF) (mP := mP) (mR := mR) (hy := hy) (pl := pl) (sp := sp) (nu := nu) (rm := rm) (n := n) (k := k) (Al := Al) (x := nI y) (gA0 := by first | assumption | omega) (gn := by first | assumption | omega)) (cwV 1 hts gX5_way_X5_isSquare rfl rfl rfl (by decide +kernel) ⟨by rw [hR]; decide, by rw [hR]; decide⟩) hK hN hP hD hS hA [0, 1] [] rfl (by decide) rfl (by decide) (by decide) 0 5 rfl rfl rfl hl.1 rfl (Nat.le_of_ble_eq_true rfl) dX5_way_10 ⟨Nat.zero_le _, Nat.zero_le _⟩ (fun H locs hP hD hS => ?_)
  have hP : va_P E.1 vwCl [(mo, .inr (5, [.ref mA, .ref mK, .ref mH, .int hy, .ref mS, .ref mV, .ref mF, .ref mP, .int pl, .int sp, .int nu, .ref mR, .int rm])), (mA, aI E 92 Al)] H := hP
  have hD : va_D A [(mo, .inr (5, [.ref mA, .ref mK, .ref mH, .int hy, .ref mS, .ref mV, .ref mF, .ref mP, .int pl, .int sp, .int nu, .ref mR, .int rm])), (mA, aI E 92 Al)] := hD
  refine rk_if_neB (tgt := 18) hx hb dX5_way_13 (by decide) (fun zc13 => ?_) (fun q => absurd q (by rw [inR_ok gy (by omega)]; decide))
  refine lv_iload_n hx hb dX5_way_18 rfl (lv_at hl 3 rfl) ?_
  refine lv_i2l hx hb dX5_way_19 rfl ?_
  refine lv_lconst (v := 0) hx hb dX5_way_20 (by decide) ?_
  refine lv_ldc2 (v := 2) hx hb hown (hts _ cl68_X5_way) dX5_way_21 ?_
  refine kS_i (E := E) (As := [.long ((nI w).toInt64), .long ((0 : Int64)), .long ((2 : Int64))]) (rest := []) (wr := [(mo, .inr (5, [.ref mA, .ref mK, .ref mH, .int hy, .ref mS, .ref mV, .ref mF, .ref mP, .int pl, .int sp, .int nu, .ref mR, .int rm])), (mA, aI E 92 Al)]) ⟨hx, hb, hml, hown, hts⟩ (c_X5_in (l := l) (E := E) (sz := _) (v := (nI w).toInt64) (lo9 := (0 : Int64)) (hi9 := (2 : Int64)) ) (cwS 3 hts gX5_way_X5_in rfl rfl rfl (by decide +kernel) ⟨by rw [hR]; decide, by rw [hR]; decide⟩) hK hN hP hD hS hA [] [0, 1] rfl (by decide) rfl (by decide) (by decide) rfl hl.1 rfl (Nat.le_of_ble_eq_true rfl) dX5_way_24 ⟨Nat.zero_le _, Nat.zero_le _⟩ (fun H locs hP hD hS => ?_)
  have hP : va_P E.1 vwCl [(mo, .inr (5, [.ref mA, .ref mK, .ref mH, .int hy, .ref mS, .ref mV, .ref mF, .ref mP, .int pl, .int sp, .int nu, .ref mR, .int rm])), (mA, aI E 92 Al)] H := hP
  have hD : va_D A [(mo, .inr (5, [.ref mA, .ref mK, .ref mH, .int hy, .ref mS, .ref mV, .ref mF, .ref mP, .int pl, .int sp, .int nu, .ref mR, .int rm])), (mA, aI E 92 Al)] := hD
  refine rk_if_neB (tgt := 33) hx hb dX5_way_27 (by decide) (fun zc27 => ?_) (fun q => absurd (q.symm.trans (inLn_t (a := 0) (b := 2) (by decide) (by omega) gw2)) (by decide))
  refine lv_aload_n hx hb dX5_way_33 rfl (lv_at hl 0 rfl) ?_
  refine lv_iload_n hx hb dX5_way_34 rfl (lv_at hl 1 rfl) ?_
  refine lv_iload_n hx hb dX5_way_35 rfl (lv_at hl 2 rfl) ?_
  refine kV_i (E := E) (As := [.int (nI x), .int (nI y)]) (rest := []) (wr := []) ⟨hx, hb, hml, hown, hts⟩ (c_X5_hang (l := l) (E := E) (sz := _) (mo := mo) (mA := mA) (mK := mK) (mH := mH) (mS := mS) (mV := mV) (mF := mF) (mP := mP) (mR := mR) (hy := hy) (pl := pl) (sp := sp) (nu := nu) (rm := rm) (n := n) (k := k) (Al := Al) (x := x) (y := nI y) (gA1 := by first | assumption | omega) (gk := by first | assumption | omega) (gok := by first | assumption | omega) (gq := by first | assumption | omega)) (cwV 2 hts gX5_way_X5_hang rfl rfl rfl (by decide +kernel) ⟨by rw [hR]; decide, by rw [hR]; decide⟩) hK hN hP hD hS hA [0, 1] [] rfl (by decide) rfl (by decide) (by decide) 0 5 rfl rfl rfl hl.1 rfl (Nat.le_of_ble_eq_true rfl) dX5_way_36 ⟨Nat.zero_le _, Nat.zero_le _⟩ (fun H locs hP hD hS => ?_)
  have hP : va_P E.1 vwCl [(mo, .inr (5, [.ref mA, .ref mK, .ref mH, .int hy, .ref mS, .ref mV, .ref mF, .ref mP, .int pl, .int sp, .int nu, .ref mR, .int rm])), (mA, aI E 92 Al)] H := hP
  have hD : va_D A [(mo, .inr (5, [.ref mA, .ref mK, .ref mH, .int hy, .ref mS, .ref mV, .ref mF, .ref mP, .int pl, .int sp, .int nu, .ref mR, .int rm])), (mA, aI E 92 Al)] := hD
  refine rk_if_neB (tgt := 45) hx hb dX5_way_39 (by decide) (fun zc39 => ?_) (fun q => absurd q (by rw [gc]; decide))
  refine lv_iload_n hx hb dX5_way_45 rfl (lv_at hl 3 rfl) ?_
  refine rk_if_neN (tgt := 63) hx hb (by omega) dX5_way_46 (by decide) (fun zc46 => ?_) (fun q => absurd q (by omega))
  refine lv_aload_n hx hb dX5_way_63 rfl (lv_at hl 0 rfl) ?_
  refine lv_iload_n hx hb dX5_way_64 rfl (lv_at hl 1 rfl) ?_
  refine lv_iload_n hx hb dX5_way_65 rfl (lv_at hl 2 rfl) ?_
  refine kV_i (E := E) (As := [.int (nI x), .int (nI y)]) (rest := []) (wr := []) ⟨hx, hb, hml, hown, hts⟩ (c_X5_musts (l := l) (E := E) (sz := _) (mo := mo) (mA := mA) (mK := mK) (mH := mH) (mS := mS) (mV := mV) (mF := mF) (mP := mP) (mR := mR) (hy := hy) (pl := pl) (sp := sp) (nu := nu) (rm := rm) (n := n) (k := k) (Al := Al) (x := x) (y := nI y) (gA1 := by first | assumption | omega) (gk := by first | assumption | omega) (gok := by first | assumption | omega) (gq := by first | assumption | omega)) (cwV 2 hts gX5_way_X5_musts rfl rfl rfl (by decide +kernel) ⟨by rw [hR]; decide, by rw [hR]; decide⟩) hK hN hP hD hS hA [0, 1] [] rfl (by decide) rfl (by decide) (by decide) 0 5 rfl rfl rfl hl.1 rfl (Nat.le_of_ble_eq_true rfl) dX5_way_66 ⟨Nat.zero_le _, Nat.zero_le _⟩ (fun H locs hP hD hS => ?_)
  have hP : va_P E.1 vwCl [(mo, .inr (5, [.ref mA, .ref mK, .ref mH, .int hy, .ref mS, .ref mV, .ref mF, .ref mP, .int pl, .int sp, .int nu, .ref mR, .int rm])), (mA, aI E 92 Al)] H := hP
  have hD : va_D A [(mo, .inr (5, [.ref mA, .ref mK, .ref mH, .int hy, .ref mS, .ref mV, .ref mF, .ref mP, .int pl, .int sp, .int nu, .ref mR, .int rm])), (mA, aI E 92 Al)] := hD
  refine kS_i (E := E) (As := [.int (muM Al k x (nI y) k)]) (rest := []) (wr := [(mo, .inr (5, [.ref mA, .ref mK, .ref mH, .int hy, .ref mS, .ref mV, .ref mF, .ref mP, .int pl, .int sp, .int nu, .ref mR, .int rm])), (mA, aI E 92 Al)]) ⟨hx, hb, hml, hown, hts⟩ (c_X5_bits (l := l) (E := E) (sz := _) (x := muM Al k x (nI y) k) ) (cwS 1 hts gX5_way_X5_bits rfl rfl rfl (by decide +kernel) ⟨by rw [hR]; decide, by rw [hR]; decide⟩) hK hN hP hD hS hA [] [0, 1] rfl (by decide) rfl (by decide) (by decide) rfl hl.1 rfl (Nat.le_of_ble_eq_true rfl) dX5_way_69 ⟨Nat.zero_le _, Nat.zero_le _⟩ (fun H locs hP hD hS => ?_)
  have hP : va_P E.1 vwCl [(mo, .inr (5, [.ref mA, .ref mK, .ref mH, .int hy, .ref mS, .ref mV, .ref mF, .ref mP, .int pl, .int sp, .int nu, .ref mR, .int rm])), (mA, aI E 92 Al)] H := hP
  have hD : va_D A [(mo, .inr (5, [.ref mA, .ref mK, .ref mH, .int hy, .ref mS, .ref mV, .ref mF, .ref mP, .int pl, .int sp, .int nu, .ref mR, .int rm])), (mA, aI E 92 Al)] := hD
  refine lv_iload_n hx hb dX5_way_72 rfl (lv_at hl 3 rfl) ?_
  refine rk_iaddN hx hb dX5_way_73 ?_
  refine lv_iconst (v := nI 1) hx hb dX5_way_74 (by decide) ?_
  refine rk_isubN hx hb (by omega) dX5_way_75 ?_
  exact ret_i hQ hx hb hr hlocks (hP.sub [0, 1] rfl) (hD.sub [0, 1] (by decide) rfl) hS dX5_way_76 (rfl)
set_option maxHeartbeats 400000 in
set_option maxRecDepth 100000 in
theorem c_X5_must_val (l : Launch) (E : EE) (sz : Nat) (mo mA mK mH mS mV mF mP mR : Nat) (hy pl sp nu rm : Int32) (n k : Nat) (Al : Nat → Int32) (x y : Nat) (w : Int32) (gA0 : Al 0 = nI n) (gn : n ≤ 16) (gA1 : Al 1 = nI k) (gk : k ≤ 30) (gok : okA Al k) (gx : x < n) (gy : y < n) (gw : ¬ 0 ≤ w) : Ci l yX5_must wsX5_must 2 46 E [.ref mo, .int (nI x), .int (nI y), .int w] [(mo, .inr (5, [.ref mA, .ref mK, .ref mH, .int hy, .ref mS, .ref mV, .ref mF, .ref mP, .int pl, .int sp, .int nu, .ref mR, .int rm])), (mA, aI E 92 Al)] sz (-2) [(mo, .inr (5, [.ref mA, .ref mK, .ref mH, .int hy, .ref mS, .ref mV, .ref mF, .ref mP, .int pl, .int sp, .int nu, .ref mR, .int rm])), (mA, aI E 92 Al)] := by
  refine C_of (QQ := QI E (-2) [(mo, .inr (5, [.ref mA, .ref mK, .ref mH, .int hy, .ref mS, .ref mV, .ref mF, .ref mP, .int pl, .int sp, .int nu, .ref mR, .int rm])), (mA, aI E 92 Al)]) (cc := cX5_must) (maxL := 8) (ret := (some .int)) (by decide +kernel) rfl (Nat.le_of_ble_eq_true rfl) ?_
  intro p e s m args below meth c A R Q ls hx hb hr hts hown hml hlocks hA hK hN hP hD hS hl hR hQ
  have hown : s.vm.findClass RX5 = some m.cls := hown
  have hl : lv_has ls 8 [(0, .ref mo), (1, .int (nI x)), (2, .int (nI y)), (3, .int w)] := hl
  refine lv_aload_n hx hb dX5_must_0 rfl (lv_at hl 0 rfl) ?_
  refine lv_iload_n hx hb dX5_must_1 rfl (lv_at hl 1 rfl) ?_
  refine kV_i (E := E) (As := [.int (nI x)]) (rest := []) (wr := []) ⟨hx, hb, hml, hown, hts⟩ (c_X5_isSquare (l := l) (E := E) (sz := _) (mo := mo) (mA := mA) (mK := mK) (mH := mH) (mS := mS) (mV := mV) (mF := mF) (mP := mP) (mR := mR) (hy := hy) (pl := pl) (sp := sp) (nu := nu) (rm := rm) (n := n) (k := k) (Al := Al) (x := nI x) (gA0 := by first | assumption | omega) (gn := by first | assumption | omega)) (cwV 1 hts gX5_must_X5_isSquare rfl rfl rfl (by decide +kernel) ⟨by rw [hR]; decide, by rw [hR]; decide⟩) hK hN hP hD hS hA [0, 1] [] rfl (by decide) rfl (by decide) (by decide) 0 5 rfl rfl rfl hl.1 rfl (Nat.le_of_ble_eq_true rfl) dX5_must_2 ⟨Nat.zero_le _, Nat.zero_le _⟩ (fun H locs hP hD hS => ?_)
  have hP : va_P E.1 vwCl [(mo, .inr (5, [.ref mA, .ref mK, .ref mH, .int hy, .ref mS, .ref mV, .ref mF, .ref mP, .int pl, .int sp, .int nu, .ref mR, .int rm])), (mA, aI E 92 Al)] H := hP
  have hD : va_D A [(mo, .inr (5, [.ref mA, .ref mK, .ref mH, .int hy, .ref mS, .ref mV, .ref mF, .ref mP, .int pl, .int sp, .int nu, .ref mR, .int rm])), (mA, aI E 92 Al)] := hD
  refine rk_if_eqB (tgt := 16) hx hb dX5_must_5 (by decide) (fun q => absurd q (by rw [inR_ok gx (by omega)]; decide)) (fun zc5 => ?_)
  refine lv_aload_n hx hb dX5_must_8 rfl (lv_at hl 0 rfl) ?_
  refine lv_iload_n hx hb dX5_must_9 rfl (lv_at hl 2 rfl) ?_
  refine kV_i (E := E) (As := [.int (nI y)]) (rest := []) (wr := []) ⟨hx, hb, hml, hown, hts⟩ (c_X5_isSquare (l := l) (E := E) (sz := _) (mo := mo) (mA := mA) (mK := mK) (mH := mH) (mS := mS) (mV := mV) (mF := mF) (mP := mP) (mR := mR) (hy := hy) (pl := pl) (sp := sp) (nu := nu) (rm := rm) (n := n) (k := k) (Al := Al) (x := nI y) (gA0 := by first | assumption | omega) (gn := by first | assumption | omega)) (cwV 1 hts gX5_must_X5_isSquare rfl rfl rfl (by decide +kernel) ⟨by rw [hR]; decide, by rw [hR]; decide⟩) hK hN hP hD hS hA [0, 1] [] rfl (by decide) rfl (by decide) (by decide) 0 5 rfl rfl rfl hl.1 rfl (Nat.le_of_ble_eq_true rfl) dX5_must_10 ⟨Nat.zero_le _, Nat.zero_le _⟩ (fun H locs hP hD hS => ?_)
  have hP : va_P E.1 vwCl [(mo, .inr (5, [.ref mA, .ref mK, .ref mH, .int hy, .ref mS, .ref mV, .ref mF, .ref mP, .int pl, .int sp, .int nu, .ref mR, .int rm])), (mA, aI E 92 Al)] H := hP
  have hD : va_D A [(mo, .inr (5, [.ref mA, .ref mK, .ref mH, .int hy, .ref mS, .ref mV, .ref mF, .ref mP, .int pl, .int sp, .int nu, .ref mR, .int rm])), (mA, aI E 92 Al)] := hD
  refine rk_if_neB (tgt := 18) hx hb dX5_must_13 (by decide) (fun zc13 => ?_) (fun q => absurd q (by rw [inR_ok gy (by omega)]; decide))
  refine lv_iload_n hx hb dX5_must_18 rfl (lv_at hl 3 rfl) ?_
  refine lv_if_ge (tgt := 25) hx hb dX5_must_19 (by decide) (fun q => absurd q gw) (fun zc19 => ?_)
  refine lv_bipush (v := (-2)) hx hb dX5_must_22 (by decide) ?_
  exact ret_i hQ hx hb hr hlocks (hP.sub [0, 1] rfl) (hD.sub [0, 1] (by decide) rfl) hS dX5_must_24 (rfl)
set_option maxHeartbeats 400000 in
set_option maxRecDepth 100000 in
theorem c_X5_must_none (l : Launch) (E : EE) (sz : Nat) (mo mA mK mH mS mV mF mP mR : Nat) (hy pl sp nu rm : Int32) (n k : Nat) (Al : Nat → Int32) (x y : Nat) (w : Int32) (gA0 : Al 0 = nI n) (gn : n ≤ 16) (gA1 : Al 1 = nI k) (gk : k ≤ 30) (gok : okA Al k) (gx : x < n) (gy : y < n) (gw : 0 ≤ w) (gh : hgM Al k x (nI y) = false) : Ci l yX5_must wsX5_must 4 92 E [.ref mo, .int (nI x), .int (nI y), .int w] [(mo, .inr (5, [.ref mA, .ref mK, .ref mH, .int hy, .ref mS, .ref mV, .ref mF, .ref mP, .int pl, .int sp, .int nu, .ref mR, .int rm])), (mA, aI E 92 Al)] sz (-6) [(mo, .inr (5, [.ref mA, .ref mK, .ref mH, .int hy, .ref mS, .ref mV, .ref mF, .ref mP, .int pl, .int sp, .int nu, .ref mR, .int rm])), (mA, aI E 92 Al)] := by
  refine C_of (QQ := QI E (-6) [(mo, .inr (5, [.ref mA, .ref mK, .ref mH, .int hy, .ref mS, .ref mV, .ref mF, .ref mP, .int pl, .int sp, .int nu, .ref mR, .int rm])), (mA, aI E 92 Al)]) (cc := cX5_must) (maxL := 8) (ret := (some .int)) (by decide +kernel) rfl (Nat.le_of_ble_eq_true rfl) ?_
  intro p e s m args below meth c A R Q ls hx hb hr hts hown hml hlocks hA hK hN hP hD hS hl hR hQ
  have hown : s.vm.findClass RX5 = some m.cls := hown
  have hl : lv_has ls 8 [(0, .ref mo), (1, .int (nI x)), (2, .int (nI y)), (3, .int w)] := hl
  refine lv_aload_n hx hb dX5_must_0 rfl (lv_at hl 0 rfl) ?_
  refine lv_iload_n hx hb dX5_must_1 rfl (lv_at hl 1 rfl) ?_
  refine kV_i (E := E) (As := [.int (nI x)]) (rest := []) (wr := []) ⟨hx, hb, hml, hown, hts⟩ (c_X5_isSquare (l := l) (E := E) (sz := _) (mo := mo) (mA := mA) (mK := mK) (mH := mH) (mS := mS) (mV := mV) (mF := mF) (mP := mP) (mR := mR) (hy := hy) (pl := pl) (sp := sp) (nu := nu) (rm := rm) (n := n) (k := k) (Al := Al) (x := nI x) (gA0 := by first | assumption | omega) (gn := by first | assumption | omega)) (cwV 1 hts gX5_must_X5_isSquare rfl rfl rfl (by decide +kernel) ⟨by rw [hR]; decide, by rw [hR]; decide⟩) hK hN hP hD hS hA [0, 1] [] rfl (by decide) rfl (by decide) (by decide) 0 5 rfl rfl rfl hl.1 rfl (Nat.le_of_ble_eq_true rfl) dX5_must_2 ⟨Nat.zero_le _, Nat.zero_le _⟩ (fun H locs hP hD hS => ?_)
  have hP : va_P E.1 vwCl [(mo, .inr (5, [.ref mA, .ref mK, .ref mH, .int hy, .ref mS, .ref mV, .ref mF, .ref mP, .int pl, .int sp, .int nu, .ref mR, .int rm])), (mA, aI E 92 Al)] H := hP
  have hD : va_D A [(mo, .inr (5, [.ref mA, .ref mK, .ref mH, .int hy, .ref mS, .ref mV, .ref mF, .ref mP, .int pl, .int sp, .int nu, .ref mR, .int rm])), (mA, aI E 92 Al)] := hD
  refine rk_if_eqB (tgt := 16) hx hb dX5_must_5 (by decide) (fun q => absurd q (by rw [inR_ok gx (by omega)]; decide)) (fun zc5 => ?_)
  refine lv_aload_n hx hb dX5_must_8 rfl (lv_at hl 0 rfl) ?_
  refine lv_iload_n hx hb dX5_must_9 rfl (lv_at hl 2 rfl) ?_
  refine kV_i (E := E) (As := [.int (nI y)]) (rest := []) (wr := []) ⟨hx, hb, hml, hown, hts⟩ (c_X5_isSquare (l := l) (E := E) (sz := _) (mo := mo) (mA := mA) (mK := mK) (mH := mH) (mS := mS) (mV := mV) (mF := mF) (mP := mP) (mR := mR) (hy := hy) (pl := pl) (sp := sp) (nu := nu) (rm := rm) (n := n) (k := k) (Al := Al) (x := nI y) (gA0 := by first | assumption | omega) (gn := by first | assumption | omega)) (cwV 1 hts gX5_must_X5_isSquare rfl rfl rfl (by decide +kernel) ⟨by rw [hR]; decide, by rw [hR]; decide⟩) hK hN hP hD hS hA [0, 1] [] rfl (by decide) rfl (by decide) (by decide) 0 5 rfl rfl rfl hl.1 rfl (Nat.le_of_ble_eq_true rfl) dX5_must_10 ⟨Nat.zero_le _, Nat.zero_le _⟩ (fun H locs hP hD hS => ?_)
  have hP : va_P E.1 vwCl [(mo, .inr (5, [.ref mA, .ref mK, .ref mH, .int hy, .ref mS, .ref mV, .ref mF, .ref mP, .int pl, .int sp, .int nu, .ref mR, .int rm])), (mA, aI E 92 Al)] H := hP
  have hD : va_D A [(mo, .inr (5, [.ref mA, .ref mK, .ref mH, .int hy, .ref mS, .ref mV, .ref mF, .ref mP, .int pl, .int sp, .int nu, .ref mR, .int rm])), (mA, aI E 92 Al)] := hD
  refine rk_if_neB (tgt := 18) hx hb dX5_must_13 (by decide) (fun zc13 => ?_) (fun q => absurd q (by rw [inR_ok gy (by omega)]; decide))
  refine lv_iload_n hx hb dX5_must_18 rfl (lv_at hl 3 rfl) ?_
  refine lv_if_ge (tgt := 25) hx hb dX5_must_19 (by decide) (fun zc19 => ?_) (fun q => absurd gw q)
  refine lv_aload_n hx hb dX5_must_25 rfl (lv_at hl 0 rfl) ?_
  refine lv_iload_n hx hb dX5_must_26 rfl (lv_at hl 1 rfl) ?_
  refine lv_iload_n hx hb dX5_must_27 rfl (lv_at hl 2 rfl) ?_
  refine kV_i (E := E) (As := [.int (nI x), .int (nI y)]) (rest := []) (wr := []) ⟨hx, hb, hml, hown, hts⟩ (c_X5_hang (l := l) (E := E) (sz := _) (mo := mo) (mA := mA) (mK := mK) (mH := mH) (mS := mS) (mV := mV) (mF := mF) (mP := mP) (mR := mR) (hy := hy) (pl := pl) (sp := sp) (nu := nu) (rm := rm) (n := n) (k := k) (Al := Al) (x := x) (y := nI y) (gA1 := by first | assumption | omega) (gk := by first | assumption | omega) (gok := by first | assumption | omega) (gq := by first | assumption | omega)) (cwV 2 hts gX5_must_X5_hang rfl rfl rfl (by decide +kernel) ⟨by rw [hR]; decide, by rw [hR]; decide⟩) hK hN hP hD hS hA [0, 1] [] rfl (by decide) rfl (by decide) (by decide) 0 5 rfl rfl rfl hl.1 rfl (Nat.le_of_ble_eq_true rfl) dX5_must_28 ⟨Nat.zero_le _, Nat.zero_le _⟩ (fun H locs hP hD hS => ?_)
  have hP : va_P E.1 vwCl [(mo, .inr (5, [.ref mA, .ref mK, .ref mH, .int hy, .ref mS, .ref mV, .ref mF, .ref mP, .int pl, .int sp, .int nu, .ref mR, .int rm])), (mA, aI E 92 Al)] H := hP
  have hD : va_D A [(mo, .inr (5, [.ref mA, .ref mK, .ref mH, .int hy, .ref mS, .ref mV, .ref mF, .ref mP, .int pl, .int sp, .int nu, .ref mR, .int rm])), (mA, aI E 92 Al)] := hD
  refine rk_if_neB (tgt := 37) hx hb dX5_must_31 (by decide) (fun q => absurd q (by rw [gh]; decide)) (fun zc31 => ?_)
  refine lv_bipush (v := (-6)) hx hb dX5_must_34 (by decide) ?_
  exact ret_i hQ hx hb hr hlocks (hP.sub [0, 1] rfl) (hD.sub [0, 1] (by decide) rfl) hS dX5_must_36 (rfl)
theorem iw_X5_must_5 : ∀ w ∈ u_ws RX5 TX5 13, w ∈ wsX5_must := by decide +kernel
theorem fl_X5_must_7 : Cond.fieldLink RX5 7 (TX5 0).1 (TX5 0).2.1 (TX5 0).2.2.1 ∈ wsX5_must := by decide +kernel
set_option maxHeartbeats 400000 in
set_option maxRecDepth 100000 in
theorem c_X5_must_ok (l : Launch) (E : EE) (sz : Nat) (mo mA mK mH mS mV mF mP mR : Nat) (hy pl sp nu rm : Int32) (n k : Nat) (Al : Nat → Int32) (x y : Nat) (w : Int32) (gA0 : Al 0 = nI n) (gn : n ≤ 16) (gA1 : Al 1 = nI k) (gk : k ≤ 30) (gok : okA Al k) (gx : x < n) (gy : y < n) (gw : 0 ≤ w) (gc : hgM Al k x (nI y) = true) : Ci l yX5_must wsX5_must 4 92 E [.ref mo, .int (nI x), .int (nI y), .int w] [(mo, .inr (5, [.ref mA, .ref mK, .ref mH, .int hy, .ref mS, .ref mV, .ref mF, .ref mP, .int pl, .int sp, .int nu, .ref mR, .int rm])), (mA, aI E 92 Al)] sz (fst6 (muP Al k x (muM Al k x (nI y) k) w) 0 k) [(mo, .inr (5, [.ref mA, .ref mK, .ref mH, .int hy, .ref mS, .ref mV, .ref mF, .ref mP, .int pl, .int sp, .int nu, .ref mR, .int rm])), (mA, aI E 92 Al)] := by
  refine C_of (QQ := QI E (fst6 (muP Al k x (muM Al k x (nI y) k) w) 0 k) [(mo, .inr (5, [.ref mA, .ref mK, .ref mH, .int hy, .ref mS, .ref mV, .ref mF, .ref mP, .int pl, .int sp, .int nu, .ref mR, .int rm])), (mA, aI E 92 Al)]) (cc := cX5_must) (maxL := 8) (ret := (some .int)) (by decide +kernel) rfl (Nat.le_of_ble_eq_true rfl) ?_
  intro p e s m args below meth c A R Q ls hx hb hr hts hown hml hlocks hA hK hN hP hD hS hl hR hQ
  have hown : s.vm.findClass RX5 = some m.cls := hown
  have hl : lv_has ls 8 [(0, .ref mo), (1, .int (nI x)), (2, .int (nI y)), (3, .int w)] := hl
  refine lv_aload_n hx hb dX5_must_0 rfl (lv_at hl 0 rfl) ?_
  refine lv_iload_n hx hb dX5_must_1 rfl (lv_at hl 1 rfl) ?_
  refine kV_i (E := E) (As := [.int (nI x)]) (rest := []) (wr := []) ⟨hx, hb, hml, hown, hts⟩ (c_X5_isSquare (l := l) (E := E) (sz := _) (mo := mo) (mA := mA) (mK := mK) (mH := mH) (mS := mS) (mV := mV) (mF := mF) (mP := mP) (mR := mR) (hy := hy) (pl := pl) (sp := sp) (nu := nu) (rm := rm) (n := n) (k := k) (Al := Al) (x := nI x) (gA0 := by first | assumption | omega) (gn := by first | assumption | omega)) (cwV 1 hts gX5_must_X5_isSquare rfl rfl rfl (by decide +kernel) ⟨by rw [hR]; decide, by rw [hR]; decide⟩) hK hN hP hD hS hA [0, 1] [] rfl (by decide) rfl (by decide) (by decide) 0 5 rfl rfl rfl hl.1 rfl (Nat.le_of_ble_eq_true rfl) dX5_must_2 ⟨Nat.zero_le _, Nat.zero_le _⟩ (fun H locs hP hD hS => ?_)
  have hP : va_P E.1 vwCl [(mo, .inr (5, [.ref mA, .ref mK, .ref mH, .int hy, .ref mS, .ref mV, .ref mF, .ref mP, .int pl, .int sp, .int nu, .ref mR, .int rm])), (mA, aI E 92 Al)] H := hP
  have hD : va_D A [(mo, .inr (5, [.ref mA, .ref mK, .ref mH, .int hy, .ref mS, .ref mV, .ref mF, .ref mP, .int pl, .int sp, .int nu, .ref mR, .int rm])), (mA, aI E 92 Al)] := hD
  refine rk_if_eqB (tgt := 16) hx hb dX5_must_5 (by decide) (fun q => absurd q (by rw [inR_ok gx (by omega)]; decide)) (fun zc5 => ?_)
  refine lv_aload_n hx hb dX5_must_8 rfl (lv_at hl 0 rfl) ?_
  refine lv_iload_n hx hb dX5_must_9 rfl (lv_at hl 2 rfl) ?_
  refine kV_i (E := E) (As := [.int (nI y)]) (rest := []) (wr := []) ⟨hx, hb, hml, hown, hts⟩ (c_X5_isSquare (l := l) (E := E) (sz := _) (mo := mo) (mA := mA) (mK := mK) (mH := mH) (mS := mS) (mV := mV) (mF := mF) (mP := mP) (mR := mR) (hy := hy) (pl := pl) (sp := sp) (nu := nu) (rm := rm) (n := n) (k := k) (Al := Al) (x := nI y) (gA0 := by first | assumption | omega) (gn := by first | assumption | omega)) (cwV 1 hts gX5_must_X5_isSquare rfl rfl rfl (by decide +kernel) ⟨by rw [hR]; decide, by rw [hR]; decide⟩) hK hN hP hD hS hA [0, 1] [] rfl (by decide) rfl (by decide) (by decide) 0 5 rfl rfl rfl hl.1 rfl (Nat.le_of_ble_eq_true rfl) dX5_must_10 ⟨Nat.zero_le _, Nat.zero_le _⟩ (fun H locs hP hD hS => ?_)
  have hP : va_P E.1 vwCl [(mo, .inr (5, [.ref mA, .ref mK, .ref mH, .int hy, .ref mS, .ref mV, .ref mF, .ref mP, .int pl, .int sp, .int nu, .ref mR, .int rm])), (mA, aI E 92 Al)] H := hP
  have hD : va_D A [(mo, .inr (5, [.ref mA, .ref mK, .ref mH, .int hy, .ref mS, .ref mV, .ref mF, .ref mP, .int pl, .int sp, .int nu, .ref mR, .int rm])), (mA, aI E 92 Al)] := hD
  refine rk_if_neB (tgt := 18) hx hb dX5_must_13 (by decide) (fun zc13 => ?_) (fun q => absurd q (by rw [inR_ok gy (by omega)]; decide))
  refine lv_iload_n hx hb dX5_must_18 rfl (lv_at hl 3 rfl) ?_
  refine lv_if_ge (tgt := 25) hx hb dX5_must_19 (by decide) (fun zc19 => ?_) (fun q => absurd gw q)
  refine lv_aload_n hx hb dX5_must_25 rfl (lv_at hl 0 rfl) ?_
  refine lv_iload_n hx hb dX5_must_26 rfl (lv_at hl 1 rfl) ?_
  refine lv_iload_n hx hb dX5_must_27 rfl (lv_at hl 2 rfl) ?_
  refine kV_i (E := E) (As := [.int (nI x), .int (nI y)]) (rest := []) (wr := []) ⟨hx, hb, hml, hown, hts⟩ (c_X5_hang (l := l) (E := E) (sz := _) (mo := mo) (mA := mA) (mK := mK) (mH := mH) (mS := mS) (mV := mV) (mF := mF) (mP := mP) (mR := mR) (hy := hy) (pl := pl) (sp := sp) (nu := nu) (rm := rm) (n := n) (k := k) (Al := Al) (x := x) (y := nI y) (gA1 := by first | assumption | omega) (gk := by first | assumption | omega) (gok := by first | assumption | omega) (gq := by first | assumption | omega)) (cwV 2 hts gX5_must_X5_hang rfl rfl rfl (by decide +kernel) ⟨by rw [hR]; decide, by rw [hR]; decide⟩) hK hN hP hD hS hA [0, 1] [] rfl (by decide) rfl (by decide) (by decide) 0 5 rfl rfl rfl hl.1 rfl (Nat.le_of_ble_eq_true rfl) dX5_must_28 ⟨Nat.zero_le _, Nat.zero_le _⟩ (fun H locs hP hD hS => ?_)
  have hP : va_P E.1 vwCl [(mo, .inr (5, [.ref mA, .ref mK, .ref mH, .int hy, .ref mS, .ref mV, .ref mF, .ref mP, .int pl, .int sp, .int nu, .ref mR, .int rm])), (mA, aI E 92 Al)] H := hP
  have hD : va_D A [(mo, .inr (5, [.ref mA, .ref mK, .ref mH, .int hy, .ref mS, .ref mV, .ref mF, .ref mP, .int pl, .int sp, .int nu, .ref mR, .int rm])), (mA, aI E 92 Al)] := hD
  refine rk_if_neB (tgt := 37) hx hb dX5_must_31 (by decide) (fun zc31 => ?_) (fun q => absurd q (by rw [gc]; decide))
  refine lv_aload_n hx hb dX5_must_37 rfl (lv_at hl 0 rfl) ?_
  refine lv_iload_n hx hb dX5_must_38 rfl (lv_at hl 1 rfl) ?_
  refine lv_iload_n hx hb dX5_must_39 rfl (lv_at hl 2 rfl) ?_
  refine kV_i (E := E) (As := [.int (nI x), .int (nI y)]) (rest := []) (wr := []) ⟨hx, hb, hml, hown, hts⟩ (c_X5_musts (l := l) (E := E) (sz := _) (mo := mo) (mA := mA) (mK := mK) (mH := mH) (mS := mS) (mV := mV) (mF := mF) (mP := mP) (mR := mR) (hy := hy) (pl := pl) (sp := sp) (nu := nu) (rm := rm) (n := n) (k := k) (Al := Al) (x := x) (y := nI y) (gA1 := by first | assumption | omega) (gk := by first | assumption | omega) (gok := by first | assumption | omega) (gq := by first | assumption | omega)) (cwV 2 hts gX5_must_X5_musts rfl rfl rfl (by decide +kernel) ⟨by rw [hR]; decide, by rw [hR]; decide⟩) hK hN hP hD hS hA [0, 1] [] rfl (by decide) rfl (by decide) (by decide) 0 5 rfl rfl rfl hl.1 rfl (Nat.le_of_ble_eq_true rfl) dX5_must_40 ⟨Nat.zero_le _, Nat.zero_le _⟩ (fun H locs hP hD hS => ?_)
  have hP : va_P E.1 vwCl [(mo, .inr (5, [.ref mA, .ref mK, .ref mH, .int hy, .ref mS, .ref mV, .ref mF, .ref mP, .int pl, .int sp, .int nu, .ref mR, .int rm])), (mA, aI E 92 Al)] H := hP
  have hD : va_D A [(mo, .inr (5, [.ref mA, .ref mK, .ref mH, .int hy, .ref mS, .ref mV, .ref mF, .ref mP, .int pl, .int sp, .int nu, .ref mR, .int rm])), (mA, aI E 92 Al)] := hD
  refine lv_istore (lv' := [(4, .int (muM Al k x (nI y) k)), (0, .ref mo), (1, .int (nI x)), (2, .int (nI y)), (3, .int w)]) hx hb dX5_must_43 hl (by decide) rfl (fun ls hl => ?_)
  refine lv_iconst (v := nI 0) hx hb dX5_must_45 (by decide) ?_
  refine lv_istore (lv' := [(5, .int (nI 0)), (4, .int (muM Al k x (nI y) k)), (0, .ref mo), (1, .int (nI x)), (2, .int (nI y)), (3, .int w)]) hx hb dX5_must_46 hl (by decide) rfl (fun ls hl => ?_)
  have L48 : ∀ (fu : Nat) (i : Nat), (he : fst6 (muP Al k x (muM Al k x (nI y) k) w) 0 k = fst6 (muP Al k x (muM Al k x (nI y) k) w) i (k - i)) → (gi : i ≤ k) → k - i < fu → ∀ (H : Heap) (locs : List Loc), va_P E.1 vwCl [(mo, .inr (5, [.ref mA, .ref mK, .ref mH, .int hy, .ref mS, .ref mV, .ref mF, .ref mP, .int pl, .int sp, .int nu, .ref mR, .int rm])), (mA, aI E 92 Al)] H → va_D A [(mo, .inr (5, [.ref mA, .ref mK, .ref mH, .int hy, .ref mS, .ref mV, .ref mF, .ref mP, .int pl, .int sp, .int nu, .ref mR, .int rm])), (mA, aI E 92 Al)] → va_S A s.heap H locs → ∀ (ls : Array Slot), lv_has ls 8 [(5, .int (nI i)), (4, .int (muM Al k x (nI y) k)), (0, .ref mo), (1, .int (nI x)), (2, .int (nI y)), (3, .int w)] → W p l e R s m args below meth c H locs 0 0 Q (F0 m 48 ls []) := by
    intro fu
    induction fu with
    | zero => intro i he gi hfu; exact absurd hfu (Nat.not_lt_zero _)
    | succ fu ih48 =>
      intro i he gi hfu H locs hP hD hS ls hl
      refine lv_iload hx hb dX5_must_48 (lv_at hl 0 rfl) ?_
      refine lv_aload_n hx hb dX5_must_50 rfl (lv_at hl 2 rfl) ?_
      refine rk_get (ci := 5) (C := RX5) (T := TX5) (N := 13) hx hb hts iw_X5_must_5 hown hK hP 0 rfl rfl 0 (by decide) fl_X5_must_7 rfl (v := .ref mA) rfl dX5_must_51 ?_
      refine lv_iconst (v := nI 1) hx hb dX5_must_54 (by decide) ?_
      refine rk_iald hx hb hK hP 1 rfl (by omega) (by omega) (v := nI k) (by exact gA1) dX5_must_55 ?_
      refine rk_geN (tgt := 163) hx hb (by omega) (by omega) dX5_must_56 (by decide) (fun zc56 => ?_) (fun zc56 => ?_)
      · refine lv_bipush (v := (-6)) hx hb dX5_must_163 (by decide) ?_
        exact ret_i hQ hx hb hr hlocks (hP.sub [0, 1] rfl) (hD.sub [0, 1] (by decide) rfl) hS dX5_must_165 (by rw [he, show k - i = 0 by omega]; rfl)
      · refine lv_iconst (v := nI 0) hx hb dX5_must_59 (by decide) ?_
        refine lv_istore (lv' := [(6, .int (nI 0)), (5, .int (nI i)), (4, .int (muM Al k x (nI y) k)), (0, .ref mo), (1, .int (nI x)), (2, .int (nI y)), (3, .int w)]) hx hb dX5_must_60 hl (by decide) rfl (fun ls hl => ?_)
        refine lv_iconst (v := nI 0) hx hb dX5_must_62 (by decide) ?_
        refine lv_istore (lv' := [(7, .int (nI 0)), (6, .int (nI 0)), (5, .int (nI i)), (4, .int (muM Al k x (nI y) k)), (0, .ref mo), (1, .int (nI x)), (2, .int (nI y)), (3, .int w)]) hx hb dX5_must_63 hl (by decide) rfl (fun ls hl => ?_)
        have L65 : ∀ (fu : Nat) (cn j : Nat), (ec : cn = maH Al k x i (muM Al k x (nI y) k) j) → (gj : j ≤ k) → k - j < fu → ∀ (H : Heap) (locs : List Loc), va_P E.1 vwCl [(mo, .inr (5, [.ref mA, .ref mK, .ref mH, .int hy, .ref mS, .ref mV, .ref mF, .ref mP, .int pl, .int sp, .int nu, .ref mR, .int rm])), (mA, aI E 92 Al)] H → va_D A [(mo, .inr (5, [.ref mA, .ref mK, .ref mH, .int hy, .ref mS, .ref mV, .ref mF, .ref mP, .int pl, .int sp, .int nu, .ref mR, .int rm])), (mA, aI E 92 Al)] → va_S A s.heap H locs → ∀ (ls : Array Slot), lv_has ls 8 [(7, .int (nI j)), (6, .int (nI cn)), (5, .int (nI i)), (4, .int (muM Al k x (nI y) k)), (0, .ref mo), (1, .int (nI x)), (2, .int (nI y)), (3, .int w)] → W p l e R s m args below meth c H locs 0 0 Q (F0 m 65 ls []) := by
          intro fu
          induction fu with
          | zero => intro cn j ec gj hfu; exact absurd hfu (Nat.not_lt_zero _)
          | succ fu ih65 =>
            intro cn j ec gj hfu H locs hP hD hS ls hl
            refine lv_iload hx hb dX5_must_65 (lv_at hl 0 rfl) ?_
            refine lv_aload_n hx hb dX5_must_67 rfl (lv_at hl 4 rfl) ?_
            refine rk_get (ci := 5) (C := RX5) (T := TX5) (N := 13) hx hb hts iw_X5_must_5 hown hK hP 0 rfl rfl 0 (by decide) fl_X5_must_7 rfl (v := .ref mA) rfl dX5_must_68 ?_
            refine lv_iconst (v := nI 1) hx hb dX5_must_71 (by decide) ?_
            refine rk_iald hx hb hK hP 1 rfl (by omega) (by omega) (v := nI k) (by exact gA1) dX5_must_72 ?_
            refine rk_geN (tgt := 137) hx hb (by omega) (by omega) dX5_must_73 (by decide) (fun zc73 => ?_) (fun zc73 => ?_)
            · have ej9 : cn = maH Al k x i (muM Al k x (nI y) k) k := by rw [ec, show j = k by omega]
              refine lv_iload hx hb dX5_must_137 (lv_at hl 3 rfl) ?_
              refine lv_iload hx hb dX5_must_139 (lv_at hl 2 rfl) ?_
              refine lv_ishr hx hb dX5_must_141 ?_
              refine lv_iconst (v := nI 1) hx hb dX5_must_142 (by decide) ?_
              refine lv_iand hx hb dX5_must_143 ?_
              refine lv_iconst (v := nI 1) hx hb dX5_must_144 (by decide) ?_
              refine lv_icmp_ne (tgt := 157) hx hb dX5_must_145 (by decide) (fun zc145 => ?_) (fun zc145 => ?_)
              · refine lv_iinc (v := nI (i + 1)) (lv' := [(5, .int (nI (i + 1))), (7, .int (nI j)), (6, .int (nI cn)), (4, .int (muM Al k x (nI y) k)), (0, .ref mo), (1, .int (nI x)), (2, .int (nI y)), (3, .int w)]) hx hb dX5_must_157 hl (k := 2) rfl (by rw [show Int32.ofInt 1 = nI 1 by decide]; exact nI_add _ _) (by decide) rfl (fun ls hl => ?_)
                refine lv_goto (tgt := 48) hx hb dX5_must_160 (by decide) ?_
                exact ih48 (i + 1) (by rw [he]; exact fst6_miss (muP_f1 (cnt_0 zc145)) (by omega)) (by first | assumption | omega | rfl) (by omega) _ _ (hP.sub [0, 1] rfl) (hD.sub [0, 1] (by decide) rfl) hS ls (lv_sub hl [0, 3, 4, 5, 6, 7] rfl)
              · refine lv_iload hx hb dX5_must_148 (lv_at hl 1 rfl) ?_
                refine lv_iload_n hx hb dX5_must_150 rfl (lv_at hl 7 rfl) ?_
                refine lv_icmp_ne (tgt := 157) hx hb dX5_must_151 (by decide) (fun zc151 => ?_) (fun zc151 => ?_)
                · refine lv_iinc (v := nI (i + 1)) (lv' := [(5, .int (nI (i + 1))), (7, .int (nI j)), (6, .int (nI cn)), (4, .int (muM Al k x (nI y) k)), (0, .ref mo), (1, .int (nI x)), (2, .int (nI y)), (3, .int w)]) hx hb dX5_must_157 hl (k := 2) rfl (by rw [show Int32.ofInt 1 = nI 1 by decide]; exact nI_add _ _) (by decide) rfl (fun ls hl => ?_)
                  refine lv_goto (tgt := 48) hx hb dX5_must_160 (by decide) ?_
                  exact ih48 (i + 1) (by rw [he]; exact fst6_miss (muP_f2 (fun q9 => zc151 (by rw [ej9]; exact q9))) (by omega)) (by first | assumption | omega | rfl) (by omega) _ _ (hP.sub [0, 1] rfl) (hD.sub [0, 1] (by decide) rfl) hS ls (lv_sub hl [0, 3, 4, 5, 6, 7] rfl)
                · refine lv_iload hx hb dX5_must_154 (lv_at hl 2 rfl) ?_
                  exact ret_i hQ hx hb hr hlocks (hP.sub [0, 1] rfl) (hD.sub [0, 1] (by decide) rfl) hS dX5_must_156 (by rw [he]; exact fst6_hit (muP_t (cnt_1 zc145) (by rw [← ej9]; exact zc151)) (by omega))
            · refine lv_iload hx hb dX5_must_76 (lv_at hl 1 rfl) ?_
              refine lv_iload hx hb dX5_must_78 (lv_at hl 0 rfl) ?_
              refine lv_iload hx hb dX5_must_80 (lv_at hl 2 rfl) ?_
              refine rk_eqN (tgt := 127) hx hb (by omega) (by omega) dX5_must_82 (by decide) (fun zc82 => ?_) (fun zc82 => ?_)
              · refine lv_iconst (v := nI 0) hx hb dX5_must_127 (by decide) ?_
                refine rk_iaddN hx hb dX5_must_128 ?_
                refine lv_istore (lv' := [(6, .int (nI (cn + 0))), (7, .int (nI j)), (5, .int (nI i)), (4, .int (muM Al k x (nI y) k)), (0, .ref mo), (1, .int (nI x)), (2, .int (nI y)), (3, .int w)]) hx hb dX5_must_129 hl (by decide) rfl (fun ls hl => ?_)
                refine lv_iinc (v := nI (j + 1)) (lv' := [(7, .int (nI (j + 1))), (6, .int (nI (cn + 0))), (5, .int (nI i)), (4, .int (muM Al k x (nI y) k)), (0, .ref mo), (1, .int (nI x)), (2, .int (nI y)), (3, .int w)]) hx hb dX5_must_131 hl (k := 1) rfl (by rw [show Int32.ofInt 1 = nI 1 by decide]; exact nI_add _ _) (by decide) rfl (fun ls hl => ?_)
                refine lv_goto (tgt := 65) hx hb dX5_must_134 (by decide) ?_
                exact ih65 (cn + 0) (j + 1) (by subst ec; simp only [maH]; exact (ifn1 (fun q9 => q9.1 zc82)).symm) (by first | assumption | omega | rfl) (by omega) _ _ (hP.sub [0, 1] rfl) (hD.sub [0, 1] (by decide) rfl) hS ls (lv_sub hl [0, 1, 2, 3, 4, 5, 6, 7] rfl)
              · refine lv_iload hx hb dX5_must_85 (lv_at hl 3 rfl) ?_
                refine lv_iload hx hb dX5_must_87 (lv_at hl 0 rfl) ?_
                refine lv_ishr hx hb dX5_must_89 ?_
                refine lv_iconst (v := nI 1) hx hb dX5_must_90 (by decide) ?_
                refine lv_iand hx hb dX5_must_91 ?_
                refine lv_iconst (v := nI 1) hx hb dX5_must_92 (by decide) ?_
                refine lv_icmp_ne (tgt := 127) hx hb dX5_must_93 (by decide) (fun zc93 => ?_) (fun zc93 => ?_)
                · refine lv_iconst (v := nI 0) hx hb dX5_must_127 (by decide) ?_
                  refine rk_iaddN hx hb dX5_must_128 ?_
                  refine lv_istore (lv' := [(6, .int (nI (cn + 0))), (7, .int (nI j)), (5, .int (nI i)), (4, .int (muM Al k x (nI y) k)), (0, .ref mo), (1, .int (nI x)), (2, .int (nI y)), (3, .int w)]) hx hb dX5_must_129 hl (by decide) rfl (fun ls hl => ?_)
                  refine lv_iinc (v := nI (j + 1)) (lv' := [(7, .int (nI (j + 1))), (6, .int (nI (cn + 0))), (5, .int (nI i)), (4, .int (muM Al k x (nI y) k)), (0, .ref mo), (1, .int (nI x)), (2, .int (nI y)), (3, .int w)]) hx hb dX5_must_131 hl (k := 1) rfl (by rw [show Int32.ofInt 1 = nI 1 by decide]; exact nI_add _ _) (by decide) rfl (fun ls hl => ?_)
                  refine lv_goto (tgt := 65) hx hb dX5_must_134 (by decide) ?_
                  exact ih65 (cn + 0) (j + 1) (by subst ec; simp only [maH]; exact (ifn1 (fun q9 => absurd q9.2 (by rw [cnt_0 zc93]; decide))).symm) (by first | assumption | omega | rfl) (by omega) _ _ (hP.sub [0, 1] rfl) (hD.sub [0, 1] (by decide) rfl) hS ls (lv_sub hl [0, 1, 2, 3, 4, 5, 6, 7] rfl)
                · refine lv_aload_n hx hb dX5_must_96 rfl (lv_at hl 4 rfl) ?_
                  refine lv_iload hx hb dX5_must_97 (lv_at hl 0 rfl) ?_
                  refine kV_i (E := E) (As := [.int (nI j)]) (rest := [.int (nI cn)]) (wr := []) ⟨hx, hb, hml, hown, hts⟩ (c_X5_ends (l := l) (E := E) (sz := _) (mo := mo) (mA := mA) (mK := mK) (mH := mH) (mS := mS) (mV := mV) (mF := mF) (mP := mP) (mR := mR) (hy := hy) (pl := pl) (sp := sp) (nu := nu) (rm := rm) (n := n) (k := k) (Al := Al) (r := j) (gA1 := by first | assumption | omega) (gk := by first | assumption | omega) (gok := by first | assumption | omega) (gr := by first | assumption | omega)) (cwV 1 hts gX5_must_X5_ends rfl rfl rfl (by decide +kernel) ⟨by rw [hR]; decide, by rw [hR]; decide⟩) hK hN hP hD hS hA [0, 1] [] rfl (by decide) rfl (by decide) (by decide) 0 5 rfl rfl rfl hl.1 rfl (Nat.le_of_ble_eq_true rfl) dX5_must_99 ⟨Nat.zero_le _, Nat.zero_le _⟩ (fun H locs hP hD hS => ?_)
                  have hP : va_P E.1 vwCl [(mo, .inr (5, [.ref mA, .ref mK, .ref mH, .int hy, .ref mS, .ref mV, .ref mF, .ref mP, .int pl, .int sp, .int nu, .ref mR, .int rm])), (mA, aI E 92 Al)] H := hP
                  have hD : va_D A [(mo, .inr (5, [.ref mA, .ref mK, .ref mH, .int hy, .ref mS, .ref mV, .ref mF, .ref mP, .int pl, .int sp, .int nu, .ref mR, .int rm])), (mA, aI E 92 Al)] := hD
                  refine lv_aload_n hx hb dX5_must_102 rfl (lv_at hl 4 rfl) ?_
                  refine lv_iload_n hx hb dX5_must_103 rfl (lv_at hl 5 rfl) ?_
                  refine lv_iconst (v := nI 1) hx hb dX5_must_104 (by decide) ?_
                  refine lv_iload hx hb dX5_must_105 (lv_at hl 2 rfl) ?_
                  refine lv_ishl hx hb dX5_must_107 ?_
                  refine lv_bipush (v := (-6)) hx hb dX5_must_108 (by decide) ?_
                  refine kV_i (E := E) (As := [.int (nI x), .int ((nI 1) <<< ((nI i) &&& 31)), .int ((-6))]) (rest := [.int (enM Al j), .int (nI cn)]) (wr := []) ⟨hx, hb, hml, hown, hts⟩ (c_X5_reach (l := l) (E := E) (sz := _) (mo := mo) (mA := mA) (mK := mK) (mH := mH) (mS := mS) (mV := mV) (mF := mF) (mP := mP) (mR := mR) (hy := hy) (pl := pl) (sp := sp) (nu := nu) (rm := rm) (n := n) (k := k) (Al := Al) (q := x) (w := (nI 1) <<< ((nI i) &&& 31)) (z := (-6)) (gA1 := by first | assumption | omega) (gk := by first | assumption | omega) (gok := by first | assumption | omega) (gq := by first | assumption | omega)) (cwV 3 hts gX5_must_X5_reach rfl rfl rfl (by decide +kernel) ⟨by rw [hR]; decide, by rw [hR]; decide⟩) hK hN hP hD hS hA [0, 1] [] rfl (by decide) rfl (by decide) (by decide) 0 5 rfl rfl rfl hl.1 rfl (Nat.le_of_ble_eq_true rfl) dX5_must_110 ⟨Nat.zero_le _, Nat.zero_le _⟩ (fun H locs hP hD hS => ?_)
                  have hP : va_P E.1 vwCl [(mo, .inr (5, [.ref mA, .ref mK, .ref mH, .int hy, .ref mS, .ref mV, .ref mF, .ref mP, .int pl, .int sp, .int nu, .ref mR, .int rm])), (mA, aI E 92 Al)] H := hP
                  have hD : va_D A [(mo, .inr (5, [.ref mA, .ref mK, .ref mH, .int hy, .ref mS, .ref mV, .ref mF, .ref mP, .int pl, .int sp, .int nu, .ref mR, .int rm])), (mA, aI E 92 Al)] := hD
                  refine lv_iand hx hb dX5_must_113 ?_
                  refine lv_aload_n hx hb dX5_must_114 rfl (lv_at hl 4 rfl) ?_
                  refine lv_iload hx hb dX5_must_115 (lv_at hl 0 rfl) ?_
                  refine kV_i (E := E) (As := [.int (nI j)]) (rest := [.int ((enM Al j) &&& (rsM Al ((nI 1) <<< ((nI i) &&& 31)) ((-6)) k x)), .int (nI cn)]) (wr := []) ⟨hx, hb, hml, hown, hts⟩ (c_X5_ends (l := l) (E := E) (sz := _) (mo := mo) (mA := mA) (mK := mK) (mH := mH) (mS := mS) (mV := mV) (mF := mF) (mP := mP) (mR := mR) (hy := hy) (pl := pl) (sp := sp) (nu := nu) (rm := rm) (n := n) (k := k) (Al := Al) (r := j) (gA1 := by first | assumption | omega) (gk := by first | assumption | omega) (gok := by first | assumption | omega) (gr := by first | assumption | omega)) (cwV 1 hts gX5_must_X5_ends rfl rfl rfl (by decide +kernel) ⟨by rw [hR]; decide, by rw [hR]; decide⟩) hK hN hP hD hS hA [0, 1] [] rfl (by decide) rfl (by decide) (by decide) 0 5 rfl rfl rfl hl.1 rfl (Nat.le_of_ble_eq_true rfl) dX5_must_117 ⟨Nat.zero_le _, Nat.zero_le _⟩ (fun H locs hP hD hS => ?_)
                  have hP : va_P E.1 vwCl [(mo, .inr (5, [.ref mA, .ref mK, .ref mH, .int hy, .ref mS, .ref mV, .ref mF, .ref mP, .int pl, .int sp, .int nu, .ref mR, .int rm])), (mA, aI E 92 Al)] H := hP
                  have hD : va_D A [(mo, .inr (5, [.ref mA, .ref mK, .ref mH, .int hy, .ref mS, .ref mV, .ref mF, .ref mP, .int pl, .int sp, .int nu, .ref mR, .int rm])), (mA, aI E 92 Al)] := hD
                  refine lv_icmp_ne (tgt := 127) hx hb dX5_must_120 (by decide) (fun zc120 => ?_) (fun zc120 => ?_)
                  · refine lv_iconst (v := nI 0) hx hb dX5_must_127 (by decide) ?_
                    refine rk_iaddN hx hb dX5_must_128 ?_
                    refine lv_istore (lv' := [(6, .int (nI (cn + 0))), (7, .int (nI j)), (5, .int (nI i)), (4, .int (muM Al k x (nI y) k)), (0, .ref mo), (1, .int (nI x)), (2, .int (nI y)), (3, .int w)]) hx hb dX5_must_129 hl (by decide) rfl (fun ls hl => ?_)
                    refine lv_iinc (v := nI (j + 1)) (lv' := [(7, .int (nI (j + 1))), (6, .int (nI (cn + 0))), (5, .int (nI i)), (4, .int (muM Al k x (nI y) k)), (0, .ref mo), (1, .int (nI x)), (2, .int (nI y)), (3, .int w)]) hx hb dX5_must_131 hl (k := 1) rfl (by rw [show Int32.ofInt 1 = nI 1 by decide]; exact nI_add _ _) (by decide) rfl (fun ls hl => ?_)
                    refine lv_goto (tgt := 65) hx hb dX5_must_134 (by decide) ?_
                    exact ih65 (cn + 0) (j + 1) (by subst ec; simp only [maH]; exact (ifn2 zc120).symm) (by first | assumption | omega | rfl) (by omega) _ _ (hP.sub [0, 1] rfl) (hD.sub [0, 1] (by decide) rfl) hS ls (lv_sub hl [0, 1, 2, 3, 4, 5, 6, 7] rfl)
                  · refine lv_iconst (v := nI 1) hx hb dX5_must_123 (by decide) ?_
                    refine lv_goto (tgt := 128) hx hb dX5_must_124 (by decide) ?_
                    refine rk_iaddN hx hb dX5_must_128 ?_
                    refine lv_istore (lv' := [(6, .int (nI (cn + 1))), (7, .int (nI j)), (5, .int (nI i)), (4, .int (muM Al k x (nI y) k)), (0, .ref mo), (1, .int (nI x)), (2, .int (nI y)), (3, .int w)]) hx hb dX5_must_129 hl (by decide) rfl (fun ls hl => ?_)
                    refine lv_iinc (v := nI (j + 1)) (lv' := [(7, .int (nI (j + 1))), (6, .int (nI (cn + 1))), (5, .int (nI i)), (4, .int (muM Al k x (nI y) k)), (0, .ref mo), (1, .int (nI x)), (2, .int (nI y)), (3, .int w)]) hx hb dX5_must_131 hl (k := 1) rfl (by rw [show Int32.ofInt 1 = nI 1 by decide]; exact nI_add _ _) (by decide) rfl (fun ls hl => ?_)
                    refine lv_goto (tgt := 65) hx hb dX5_must_134 (by decide) ?_
                    exact ih65 (cn + 1) (j + 1) (by subst ec; simp only [maH]; exact (if_pos (And.intro (And.intro zc82 (cnt_1 zc93)) zc120)).symm) (by first | assumption | omega | rfl) (by omega) _ _ (hP.sub [0, 1] rfl) (hD.sub [0, 1] (by decide) rfl) hS ls (lv_sub hl [0, 1, 2, 3, 4, 5, 6, 7] rfl)
        exact L65 ((k - 0) + 1) 0 0 (rfl) (by first | assumption | omega | rfl) (Nat.lt_succ_self _) _ _ (hP.sub [0, 1] rfl) (hD.sub [0, 1] (by decide) rfl) hS ls (lv_sub hl [0, 1, 2, 3, 4, 5, 6, 7] rfl)
  exact L48 ((k - 0) + 1) 0 (rfl) (by first | assumption | omega | rfl) (Nat.lt_succ_self _) _ _ (hP.sub [0, 1] rfl) (hD.sub [0, 1] (by decide) rfl) hS ls (lv_sub hl [0, 1, 2, 3, 4, 5] rfl)
set_option maxHeartbeats 400000 in
set_option maxRecDepth 100000 in
theorem c_X5_cutOff_bad (l : Launch) (E : EE) (sz : Nat) (mo mA mK mH mS mV mF mP mR : Nat) (hy pl sp nu rm : Int32) (n k : Nat) (Al : Nat → Int32) (a b : Int32) (gA0 : Al 0 = nI n) (gn : n ≤ 16) (gA1 : Al 1 = nI k) (gk : k ≤ 30) (gb : inR a (nI n) = true → inR b (nI k) = false) : Ci l yX5_cutOff wsX5_cutOff 2 46 E [.ref mo, .int a, .int b] [(mo, .inr (5, [.ref mA, .ref mK, .ref mH, .int hy, .ref mS, .ref mV, .ref mF, .ref mP, .int pl, .int sp, .int nu, .ref mR, .int rm])), (mA, aI E 92 Al)] sz (-1) [(mo, .inr (5, [.ref mA, .ref mK, .ref mH, .int hy, .ref mS, .ref mV, .ref mF, .ref mP, .int pl, .int sp, .int nu, .ref mR, .int rm])), (mA, aI E 92 Al)] := by
  refine C_of (QQ := QI E (-1) [(mo, .inr (5, [.ref mA, .ref mK, .ref mH, .int hy, .ref mS, .ref mV, .ref mF, .ref mP, .int pl, .int sp, .int nu, .ref mR, .int rm])), (mA, aI E 92 Al)]) (cc := cX5_cutOff) (maxL := 3) (ret := (some .int)) (by decide +kernel) rfl (Nat.le_of_ble_eq_true rfl) ?_
  intro p e s m args below meth c A R Q ls hx hb hr hts hown hml hlocks hA hK hN hP hD hS hl hR hQ
  have hown : s.vm.findClass RX5 = some m.cls := hown
  have hl : lv_has ls 3 [(0, .ref mo), (1, .int a), (2, .int b)] := hl
  refine lv_aload_n hx hb dX5_cutOff_0 rfl (lv_at hl 0 rfl) ?_
  refine lv_iload_n hx hb dX5_cutOff_1 rfl (lv_at hl 1 rfl) ?_
  refine kV_i (E := E) (As := [.int a]) (rest := []) (wr := []) ⟨hx, hb, hml, hown, hts⟩ (c_X5_isSquare (l := l) (E := E) (sz := _) (mo := mo) (mA := mA) (mK := mK) (mH := mH) (mS := mS) (mV := mV) (mF := mF) (mP := mP) (mR := mR) (hy := hy) (pl := pl) (sp := sp) (nu := nu) (rm := rm) (n := n) (k := k) (Al := Al) (x := a) (gA0 := by first | assumption | omega) (gn := by first | assumption | omega)) (cwV 1 hts gX5_cutOff_X5_isSquare rfl rfl rfl (by decide +kernel) ⟨by rw [hR]; decide, by rw [hR]; decide⟩) hK hN hP hD hS hA [0, 1] [] rfl (by decide) rfl (by decide) (by decide) 0 5 rfl rfl rfl hl.1 rfl (Nat.le_of_ble_eq_true rfl) dX5_cutOff_2 ⟨Nat.zero_le _, Nat.zero_le _⟩ (fun H locs hP hD hS => ?_)
  have hP : va_P E.1 vwCl [(mo, .inr (5, [.ref mA, .ref mK, .ref mH, .int hy, .ref mS, .ref mV, .ref mF, .ref mP, .int pl, .int sp, .int nu, .ref mR, .int rm])), (mA, aI E 92 Al)] H := hP
  have hD : va_D A [(mo, .inr (5, [.ref mA, .ref mK, .ref mH, .int hy, .ref mS, .ref mV, .ref mF, .ref mP, .int pl, .int sp, .int nu, .ref mR, .int rm])), (mA, aI E 92 Al)] := hD
  refine rk_if_eqB (tgt := 16) hx hb dX5_cutOff_5 (by decide) (fun zc5 => ?_) (fun zc5 => ?_)
  · refine lv_iconst (v := (-1)) hx hb dX5_cutOff_16 (by decide) ?_
    exact ret_i hQ hx hb hr hlocks (hP.sub [0, 1] rfl) (hD.sub [0, 1] (by decide) rfl) hS dX5_cutOff_17 (rfl)
  · refine lv_aload_n hx hb dX5_cutOff_8 rfl (lv_at hl 0 rfl) ?_
    refine lv_iload_n hx hb dX5_cutOff_9 rfl (lv_at hl 2 rfl) ?_
    refine kV_i (E := E) (As := [.int b]) (rest := []) (wr := []) ⟨hx, hb, hml, hown, hts⟩ (c_X5_isRoad (l := l) (E := E) (sz := _) (mo := mo) (mA := mA) (mK := mK) (mH := mH) (mS := mS) (mV := mV) (mF := mF) (mP := mP) (mR := mR) (hy := hy) (pl := pl) (sp := sp) (nu := nu) (rm := rm) (n := n) (k := k) (Al := Al) (x := b) (gA1 := by first | assumption | omega) (gk := by first | assumption | omega)) (cwV 1 hts gX5_cutOff_X5_isRoad rfl rfl rfl (by decide +kernel) ⟨by rw [hR]; decide, by rw [hR]; decide⟩) hK hN hP hD hS hA [0, 1] [] rfl (by decide) rfl (by decide) (by decide) 0 5 rfl rfl rfl hl.1 rfl (Nat.le_of_ble_eq_true rfl) dX5_cutOff_10 ⟨Nat.zero_le _, Nat.zero_le _⟩ (fun H locs hP hD hS => ?_)
    have hP : va_P E.1 vwCl [(mo, .inr (5, [.ref mA, .ref mK, .ref mH, .int hy, .ref mS, .ref mV, .ref mF, .ref mP, .int pl, .int sp, .int nu, .ref mR, .int rm])), (mA, aI E 92 Al)] H := hP
    have hD : va_D A [(mo, .inr (5, [.ref mA, .ref mK, .ref mH, .int hy, .ref mS, .ref mV, .ref mF, .ref mP, .int pl, .int sp, .int nu, .ref mR, .int rm])), (mA, aI E 92 Al)] := hD
    refine rk_if_neB (tgt := 18) hx hb dX5_cutOff_13 (by decide) (fun q => absurd q (by rw [gb zc5]; decide)) (fun zc13 => ?_)
    refine lv_iconst (v := (-1)) hx hb dX5_cutOff_16 (by decide) ?_
    exact ret_i hQ hx hb hr hlocks (hP.sub [0, 1] rfl) (hD.sub [0, 1] (by decide) rfl) hS dX5_cutOff_17 (rfl)
set_option maxHeartbeats 400000 in
set_option maxRecDepth 100000 in
theorem c_X5_cutOff_ok (l : Launch) (E : EE) (sz : Nat) (mo mA mK mH mS mV mF mP mR : Nat) (hy pl sp nu rm : Int32) (n k : Nat) (Al : Nat → Int32) (x r : Nat) (gA0 : Al 0 = nI n) (gn : n ≤ 16) (gA1 : Al 1 = nI k) (gk : k ≤ 30) (gok : okA Al k) (gx : x < n) (gy : r < k) : Ci l yX5_cutOff wsX5_cutOff 3 70 E [.ref mo, .int (nI x), .int (nI r)] [(mo, .inr (5, [.ref mA, .ref mK, .ref mH, .int hy, .ref mS, .ref mV, .ref mF, .ref mP, .int pl, .int sp, .int nu, .ref mR, .int rm])), (mA, aI E 92 Al)] sz (rsM Al (nI 0) (-6) k x &&& (rsM Al (nI 1 <<< (nI r &&& 31)) (-6) k x ^^^ (-1))) [(mo, .inr (5, [.ref mA, .ref mK, .ref mH, .int hy, .ref mS, .ref mV, .ref mF, .ref mP, .int pl, .int sp, .int nu, .ref mR, .int rm])), (mA, aI E 92 Al)] := by
  refine C_of (QQ := QI E (rsM Al (nI 0) (-6) k x &&& (rsM Al (nI 1 <<< (nI r &&& 31)) (-6) k x ^^^ (-1))) [(mo, .inr (5, [.ref mA, .ref mK, .ref mH, .int hy, .ref mS, .ref mV, .ref mF, .ref mP, .int pl, .int sp, .int nu, .ref mR, .int rm])), (mA, aI E 92 Al)]) (cc := cX5_cutOff) (maxL := 3) (ret := (some .int)) (by decide +kernel) rfl (Nat.le_of_ble_eq_true rfl) ?_
  intro p e s m args below meth c A R Q ls hx hb hr hts hown hml hlocks hA hK hN hP hD hS hl hR hQ
  have hown : s.vm.findClass RX5 = some m.cls := hown
  have hl : lv_has ls 3 [(0, .ref mo), (1, .int (nI x)), (2, .int (nI r))] := hl
  refine lv_aload_n hx hb dX5_cutOff_0 rfl (lv_at hl 0 rfl) ?_
  refine lv_iload_n hx hb dX5_cutOff_1 rfl (lv_at hl 1 rfl) ?_
  refine kV_i (E := E) (As := [.int (nI x)]) (rest := []) (wr := []) ⟨hx, hb, hml, hown, hts⟩ (c_X5_isSquare (l := l) (E := E) (sz := _) (mo := mo) (mA := mA) (mK := mK) (mH := mH) (mS := mS) (mV := mV) (mF := mF) (mP := mP) (mR := mR) (hy := hy) (pl := pl) (sp := sp) (nu := nu) (rm := rm) (n := n) (k := k) (Al := Al) (x := nI x) (gA0 := by first | assumption | omega) (gn := by first | assumption | omega)) (cwV 1 hts gX5_cutOff_X5_isSquare rfl rfl rfl (by decide +kernel) ⟨by rw [hR]; decide, by rw [hR]; decide⟩) hK hN hP hD hS hA [0, 1] [] rfl (by decide) rfl (by decide) (by decide) 0 5 rfl rfl rfl hl.1 rfl (Nat.le_of_ble_eq_true rfl) dX5_cutOff_2 ⟨Nat.zero_le _, Nat.zero_le _⟩ (fun H locs hP hD hS => ?_)
  have hP : va_P E.1 vwCl [(mo, .inr (5, [.ref mA, .ref mK, .ref mH, .int hy, .ref mS, .ref mV, .ref mF, .ref mP, .int pl, .int sp, .int nu, .ref mR, .int rm])), (mA, aI E 92 Al)] H := hP
  have hD : va_D A [(mo, .inr (5, [.ref mA, .ref mK, .ref mH, .int hy, .ref mS, .ref mV, .ref mF, .ref mP, .int pl, .int sp, .int nu, .ref mR, .int rm])), (mA, aI E 92 Al)] := hD
  refine rk_if_eqB (tgt := 16) hx hb dX5_cutOff_5 (by decide) (fun q => absurd q (by rw [inR_ok gx (by omega)]; decide)) (fun zc5 => ?_)
  refine lv_aload_n hx hb dX5_cutOff_8 rfl (lv_at hl 0 rfl) ?_
  refine lv_iload_n hx hb dX5_cutOff_9 rfl (lv_at hl 2 rfl) ?_
  refine kV_i (E := E) (As := [.int (nI r)]) (rest := []) (wr := []) ⟨hx, hb, hml, hown, hts⟩ (c_X5_isRoad (l := l) (E := E) (sz := _) (mo := mo) (mA := mA) (mK := mK) (mH := mH) (mS := mS) (mV := mV) (mF := mF) (mP := mP) (mR := mR) (hy := hy) (pl := pl) (sp := sp) (nu := nu) (rm := rm) (n := n) (k := k) (Al := Al) (x := nI r) (gA1 := by first | assumption | omega) (gk := by first | assumption | omega)) (cwV 1 hts gX5_cutOff_X5_isRoad rfl rfl rfl (by decide +kernel) ⟨by rw [hR]; decide, by rw [hR]; decide⟩) hK hN hP hD hS hA [0, 1] [] rfl (by decide) rfl (by decide) (by decide) 0 5 rfl rfl rfl hl.1 rfl (Nat.le_of_ble_eq_true rfl) dX5_cutOff_10 ⟨Nat.zero_le _, Nat.zero_le _⟩ (fun H locs hP hD hS => ?_)
  have hP : va_P E.1 vwCl [(mo, .inr (5, [.ref mA, .ref mK, .ref mH, .int hy, .ref mS, .ref mV, .ref mF, .ref mP, .int pl, .int sp, .int nu, .ref mR, .int rm])), (mA, aI E 92 Al)] H := hP
  have hD : va_D A [(mo, .inr (5, [.ref mA, .ref mK, .ref mH, .int hy, .ref mS, .ref mV, .ref mF, .ref mP, .int pl, .int sp, .int nu, .ref mR, .int rm])), (mA, aI E 92 Al)] := hD
  refine rk_if_neB (tgt := 18) hx hb dX5_cutOff_13 (by decide) (fun zc13 => ?_) (fun q => absurd q (by rw [inR_ok gy (by omega)]; decide))
  refine lv_aload_n hx hb dX5_cutOff_18 rfl (lv_at hl 0 rfl) ?_
  refine lv_iload_n hx hb dX5_cutOff_19 rfl (lv_at hl 1 rfl) ?_
  refine kV_i (E := E) (As := [.int (nI x)]) (rest := []) (wr := []) ⟨hx, hb, hml, hown, hts⟩ (c_X5_pieceOf (l := l) (E := E) (sz := _) (mo := mo) (mA := mA) (mK := mK) (mH := mH) (mS := mS) (mV := mV) (mF := mF) (mP := mP) (mR := mR) (hy := hy) (pl := pl) (sp := sp) (nu := nu) (rm := rm) (n := n) (k := k) (Al := Al) (q := x) (gA1 := by first | assumption | omega) (gk := by first | assumption | omega) (gok := by first | assumption | omega) (gq := by first | assumption | omega)) (cwV 1 hts gX5_cutOff_X5_pieceOf rfl rfl rfl (by decide +kernel) ⟨by rw [hR]; decide, by rw [hR]; decide⟩) hK hN hP hD hS hA [0, 1] [] rfl (by decide) rfl (by decide) (by decide) 0 5 rfl rfl rfl hl.1 rfl (Nat.le_of_ble_eq_true rfl) dX5_cutOff_20 ⟨Nat.zero_le _, Nat.zero_le _⟩ (fun H locs hP hD hS => ?_)
  have hP : va_P E.1 vwCl [(mo, .inr (5, [.ref mA, .ref mK, .ref mH, .int hy, .ref mS, .ref mV, .ref mF, .ref mP, .int pl, .int sp, .int nu, .ref mR, .int rm])), (mA, aI E 92 Al)] H := hP
  have hD : va_D A [(mo, .inr (5, [.ref mA, .ref mK, .ref mH, .int hy, .ref mS, .ref mV, .ref mF, .ref mP, .int pl, .int sp, .int nu, .ref mR, .int rm])), (mA, aI E 92 Al)] := hD
  refine lv_aload_n hx hb dX5_cutOff_23 rfl (lv_at hl 0 rfl) ?_
  refine lv_iload_n hx hb dX5_cutOff_24 rfl (lv_at hl 1 rfl) ?_
  refine lv_iconst (v := nI 1) hx hb dX5_cutOff_25 (by decide) ?_
  refine lv_iload_n hx hb dX5_cutOff_26 rfl (lv_at hl 2 rfl) ?_
  refine lv_ishl hx hb dX5_cutOff_27 ?_
  refine lv_bipush (v := (-6)) hx hb dX5_cutOff_28 (by decide) ?_
  refine kV_i (E := E) (As := [.int (nI x), .int ((nI 1) <<< ((nI r) &&& 31)), .int ((-6))]) (rest := [.int (rsM Al (nI 0) (-6) k x)]) (wr := []) ⟨hx, hb, hml, hown, hts⟩ (c_X5_reach (l := l) (E := E) (sz := _) (mo := mo) (mA := mA) (mK := mK) (mH := mH) (mS := mS) (mV := mV) (mF := mF) (mP := mP) (mR := mR) (hy := hy) (pl := pl) (sp := sp) (nu := nu) (rm := rm) (n := n) (k := k) (Al := Al) (q := x) (w := (nI 1) <<< ((nI r) &&& 31)) (z := (-6)) (gA1 := by first | assumption | omega) (gk := by first | assumption | omega) (gok := by first | assumption | omega) (gq := by first | assumption | omega)) (cwV 3 hts gX5_cutOff_X5_reach rfl rfl rfl (by decide +kernel) ⟨by rw [hR]; decide, by rw [hR]; decide⟩) hK hN hP hD hS hA [0, 1] [] rfl (by decide) rfl (by decide) (by decide) 0 5 rfl rfl rfl hl.1 rfl (Nat.le_of_ble_eq_true rfl) dX5_cutOff_30 ⟨Nat.zero_le _, Nat.zero_le _⟩ (fun H locs hP hD hS => ?_)
  have hP : va_P E.1 vwCl [(mo, .inr (5, [.ref mA, .ref mK, .ref mH, .int hy, .ref mS, .ref mV, .ref mF, .ref mP, .int pl, .int sp, .int nu, .ref mR, .int rm])), (mA, aI E 92 Al)] H := hP
  have hD : va_D A [(mo, .inr (5, [.ref mA, .ref mK, .ref mH, .int hy, .ref mS, .ref mV, .ref mF, .ref mP, .int pl, .int sp, .int nu, .ref mR, .int rm])), (mA, aI E 92 Al)] := hD
  refine lv_iconst (v := (-1)) hx hb dX5_cutOff_33 (by decide) ?_
  refine lv_ixor hx hb dX5_cutOff_34 ?_
  refine lv_iand hx hb dX5_cutOff_35 ?_
  exact ret_i hQ hx hb hr hlocks (hP.sub [0, 1] rfl) (hD.sub [0, 1] (by decide) rfl) hS dX5_cutOff_36 (rfl)
set_option maxHeartbeats 400000 in
set_option maxRecDepth 100000 in
theorem c_X5_ifBuilt_same (l : Launch) (E : EE) (sz : Nat) (mo mA mK mH mS mV mF mP mR : Nat) (hy pl sp nu rm : Int32) (n k : Nat) (Al : Nat → Int32) (x : Nat) (w : Int32) (gA0 : Al 0 = nI n) (gn : n ≤ 16) (gA1 : Al 1 = nI k) (gk : k ≤ 30) (gok : okA Al k) (gx : x < n) : Ci l yX5_ifBuilt wsX5_ifBuilt 2 46 E [.ref mo, .int (nI x), .int (nI x), .int w] [(mo, .inr (5, [.ref mA, .ref mK, .ref mH, .int hy, .ref mS, .ref mV, .ref mF, .ref mP, .int pl, .int sp, .int nu, .ref mR, .int rm])), (mA, aI E 92 Al)] sz (-2) [(mo, .inr (5, [.ref mA, .ref mK, .ref mH, .int hy, .ref mS, .ref mV, .ref mF, .ref mP, .int pl, .int sp, .int nu, .ref mR, .int rm])), (mA, aI E 92 Al)] := by
  refine C_of (QQ := QI E (-2) [(mo, .inr (5, [.ref mA, .ref mK, .ref mH, .int hy, .ref mS, .ref mV, .ref mF, .ref mP, .int pl, .int sp, .int nu, .ref mR, .int rm])), (mA, aI E 92 Al)]) (cc := cX5_ifBuilt) (maxL := 6) (ret := (some .int)) (by decide +kernel) rfl (Nat.le_of_ble_eq_true rfl) ?_
  intro p e s m args below meth c A R Q ls hx hb hr hts hown hml hlocks hA hK hN hP hD hS hl hR hQ
  have hown : s.vm.findClass RX5 = some m.cls := hown
  have hl : lv_has ls 6 [(0, .ref mo), (1, .int (nI x)), (2, .int (nI x)), (3, .int w)] := hl
  refine lv_aload_n hx hb dX5_ifBuilt_0 rfl (lv_at hl 0 rfl) ?_
  refine lv_iload_n hx hb dX5_ifBuilt_1 rfl (lv_at hl 1 rfl) ?_
  refine kV_i (E := E) (As := [.int (nI x)]) (rest := []) (wr := []) ⟨hx, hb, hml, hown, hts⟩ (c_X5_isSquare (l := l) (E := E) (sz := _) (mo := mo) (mA := mA) (mK := mK) (mH := mH) (mS := mS) (mV := mV) (mF := mF) (mP := mP) (mR := mR) (hy := hy) (pl := pl) (sp := sp) (nu := nu) (rm := rm) (n := n) (k := k) (Al := Al) (x := nI x) (gA0 := by first | assumption | omega) (gn := by first | assumption | omega)) (cwV 1 hts gX5_ifBuilt_X5_isSquare rfl rfl rfl (by decide +kernel) ⟨by rw [hR]; decide, by rw [hR]; decide⟩) hK hN hP hD hS hA [0, 1] [] rfl (by decide) rfl (by decide) (by decide) 0 5 rfl rfl rfl hl.1 rfl (Nat.le_of_ble_eq_true rfl) dX5_ifBuilt_2 ⟨Nat.zero_le _, Nat.zero_le _⟩ (fun H locs hP hD hS => ?_)
  have hP : va_P E.1 vwCl [(mo, .inr (5, [.ref mA, .ref mK, .ref mH, .int hy, .ref mS, .ref mV, .ref mF, .ref mP, .int pl, .int sp, .int nu, .ref mR, .int rm])), (mA, aI E 92 Al)] H := hP
  have hD : va_D A [(mo, .inr (5, [.ref mA, .ref mK, .ref mH, .int hy, .ref mS, .ref mV, .ref mF, .ref mP, .int pl, .int sp, .int nu, .ref mR, .int rm])), (mA, aI E 92 Al)] := hD
  refine rk_if_eqB (tgt := 16) hx hb dX5_ifBuilt_5 (by decide) (fun q => absurd q (by rw [inR_ok gx (by omega)]; decide)) (fun zc5 => ?_)
  refine lv_aload_n hx hb dX5_ifBuilt_8 rfl (lv_at hl 0 rfl) ?_
  refine lv_iload_n hx hb dX5_ifBuilt_9 rfl (lv_at hl 2 rfl) ?_
  refine kV_i (E := E) (As := [.int (nI x)]) (rest := []) (wr := []) ⟨hx, hb, hml, hown, hts⟩ (c_X5_isSquare (l := l) (E := E) (sz := _) (mo := mo) (mA := mA) (mK := mK) (mH := mH) (mS := mS) (mV := mV) (mF := mF) (mP := mP) (mR := mR) (hy := hy) (pl := pl) (sp := sp) (nu := nu) (rm := rm) (n := n) (k := k) (Al := Al) (x := nI x) (gA0 := by first | assumption | omega) (gn := by first | assumption | omega)) (cwV 1 hts gX5_ifBuilt_X5_isSquare rfl rfl rfl (by decide +kernel) ⟨by rw [hR]; decide, by rw [hR]; decide⟩) hK hN hP hD hS hA [0, 1] [] rfl (by decide) rfl (by decide) (by decide) 0 5 rfl rfl rfl hl.1 rfl (Nat.le_of_ble_eq_true rfl) dX5_ifBuilt_10 ⟨Nat.zero_le _, Nat.zero_le _⟩ (fun H locs hP hD hS => ?_)
  have hP : va_P E.1 vwCl [(mo, .inr (5, [.ref mA, .ref mK, .ref mH, .int hy, .ref mS, .ref mV, .ref mF, .ref mP, .int pl, .int sp, .int nu, .ref mR, .int rm])), (mA, aI E 92 Al)] H := hP
  have hD : va_D A [(mo, .inr (5, [.ref mA, .ref mK, .ref mH, .int hy, .ref mS, .ref mV, .ref mF, .ref mP, .int pl, .int sp, .int nu, .ref mR, .int rm])), (mA, aI E 92 Al)] := hD
  refine rk_if_neB (tgt := 18) hx hb dX5_ifBuilt_13 (by decide) (fun zc13 => ?_) (fun q => absurd q (by rw [inR_ok gx (by omega)]; decide))
  refine lv_iload_n hx hb dX5_ifBuilt_18 rfl (lv_at hl 1 rfl) ?_
  refine lv_iload_n hx hb dX5_ifBuilt_19 rfl (lv_at hl 2 rfl) ?_
  refine rk_eqN (tgt := 35) hx hb (by omega) (by omega) dX5_ifBuilt_20 (by decide) (fun zc20 => ?_) (fun q => absurd rfl q)
  refine lv_bipush (v := (-2)) hx hb dX5_ifBuilt_35 (by decide) ?_
  exact ret_i hQ hx hb hr hlocks (hP.sub [0, 1] rfl) (hD.sub [0, 1] (by decide) rfl) hS dX5_ifBuilt_37 (rfl)
theorem cl68_X5_ifBuilt : Cond.constantLong RX5 68 (2) ∈ wsX5_ifBuilt := by decide +kernel
set_option maxHeartbeats 400000 in
set_option maxRecDepth 100000 in
theorem c_X5_ifBuilt_val (l : Launch) (E : EE) (sz : Nat) (mo mA mK mH mS mV mF mP mR : Nat) (hy pl sp nu rm : Int32) (n k : Nat) (Al : Nat → Int32) (x y : Nat) (w : Int32) (gA0 : Al 0 = nI n) (gn : n ≤ 16) (gA1 : Al 1 = nI k) (gk : k ≤ 30) (gok : okA Al k) (gx : x < n) (gy : y < n) (gne : ¬ x = y) (gw : w < nI 0 ∨ nI 2 < w) : Ci l yX5_ifBuilt wsX5_ifBuilt 2 46 E [.ref mo, .int (nI x), .int (nI y), .int w] [(mo, .inr (5, [.ref mA, .ref mK, .ref mH, .int hy, .ref mS, .ref mV, .ref mF, .ref mP, .int pl, .int sp, .int nu, .ref mR, .int rm])), (mA, aI E 92 Al)] sz (-2) [(mo, .inr (5, [.ref mA, .ref mK, .ref mH, .int hy, .ref mS, .ref mV, .ref mF, .ref mP, .int pl, .int sp, .int nu, .ref mR, .int rm])), (mA, aI E 92 Al)] := by
  refine C_of (QQ := QI E (-2) [(mo, .inr (5, [.ref mA, .ref mK, .ref mH, .int hy, .ref mS, .ref mV, .ref mF, .ref mP, .int pl, .int sp, .int nu, .ref mR, .int rm])), (mA, aI E 92 Al)]) (cc := cX5_ifBuilt) (maxL := 6) (ret := (some .int)) (by decide +kernel) rfl (Nat.le_of_ble_eq_true rfl) ?_
  intro p e s m args below meth c A R Q ls hx hb hr hts hown hml hlocks hA hK hN hP hD hS hl hR hQ
  have hown : s.vm.findClass RX5 = some m.cls := hown
  have hl : lv_has ls 6 [(0, .ref mo), (1, .int (nI x)), (2, .int (nI y)), (3, .int w)] := hl
  refine lv_aload_n hx hb dX5_ifBuilt_0 rfl (lv_at hl 0 rfl) ?_
  refine lv_iload_n hx hb dX5_ifBuilt_1 rfl (lv_at hl 1 rfl) ?_
  refine kV_i (E := E) (As := [.int (nI x)]) (rest := []) (wr := []) ⟨hx, hb, hml, hown, hts⟩ (c_X5_isSquare (l := l) (E := E) (sz := _) (mo := mo) (mA := mA) (mK := mK) (mH := mH) (mS := mS) (mV := mV) (mF := mF) (mP := mP) (mR := mR) (hy := hy) (pl := pl) (sp := sp) (nu := nu) (rm := rm) (n := n) (k := k) (Al := Al) (x := nI x) (gA0 := by first | assumption | omega) (gn := by first | assumption | omega)) (cwV 1 hts gX5_ifBuilt_X5_isSquare rfl rfl rfl (by decide +kernel) ⟨by rw [hR]; decide, by rw [hR]; decide⟩) hK hN hP hD hS hA [0, 1] [] rfl (by decide) rfl (by decide) (by decide) 0 5 rfl rfl rfl hl.1 rfl (Nat.le_of_ble_eq_true rfl) dX5_ifBuilt_2 ⟨Nat.zero_le _, Nat.zero_le _⟩ (fun H locs hP hD hS => ?_)
  have hP : va_P E.1 vwCl [(mo, .inr (5, [.ref mA, .ref mK, .ref mH, .int hy, .ref mS, .ref mV, .ref mF, .ref mP, .int pl, .int sp, .int nu, .ref mR, .int rm])), (mA, aI E 92 Al)] H := hP
  have hD : va_D A [(mo, .inr (5, [.ref mA, .ref mK, .ref mH, .int hy, .ref mS, .ref mV, .ref mF, .ref mP, .int pl, .int sp, .int nu, .ref mR, .int rm])), (mA, aI E 92 Al)] := hD
  refine rk_if_eqB (tgt := 16) hx hb dX5_ifBuilt_5 (by decide) (fun q => absurd q (by rw [inR_ok gx (by omega)]; decide)) (fun zc5 => ?_)
  refine lv_aload_n hx hb dX5_ifBuilt_8 rfl (lv_at hl 0 rfl) ?_
  refine lv_iload_n hx hb dX5_ifBuilt_9 rfl (lv_at hl 2 rfl) ?_
  refine kV_i (E := E) (As := [.int (nI y)]) (rest := []) (wr := []) ⟨hx, hb, hml, hown, hts⟩ (c_X5_isSquare (l := l) (E := E) (sz := _) (mo := mo) (mA := mA) (mK := mK) (mH := mH) (mS := mS) (mV := mV) (mF := mF) (mP := mP) (mR := mR) (hy := hy) (pl := pl) (sp := sp) (nu := nu) (rm := rm) (n := n) (k := k) (Al := Al) (x := nI y) (gA0 := by first | assumption | omega) (gn := by first | assumption | omega)) (cwV 1 hts gX5_ifBuilt_X5_isSquare rfl rfl rfl (by decide +kernel) ⟨by rw [hR]; decide, by rw [hR]; decide⟩) hK hN hP hD hS hA [0, 1] [] rfl (by decide) rfl (by decide) (by decide) 0 5 rfl rfl rfl hl.1 rfl (Nat.le_of_ble_eq_true rfl) dX5_ifBuilt_10 ⟨Nat.zero_le _, Nat.zero_le _⟩ (fun H locs hP hD hS => ?_)
  have hP : va_P E.1 vwCl [(mo, .inr (5, [.ref mA, .ref mK, .ref mH, .int hy, .ref mS, .ref mV, .ref mF, .ref mP, .int pl, .int sp, .int nu, .ref mR, .int rm])), (mA, aI E 92 Al)] H := hP
  have hD : va_D A [(mo, .inr (5, [.ref mA, .ref mK, .ref mH, .int hy, .ref mS, .ref mV, .ref mF, .ref mP, .int pl, .int sp, .int nu, .ref mR, .int rm])), (mA, aI E 92 Al)] := hD
  refine rk_if_neB (tgt := 18) hx hb dX5_ifBuilt_13 (by decide) (fun zc13 => ?_) (fun q => absurd q (by rw [inR_ok gy (by omega)]; decide))
  refine lv_iload_n hx hb dX5_ifBuilt_18 rfl (lv_at hl 1 rfl) ?_
  refine lv_iload_n hx hb dX5_ifBuilt_19 rfl (lv_at hl 2 rfl) ?_
  refine rk_eqN (tgt := 35) hx hb (by omega) (by omega) dX5_ifBuilt_20 (by decide) (fun q => absurd q gne) (fun zc20 => ?_)
  refine lv_iload_n hx hb dX5_ifBuilt_23 rfl (lv_at hl 3 rfl) ?_
  refine lv_i2l hx hb dX5_ifBuilt_24 rfl ?_
  refine lv_lconst (v := 0) hx hb dX5_ifBuilt_25 (by decide) ?_
  refine lv_ldc2 (v := 2) hx hb hown (hts _ cl68_X5_ifBuilt) dX5_ifBuilt_26 ?_
  refine kS_i (E := E) (As := [.long w.toInt64, .long ((0 : Int64)), .long ((2 : Int64))]) (rest := []) (wr := [(mo, .inr (5, [.ref mA, .ref mK, .ref mH, .int hy, .ref mS, .ref mV, .ref mF, .ref mP, .int pl, .int sp, .int nu, .ref mR, .int rm])), (mA, aI E 92 Al)]) ⟨hx, hb, hml, hown, hts⟩ (c_X5_in (l := l) (E := E) (sz := _) (v := w.toInt64) (lo9 := (0 : Int64)) (hi9 := (2 : Int64)) ) (cwS 3 hts gX5_ifBuilt_X5_in rfl rfl rfl (by decide +kernel) ⟨by rw [hR]; decide, by rw [hR]; decide⟩) hK hN hP hD hS hA [] [0, 1] rfl (by decide) rfl (by decide) (by decide) rfl hl.1 rfl (Nat.le_of_ble_eq_true rfl) dX5_ifBuilt_29 ⟨Nat.zero_le _, Nat.zero_le _⟩ (fun H locs hP hD hS => ?_)
  have hP : va_P E.1 vwCl [(mo, .inr (5, [.ref mA, .ref mK, .ref mH, .int hy, .ref mS, .ref mV, .ref mF, .ref mP, .int pl, .int sp, .int nu, .ref mR, .int rm])), (mA, aI E 92 Al)] H := hP
  have hD : va_D A [(mo, .inr (5, [.ref mA, .ref mK, .ref mH, .int hy, .ref mS, .ref mV, .ref mF, .ref mP, .int pl, .int sp, .int nu, .ref mR, .int rm])), (mA, aI E 92 Al)] := hD
  refine rk_if_neB (tgt := 38) hx hb dX5_ifBuilt_32 (by decide) (fun q => absurd (q.symm.trans (inLw_f (a := 0) (b := 2) (by decide) (by decide) gw)) (by decide)) (fun zc32 => ?_)
  refine lv_bipush (v := (-2)) hx hb dX5_ifBuilt_35 (by decide) ?_
  exact ret_i hQ hx hb hr hlocks (hP.sub [0, 1] rfl) (hD.sub [0, 1] (by decide) rfl) hS dX5_ifBuilt_37 (rfl)
set_option maxHeartbeats 400000 in
set_option maxRecDepth 100000 in
theorem c_X5_ifBuilt_ok (l : Launch) (E : EE) (sz : Nat) (mo mA mK mH mS mV mF mP mR : Nat) (hy pl sp nu rm : Int32) (n k : Nat) (Al : Nat → Int32) (x y w : Nat) (gA0 : Al 0 = nI n) (gn : n ≤ 16) (gA1 : Al 1 = nI k) (gk : k ≤ 30) (gok : okA Al k) (gx : x < n) (gy : y < n) (gne : ¬ x = y) (gw : w ≤ 2) : Ci l yX5_ifBuilt wsX5_ifBuilt 6 136 E [.ref mo, .int (nI x), .int (nI y), .int (nI w)] [(mo, .inr (5, [.ref mA, .ref mK, .ref mH, .int hy, .ref mS, .ref mV, .ref mF, .ref mP, .int pl, .int sp, .int nu, .ref mR, .int rm])), (mA, aI E 92 Al)] sz (if w = 0 then nI (leM Al k x y) else if w = 1 then nI (dbM Al k n) - nI (leM Al k x y) else nI (piM Al k n) - (if hgM Al k x (nI y) = true then nI 0 else nI 1)) [(mo, .inr (5, [.ref mA, .ref mK, .ref mH, .int hy, .ref mS, .ref mV, .ref mF, .ref mP, .int pl, .int sp, .int nu, .ref mR, .int rm])), (mA, aI E 92 Al)] := by
  refine C_of (QQ := QI E (if w = 0 then nI (leM Al k x y) else if w = 1 then nI (dbM Al k n) - nI (leM Al k x y) else nI (piM Al k n) - (if hgM Al k x (nI y) = true then nI 0 else nI 1)) [(mo, .inr (5, [.ref mA, .ref mK, .ref mH, .int hy, .ref mS, .ref mV, .ref mF, .ref mP, .int pl, .int sp, .int nu, .ref mR, .int rm])), (mA, aI E 92 Al)]) (cc := cX5_ifBuilt) (maxL := 6) (ret := (some .int)) (by decide +kernel) rfl (Nat.le_of_ble_eq_true rfl) ?_
  intro p e s m args below meth c A R Q ls hx hb hr hts hown hml hlocks hA hK hN hP hD hS hl hR hQ
  have hown : s.vm.findClass RX5 = some m.cls := hown
  have hl : lv_has ls 6 [(0, .ref mo), (1, .int (nI x)), (2, .int (nI y)), (3, .int (nI w))] := hl
  refine lv_aload_n hx hb dX5_ifBuilt_0 rfl (lv_at hl 0 rfl) ?_
  refine lv_iload_n hx hb dX5_ifBuilt_1 rfl (lv_at hl 1 rfl) ?_
  refine kV_i (E := E) (As := [.int (nI x)]) (rest := []) (wr := []) ⟨hx, hb, hml, hown, hts⟩ (c_X5_isSquare (l := l) (E := E) (sz := _) (mo := mo) (mA := mA) (mK := mK) (mH := mH) (mS := mS) (mV := mV) (mF := mF) (mP := mP) (mR := mR) (hy := hy) (pl := pl) (sp := sp) (nu := nu) (rm := rm) (n := n) (k := k) (Al := Al) (x := nI x) (gA0 := by first | assumption | omega) (gn := by first | assumption | omega)) (cwV 1 hts gX5_ifBuilt_X5_isSquare rfl rfl rfl (by decide +kernel) ⟨by rw [hR]; decide, by rw [hR]; decide⟩) hK hN hP hD hS hA [0, 1] [] rfl (by decide) rfl (by decide) (by decide) 0 5 rfl rfl rfl hl.1 rfl (Nat.le_of_ble_eq_true rfl) dX5_ifBuilt_2 ⟨Nat.zero_le _, Nat.zero_le _⟩ (fun H locs hP hD hS => ?_)
  have hP : va_P E.1 vwCl [(mo, .inr (5, [.ref mA, .ref mK, .ref mH, .int hy, .ref mS, .ref mV, .ref mF, .ref mP, .int pl, .int sp, .int nu, .ref mR, .int rm])), (mA, aI E 92 Al)] H := hP
  have hD : va_D A [(mo, .inr (5, [.ref mA, .ref mK, .ref mH, .int hy, .ref mS, .ref mV, .ref mF, .ref mP, .int pl, .int sp, .int nu, .ref mR, .int rm])), (mA, aI E 92 Al)] := hD
  refine rk_if_eqB (tgt := 16) hx hb dX5_ifBuilt_5 (by decide) (fun q => absurd q (by rw [inR_ok gx (by omega)]; decide)) (fun zc5 => ?_)
  refine lv_aload_n hx hb dX5_ifBuilt_8 rfl (lv_at hl 0 rfl) ?_
  refine lv_iload_n hx hb dX5_ifBuilt_9 rfl (lv_at hl 2 rfl) ?_
  refine kV_i (E := E) (As := [.int (nI y)]) (rest := []) (wr := []) ⟨hx, hb, hml, hown, hts⟩ (c_X5_isSquare (l := l) (E := E) (sz := _) (mo := mo) (mA := mA) (mK := mK) (mH := mH) (mS := mS) (mV := mV) (mF := mF) (mP := mP) (mR := mR) (hy := hy) (pl := pl) (sp := sp) (nu := nu) (rm := rm) (n := n) (k := k) (Al := Al) (x := nI y) (gA0 := by first | assumption | omega) (gn := by first | assumption | omega)) (cwV 1 hts gX5_ifBuilt_X5_isSquare rfl rfl rfl (by decide +kernel) ⟨by rw [hR]; decide, by rw [hR]; decide⟩) hK hN hP hD hS hA [0, 1] [] rfl (by decide) rfl (by decide) (by decide) 0 5 rfl rfl rfl hl.1 rfl (Nat.le_of_ble_eq_true rfl) dX5_ifBuilt_10 ⟨Nat.zero_le _, Nat.zero_le _⟩ (fun H locs hP hD hS => ?_)
  have hP : va_P E.1 vwCl [(mo, .inr (5, [.ref mA, .ref mK, .ref mH, .int hy, .ref mS, .ref mV, .ref mF, .ref mP, .int pl, .int sp, .int nu, .ref mR, .int rm])), (mA, aI E 92 Al)] H := hP
  have hD : va_D A [(mo, .inr (5, [.ref mA, .ref mK, .ref mH, .int hy, .ref mS, .ref mV, .ref mF, .ref mP, .int pl, .int sp, .int nu, .ref mR, .int rm])), (mA, aI E 92 Al)] := hD
  refine rk_if_neB (tgt := 18) hx hb dX5_ifBuilt_13 (by decide) (fun zc13 => ?_) (fun q => absurd q (by rw [inR_ok gy (by omega)]; decide))
  refine lv_iload_n hx hb dX5_ifBuilt_18 rfl (lv_at hl 1 rfl) ?_
  refine lv_iload_n hx hb dX5_ifBuilt_19 rfl (lv_at hl 2 rfl) ?_
  refine rk_eqN (tgt := 35) hx hb (by omega) (by omega) dX5_ifBuilt_20 (by decide) (fun q => absurd q gne) (fun zc20 => ?_)
  refine lv_iload_n hx hb dX5_ifBuilt_23 rfl (lv_at hl 3 rfl) ?_
  refine lv_i2l hx hb dX5_ifBuilt_24 rfl ?_
  refine lv_lconst (v := 0) hx hb dX5_ifBuilt_25 (by decide) ?_
  refine lv_ldc2 (v := 2) hx hb hown (hts _ cl68_X5_ifBuilt) dX5_ifBuilt_26 ?_
  refine kS_i (E := E) (As := [.long ((nI w).toInt64), .long ((0 : Int64)), .long ((2 : Int64))]) (rest := []) (wr := [(mo, .inr (5, [.ref mA, .ref mK, .ref mH, .int hy, .ref mS, .ref mV, .ref mF, .ref mP, .int pl, .int sp, .int nu, .ref mR, .int rm])), (mA, aI E 92 Al)]) ⟨hx, hb, hml, hown, hts⟩ (c_X5_in (l := l) (E := E) (sz := _) (v := (nI w).toInt64) (lo9 := (0 : Int64)) (hi9 := (2 : Int64)) ) (cwS 3 hts gX5_ifBuilt_X5_in rfl rfl rfl (by decide +kernel) ⟨by rw [hR]; decide, by rw [hR]; decide⟩) hK hN hP hD hS hA [] [0, 1] rfl (by decide) rfl (by decide) (by decide) rfl hl.1 rfl (Nat.le_of_ble_eq_true rfl) dX5_ifBuilt_29 ⟨Nat.zero_le _, Nat.zero_le _⟩ (fun H locs hP hD hS => ?_)
  have hP : va_P E.1 vwCl [(mo, .inr (5, [.ref mA, .ref mK, .ref mH, .int hy, .ref mS, .ref mV, .ref mF, .ref mP, .int pl, .int sp, .int nu, .ref mR, .int rm])), (mA, aI E 92 Al)] H := hP
  have hD : va_D A [(mo, .inr (5, [.ref mA, .ref mK, .ref mH, .int hy, .ref mS, .ref mV, .ref mF, .ref mP, .int pl, .int sp, .int nu, .ref mR, .int rm])), (mA, aI E 92 Al)] := hD
  refine rk_if_neB (tgt := 38) hx hb dX5_ifBuilt_32 (by decide) (fun zc32 => ?_) (fun q => absurd (q.symm.trans (inLn_t (a := 0) (b := 2) (by decide) (by omega) gw)) (by decide))
  refine lv_aload_n hx hb dX5_ifBuilt_38 rfl (lv_at hl 0 rfl) ?_
  refine lv_iload_n hx hb dX5_ifBuilt_39 rfl (lv_at hl 1 rfl) ?_
  refine lv_iload_n hx hb dX5_ifBuilt_40 rfl (lv_at hl 2 rfl) ?_
  refine kV_i (E := E) (As := [.int (nI x), .int (nI y)]) (rest := []) (wr := []) ⟨hx, hb, hml, hown, hts⟩ (c_X5_hang (l := l) (E := E) (sz := _) (mo := mo) (mA := mA) (mK := mK) (mH := mH) (mS := mS) (mV := mV) (mF := mF) (mP := mP) (mR := mR) (hy := hy) (pl := pl) (sp := sp) (nu := nu) (rm := rm) (n := n) (k := k) (Al := Al) (x := x) (y := nI y) (gA1 := by first | assumption | omega) (gk := by first | assumption | omega) (gok := by first | assumption | omega) (gq := by first | assumption | omega)) (cwV 2 hts gX5_ifBuilt_X5_hang rfl rfl rfl (by decide +kernel) ⟨by rw [hR]; decide, by rw [hR]; decide⟩) hK hN hP hD hS hA [0, 1] [] rfl (by decide) rfl (by decide) (by decide) 0 5 rfl rfl rfl hl.1 rfl (Nat.le_of_ble_eq_true rfl) dX5_ifBuilt_41 ⟨Nat.zero_le _, Nat.zero_le _⟩ (fun H locs hP hD hS => ?_)
  have hP : va_P E.1 vwCl [(mo, .inr (5, [.ref mA, .ref mK, .ref mH, .int hy, .ref mS, .ref mV, .ref mF, .ref mP, .int pl, .int sp, .int nu, .ref mR, .int rm])), (mA, aI E 92 Al)] H := hP
  have hD : va_D A [(mo, .inr (5, [.ref mA, .ref mK, .ref mH, .int hy, .ref mS, .ref mV, .ref mF, .ref mP, .int pl, .int sp, .int nu, .ref mR, .int rm])), (mA, aI E 92 Al)] := hD
  refine lv_istore (lv' := [(4, .int (b2i (hgM Al k x (nI y)))), (0, .ref mo), (1, .int (nI x)), (2, .int (nI y)), (3, .int (nI w))]) hx hb dX5_ifBuilt_44 hl (by decide) rfl (fun ls hl => ?_)
  refine lv_iload hx hb dX5_ifBuilt_46 (lv_at hl 0 rfl) ?_
  refine rk_if_eqB (tgt := 63) hx hb dX5_ifBuilt_48 (by decide) (fun zc48 => ?_) (fun zc48 => ?_)
  · refine lv_iconst (v := nI 0) hx hb dX5_ifBuilt_63 (by decide) ?_
    refine lv_istore (lv' := [(5, .int (nI 0)), (4, .int (b2i (hgM Al k x (nI y)))), (0, .ref mo), (1, .int (nI x)), (2, .int (nI y)), (3, .int (nI w))]) hx hb dX5_ifBuilt_64 hl (by decide) rfl (fun ls hl => ?_)
    refine lv_iload_n hx hb dX5_ifBuilt_66 rfl (lv_at hl 5 rfl) ?_
    refine rk_if_neN (tgt := 75) hx hb (by omega) dX5_ifBuilt_67 (by decide) (fun zc67 => ?_) (fun zc67 => ?_)
    · refine lv_iload_n hx hb dX5_ifBuilt_75 rfl (lv_at hl 5 rfl) ?_
      refine lv_iconst (v := nI 1) hx hb dX5_ifBuilt_76 (by decide) ?_
      refine rk_neN (tgt := 90) hx hb (by omega) (by omega) dX5_ifBuilt_77 (by decide) (fun zc77 => ?_) (fun zc77 => ?_)
      · refine lv_aload_n hx hb dX5_ifBuilt_90 rfl (lv_at hl 2 rfl) ?_
        refine kV_i (E := E) (As := []) (rest := []) (wr := []) ⟨hx, hb, hml, hown, hts⟩ (c_X5_pieces (l := l) (E := E) (sz := _) (mo := mo) (mA := mA) (mK := mK) (mH := mH) (mS := mS) (mV := mV) (mF := mF) (mP := mP) (mR := mR) (hy := hy) (pl := pl) (sp := sp) (nu := nu) (rm := rm) (n := n) (k := k) (Al := Al) (gA0 := by first | assumption | omega) (gn := by first | assumption | omega) (gA1 := by first | assumption | omega) (gk := by first | assumption | omega) (gok := by first | assumption | omega)) (cwV 0 hts gX5_ifBuilt_X5_pieces rfl rfl rfl (by decide +kernel) ⟨by rw [hR]; decide, by rw [hR]; decide⟩) hK hN hP hD hS hA [0, 1] [] rfl (by decide) rfl (by decide) (by decide) 0 5 rfl rfl rfl hl.1 rfl (Nat.le_of_ble_eq_true rfl) dX5_ifBuilt_91 ⟨Nat.zero_le _, Nat.zero_le _⟩ (fun H locs hP hD hS => ?_)
        have hP : va_P E.1 vwCl [(mo, .inr (5, [.ref mA, .ref mK, .ref mH, .int hy, .ref mS, .ref mV, .ref mF, .ref mP, .int pl, .int sp, .int nu, .ref mR, .int rm])), (mA, aI E 92 Al)] H := hP
        have hD : va_D A [(mo, .inr (5, [.ref mA, .ref mK, .ref mH, .int hy, .ref mS, .ref mV, .ref mF, .ref mP, .int pl, .int sp, .int nu, .ref mR, .int rm])), (mA, aI E 92 Al)] := hD
        refine lv_iload hx hb dX5_ifBuilt_94 (lv_at hl 1 rfl) ?_
        refine rk_if_eqB (tgt := 103) hx hb dX5_ifBuilt_96 (by decide) (fun zc96 => ?_) (fun q => absurd (zc48.symm.trans q) (by decide))
        refine lv_iconst (v := nI 1) hx hb dX5_ifBuilt_103 (by decide) ?_
        refine lv_isub hx hb dX5_ifBuilt_104 ?_
        exact ret_i hQ hx hb hr hlocks (hP.sub [0, 1] rfl) (hD.sub [0, 1] (by decide) rfl) hS dX5_ifBuilt_105 (by have hl9 : leM Al k x y = 0 := if_neg (by rw [zc48]; decide); rw [hl9]; rw [if_neg zc67, if_neg zc77, if_neg (by rw [zc48]; decide)])
      · refine lv_aload_n hx hb dX5_ifBuilt_80 rfl (lv_at hl 2 rfl) ?_
        refine kV_i (E := E) (As := []) (rest := []) (wr := []) ⟨hx, hb, hml, hown, hts⟩ (c_X5_districts (l := l) (E := E) (sz := _) (mo := mo) (mA := mA) (mK := mK) (mH := mH) (mS := mS) (mV := mV) (mF := mF) (mP := mP) (mR := mR) (hy := hy) (pl := pl) (sp := sp) (nu := nu) (rm := rm) (n := n) (k := k) (Al := Al) (gA0 := by first | assumption | omega) (gn := by first | assumption | omega) (gA1 := by first | assumption | omega) (gk := by first | assumption | omega) (gok := by first | assumption | omega)) (cwV 0 hts gX5_ifBuilt_X5_districts rfl rfl rfl (by decide +kernel) ⟨by rw [hR]; decide, by rw [hR]; decide⟩) hK hN hP hD hS hA [0, 1] [] rfl (by decide) rfl (by decide) (by decide) 0 5 rfl rfl rfl hl.1 rfl (Nat.le_of_ble_eq_true rfl) dX5_ifBuilt_81 ⟨Nat.zero_le _, Nat.zero_le _⟩ (fun H locs hP hD hS => ?_)
        have hP : va_P E.1 vwCl [(mo, .inr (5, [.ref mA, .ref mK, .ref mH, .int hy, .ref mS, .ref mV, .ref mF, .ref mP, .int pl, .int sp, .int nu, .ref mR, .int rm])), (mA, aI E 92 Al)] H := hP
        have hD : va_D A [(mo, .inr (5, [.ref mA, .ref mK, .ref mH, .int hy, .ref mS, .ref mV, .ref mF, .ref mP, .int pl, .int sp, .int nu, .ref mR, .int rm])), (mA, aI E 92 Al)] := hD
        refine lv_iload hx hb dX5_ifBuilt_84 (lv_at hl 0 rfl) ?_
        refine lv_isub hx hb dX5_ifBuilt_86 ?_
        refine lv_goto (tgt := 105) hx hb dX5_ifBuilt_87 (by decide) ?_
        exact ret_i hQ hx hb hr hlocks (hP.sub [0, 1] rfl) (hD.sub [0, 1] (by decide) rfl) hS dX5_ifBuilt_105 (by have hl9 : leM Al k x y = 0 := if_neg (by rw [zc48]; decide); rw [hl9]; rw [if_neg zc67, if_pos zc77])
    · refine lv_iload hx hb dX5_ifBuilt_70 (lv_at hl 0 rfl) ?_
      refine lv_goto (tgt := 105) hx hb dX5_ifBuilt_72 (by decide) ?_
      exact ret_i hQ hx hb hr hlocks (hP.sub [0, 1] rfl) (hD.sub [0, 1] (by decide) rfl) hS dX5_ifBuilt_105 (by have hl9 : leM Al k x y = 0 := if_neg (by rw [zc48]; decide); rw [hl9]; rw [if_pos zc67])
  · refine lv_aload_n hx hb dX5_ifBuilt_51 rfl (lv_at hl 1 rfl) ?_
    refine lv_iload_n hx hb dX5_ifBuilt_52 rfl (lv_at hl 2 rfl) ?_
    refine lv_iload_n hx hb dX5_ifBuilt_53 rfl (lv_at hl 3 rfl) ?_
    refine kV_i (E := E) (As := [.int (nI x), .int (nI y)]) (rest := []) (wr := []) ⟨hx, hb, hml, hown, hts⟩ (c_X5_musts (l := l) (E := E) (sz := _) (mo := mo) (mA := mA) (mK := mK) (mH := mH) (mS := mS) (mV := mV) (mF := mF) (mP := mP) (mR := mR) (hy := hy) (pl := pl) (sp := sp) (nu := nu) (rm := rm) (n := n) (k := k) (Al := Al) (x := x) (y := nI y) (gA1 := by first | assumption | omega) (gk := by first | assumption | omega) (gok := by first | assumption | omega) (gq := by first | assumption | omega)) (cwV 2 hts gX5_ifBuilt_X5_musts rfl rfl rfl (by decide +kernel) ⟨by rw [hR]; decide, by rw [hR]; decide⟩) hK hN hP hD hS hA [0, 1] [] rfl (by decide) rfl (by decide) (by decide) 0 5 rfl rfl rfl hl.1 rfl (Nat.le_of_ble_eq_true rfl) dX5_ifBuilt_54 ⟨Nat.zero_le _, Nat.zero_le _⟩ (fun H locs hP hD hS => ?_)
    have hP : va_P E.1 vwCl [(mo, .inr (5, [.ref mA, .ref mK, .ref mH, .int hy, .ref mS, .ref mV, .ref mF, .ref mP, .int pl, .int sp, .int nu, .ref mR, .int rm])), (mA, aI E 92 Al)] H := hP
    have hD : va_D A [(mo, .inr (5, [.ref mA, .ref mK, .ref mH, .int hy, .ref mS, .ref mV, .ref mF, .ref mP, .int pl, .int sp, .int nu, .ref mR, .int rm])), (mA, aI E 92 Al)] := hD
    refine kS_i (E := E) (As := [.int (muM Al k x (nI y) k)]) (rest := []) (wr := [(mo, .inr (5, [.ref mA, .ref mK, .ref mH, .int hy, .ref mS, .ref mV, .ref mF, .ref mP, .int pl, .int sp, .int nu, .ref mR, .int rm])), (mA, aI E 92 Al)]) ⟨hx, hb, hml, hown, hts⟩ (c_X5_bits (l := l) (E := E) (sz := _) (x := muM Al k x (nI y) k) ) (cwS 1 hts gX5_ifBuilt_X5_bits rfl rfl rfl (by decide +kernel) ⟨by rw [hR]; decide, by rw [hR]; decide⟩) hK hN hP hD hS hA [] [0, 1] rfl (by decide) rfl (by decide) (by decide) rfl hl.1 rfl (Nat.le_of_ble_eq_true rfl) dX5_ifBuilt_57 ⟨Nat.zero_le _, Nat.zero_le _⟩ (fun H locs hP hD hS => ?_)
    have hP : va_P E.1 vwCl [(mo, .inr (5, [.ref mA, .ref mK, .ref mH, .int hy, .ref mS, .ref mV, .ref mF, .ref mP, .int pl, .int sp, .int nu, .ref mR, .int rm])), (mA, aI E 92 Al)] H := hP
    have hD : va_D A [(mo, .inr (5, [.ref mA, .ref mK, .ref mH, .int hy, .ref mS, .ref mV, .ref mF, .ref mP, .int pl, .int sp, .int nu, .ref mR, .int rm])), (mA, aI E 92 Al)] := hD
    refine lv_goto (tgt := 64) hx hb dX5_ifBuilt_60 (by decide) ?_
    refine lv_istore (lv' := [(5, .int (nI (popc (muM Al k x (nI y) k)))), (4, .int (b2i (hgM Al k x (nI y)))), (0, .ref mo), (1, .int (nI x)), (2, .int (nI y)), (3, .int (nI w))]) hx hb dX5_ifBuilt_64 hl (by decide) rfl (fun ls hl => ?_)
    refine lv_iload_n hx hb dX5_ifBuilt_66 rfl (lv_at hl 5 rfl) ?_
    refine rk_if_neN (tgt := 75) hx hb (by omega) dX5_ifBuilt_67 (by decide) (fun zc67 => ?_) (fun zc67 => ?_)
    · refine lv_iload_n hx hb dX5_ifBuilt_75 rfl (lv_at hl 5 rfl) ?_
      refine lv_iconst (v := nI 1) hx hb dX5_ifBuilt_76 (by decide) ?_
      refine rk_neN (tgt := 90) hx hb (by omega) (by omega) dX5_ifBuilt_77 (by decide) (fun zc77 => ?_) (fun zc77 => ?_)
      · refine lv_aload_n hx hb dX5_ifBuilt_90 rfl (lv_at hl 2 rfl) ?_
        refine kV_i (E := E) (As := []) (rest := []) (wr := []) ⟨hx, hb, hml, hown, hts⟩ (c_X5_pieces (l := l) (E := E) (sz := _) (mo := mo) (mA := mA) (mK := mK) (mH := mH) (mS := mS) (mV := mV) (mF := mF) (mP := mP) (mR := mR) (hy := hy) (pl := pl) (sp := sp) (nu := nu) (rm := rm) (n := n) (k := k) (Al := Al) (gA0 := by first | assumption | omega) (gn := by first | assumption | omega) (gA1 := by first | assumption | omega) (gk := by first | assumption | omega) (gok := by first | assumption | omega)) (cwV 0 hts gX5_ifBuilt_X5_pieces rfl rfl rfl (by decide +kernel) ⟨by rw [hR]; decide, by rw [hR]; decide⟩) hK hN hP hD hS hA [0, 1] [] rfl (by decide) rfl (by decide) (by decide) 0 5 rfl rfl rfl hl.1 rfl (Nat.le_of_ble_eq_true rfl) dX5_ifBuilt_91 ⟨Nat.zero_le _, Nat.zero_le _⟩ (fun H locs hP hD hS => ?_)
        have hP : va_P E.1 vwCl [(mo, .inr (5, [.ref mA, .ref mK, .ref mH, .int hy, .ref mS, .ref mV, .ref mF, .ref mP, .int pl, .int sp, .int nu, .ref mR, .int rm])), (mA, aI E 92 Al)] H := hP
        have hD : va_D A [(mo, .inr (5, [.ref mA, .ref mK, .ref mH, .int hy, .ref mS, .ref mV, .ref mF, .ref mP, .int pl, .int sp, .int nu, .ref mR, .int rm])), (mA, aI E 92 Al)] := hD
        refine lv_iload hx hb dX5_ifBuilt_94 (lv_at hl 1 rfl) ?_
        refine rk_if_eqB (tgt := 103) hx hb dX5_ifBuilt_96 (by decide) (fun q => absurd (zc48.symm.trans q) (by decide)) (fun zc96 => ?_)
        refine lv_iconst (v := nI 0) hx hb dX5_ifBuilt_99 (by decide) ?_
        refine lv_goto (tgt := 104) hx hb dX5_ifBuilt_100 (by decide) ?_
        refine lv_isub hx hb dX5_ifBuilt_104 ?_
        exact ret_i hQ hx hb hr hlocks (hP.sub [0, 1] rfl) (hD.sub [0, 1] (by decide) rfl) hS dX5_ifBuilt_105 (by have hl9 : leM Al k x y = popc (muM Al k x (nI y) k) := if_pos zc48; rw [hl9]; rw [if_neg zc67, if_neg zc77, if_pos zc48])
      · refine lv_aload_n hx hb dX5_ifBuilt_80 rfl (lv_at hl 2 rfl) ?_
        refine kV_i (E := E) (As := []) (rest := []) (wr := []) ⟨hx, hb, hml, hown, hts⟩ (c_X5_districts (l := l) (E := E) (sz := _) (mo := mo) (mA := mA) (mK := mK) (mH := mH) (mS := mS) (mV := mV) (mF := mF) (mP := mP) (mR := mR) (hy := hy) (pl := pl) (sp := sp) (nu := nu) (rm := rm) (n := n) (k := k) (Al := Al) (gA0 := by first | assumption | omega) (gn := by first | assumption | omega) (gA1 := by first | assumption | omega) (gk := by first | assumption | omega) (gok := by first | assumption | omega)) (cwV 0 hts gX5_ifBuilt_X5_districts rfl rfl rfl (by decide +kernel) ⟨by rw [hR]; decide, by rw [hR]; decide⟩) hK hN hP hD hS hA [0, 1] [] rfl (by decide) rfl (by decide) (by decide) 0 5 rfl rfl rfl hl.1 rfl (Nat.le_of_ble_eq_true rfl) dX5_ifBuilt_81 ⟨Nat.zero_le _, Nat.zero_le _⟩ (fun H locs hP hD hS => ?_)
        have hP : va_P E.1 vwCl [(mo, .inr (5, [.ref mA, .ref mK, .ref mH, .int hy, .ref mS, .ref mV, .ref mF, .ref mP, .int pl, .int sp, .int nu, .ref mR, .int rm])), (mA, aI E 92 Al)] H := hP
        have hD : va_D A [(mo, .inr (5, [.ref mA, .ref mK, .ref mH, .int hy, .ref mS, .ref mV, .ref mF, .ref mP, .int pl, .int sp, .int nu, .ref mR, .int rm])), (mA, aI E 92 Al)] := hD
        refine lv_iload hx hb dX5_ifBuilt_84 (lv_at hl 0 rfl) ?_
        refine lv_isub hx hb dX5_ifBuilt_86 ?_
        refine lv_goto (tgt := 105) hx hb dX5_ifBuilt_87 (by decide) ?_
        exact ret_i hQ hx hb hr hlocks (hP.sub [0, 1] rfl) (hD.sub [0, 1] (by decide) rfl) hS dX5_ifBuilt_105 (by have hl9 : leM Al k x y = popc (muM Al k x (nI y) k) := if_pos zc48; rw [hl9]; rw [if_neg zc67, if_pos zc77])
    · refine lv_iload hx hb dX5_ifBuilt_70 (lv_at hl 0 rfl) ?_
      refine lv_goto (tgt := 105) hx hb dX5_ifBuilt_72 (by decide) ?_
      exact ret_i hQ hx hb hr hlocks (hP.sub [0, 1] rfl) (hD.sub [0, 1] (by decide) rfl) hS dX5_ifBuilt_105 (by have hl9 : leM Al k x y = popc (muM Al k x (nI y) k) := if_pos zc48; rw [hl9]; rw [if_pos zc67])
theorem cl68_X5_bestBuilt : Cond.constantLong RX5 68 (2) ∈ wsX5_bestBuilt := by decide +kernel
set_option maxHeartbeats 400000 in
set_option maxRecDepth 100000 in
theorem c_X5_bestBuilt_val (l : Launch) (E : EE) (sz : Nat) (mo mA mK mH mS mV mF mP mR : Nat) (hy pl sp nu rm : Int32) (w : Int32) (gw : w < nI 0 ∨ nI 2 < w) : Ci l yX5_bestBuilt wsX5_bestBuilt 1 25 E [.ref mo, .int w] [(mo, .inr (5, [.ref mA, .ref mK, .ref mH, .int hy, .ref mS, .ref mV, .ref mF, .ref mP, .int pl, .int sp, .int nu, .ref mR, .int rm]))] sz (-2) [(mo, .inr (5, [.ref mA, .ref mK, .ref mH, .int hy, .ref mS, .ref mV, .ref mF, .ref mP, .int pl, .int sp, .int nu, .ref mR, .int rm]))] := by
  refine C_of (QQ := QI E (-2) [(mo, .inr (5, [.ref mA, .ref mK, .ref mH, .int hy, .ref mS, .ref mV, .ref mF, .ref mP, .int pl, .int sp, .int nu, .ref mR, .int rm]))]) (cc := cX5_bestBuilt) (maxL := 9) (ret := (some .int)) (by decide +kernel) rfl (Nat.le_of_ble_eq_true rfl) ?_
  intro p e s m args below meth c A R Q ls hx hb hr hts hown hml hlocks hA hK hN hP hD hS hl hR hQ
  have hown : s.vm.findClass RX5 = some m.cls := hown
  have hl : lv_has ls 9 [(0, .ref mo), (1, .int w)] := hl
  refine lv_iload_n hx hb dX5_bestBuilt_0 rfl (lv_at hl 1 rfl) ?_
  refine lv_i2l hx hb dX5_bestBuilt_1 rfl ?_
  refine lv_lconst (v := 0) hx hb dX5_bestBuilt_2 (by decide) ?_
  refine lv_ldc2 (v := 2) hx hb hown (hts _ cl68_X5_bestBuilt) dX5_bestBuilt_3 ?_
  refine kS_i (E := E) (As := [.long w.toInt64, .long ((0 : Int64)), .long ((2 : Int64))]) (rest := []) (wr := [(mo, .inr (5, [.ref mA, .ref mK, .ref mH, .int hy, .ref mS, .ref mV, .ref mF, .ref mP, .int pl, .int sp, .int nu, .ref mR, .int rm]))]) ⟨hx, hb, hml, hown, hts⟩ (c_X5_in (l := l) (E := E) (sz := _) (v := w.toInt64) (lo9 := (0 : Int64)) (hi9 := (2 : Int64)) ) (cwS 3 hts gX5_bestBuilt_X5_in rfl rfl rfl (by decide +kernel) ⟨by rw [hR]; decide, by rw [hR]; decide⟩) hK hN hP hD hS hA [] [0] rfl (by decide) rfl (by decide) (by decide) rfl hl.1 rfl (Nat.le_of_ble_eq_true rfl) dX5_bestBuilt_6 ⟨Nat.zero_le _, Nat.zero_le _⟩ (fun H locs hP hD hS => ?_)
  have hP : va_P E.1 vwCl [(mo, .inr (5, [.ref mA, .ref mK, .ref mH, .int hy, .ref mS, .ref mV, .ref mF, .ref mP, .int pl, .int sp, .int nu, .ref mR, .int rm]))] H := hP
  have hD : va_D A [(mo, .inr (5, [.ref mA, .ref mK, .ref mH, .int hy, .ref mS, .ref mV, .ref mF, .ref mP, .int pl, .int sp, .int nu, .ref mR, .int rm]))] := hD
  refine rk_if_neB (tgt := 15) hx hb dX5_bestBuilt_9 (by decide) (fun q => absurd (q.symm.trans (inLw_f (a := 0) (b := 2) (by decide) (by decide) gw)) (by decide)) (fun zc9 => ?_)
  refine lv_bipush (v := (-2)) hx hb dX5_bestBuilt_12 (by decide) ?_
  exact ret_i hQ hx hb hr hlocks (hP.sub [0] rfl) (hD.sub [0] (by decide) rfl) hS dX5_bestBuilt_14 (rfl)
theorem ct90_X5_bestBuilt : Cond.constant RX5 90 (nI 100000) ∈ wsX5_bestBuilt := by decide +kernel
theorem iw_X5_bestBuilt_5 : ∀ w ∈ u_ws RX5 TX5 13, w ∈ wsX5_bestBuilt := by decide +kernel
theorem fl_X5_bestBuilt_7 : Cond.fieldLink RX5 7 (TX5 0).1 (TX5 0).2.1 (TX5 0).2.2.1 ∈ wsX5_bestBuilt := by decide +kernel
set_option maxHeartbeats 400000 in
set_option maxRecDepth 100000 in
theorem c_X5_bestBuilt_ok (l : Launch) (E : EE) (sz : Nat) (mo mA mK mH mS mV mF mP mR : Nat) (hy pl sp nu rm : Int32) (n k : Nat) (Al : Nat → Int32) (w : Nat) (gA0 : Al 0 = nI n) (gn : n ≤ 16) (gA1 : Al 1 = nI k) (gk : k ≤ 30) (gok : okA Al k) (gw : w ≤ 2) : Ci l yX5_bestBuilt wsX5_bestBuilt 4 92 E [.ref mo, .int (nI w)] [(mo, .inr (5, [.ref mA, .ref mK, .ref mH, .int hy, .ref mS, .ref mV, .ref mF, .ref mP, .int pl, .int sp, .int nu, .ref mR, .int rm])), (mA, aI E 92 Al)] sz (if w = 0 then nI (bbO (pfM Al k) n (nI 100000, 0, 0) n).2.1 else if w = 1 then nI (bbO (pfM Al k) n (nI 100000, 0, 0) n).2.2 else (bbO (pfM Al k) n (nI 100000, 0, 0) n).1) [(mo, .inr (5, [.ref mA, .ref mK, .ref mH, .int hy, .ref mS, .ref mV, .ref mF, .ref mP, .int pl, .int sp, .int nu, .ref mR, .int rm])), (mA, aI E 92 Al)] := by
  refine C_of (QQ := QI E (if w = 0 then nI (bbO (pfM Al k) n (nI 100000, 0, 0) n).2.1 else if w = 1 then nI (bbO (pfM Al k) n (nI 100000, 0, 0) n).2.2 else (bbO (pfM Al k) n (nI 100000, 0, 0) n).1) [(mo, .inr (5, [.ref mA, .ref mK, .ref mH, .int hy, .ref mS, .ref mV, .ref mF, .ref mP, .int pl, .int sp, .int nu, .ref mR, .int rm])), (mA, aI E 92 Al)]) (cc := cX5_bestBuilt) (maxL := 9) (ret := (some .int)) (by decide +kernel) rfl (Nat.le_of_ble_eq_true rfl) ?_
  intro p e s m args below meth c A R Q ls hx hb hr hts hown hml hlocks hA hK hN hP hD hS hl hR hQ
  have hown : s.vm.findClass RX5 = some m.cls := hown
  have hl : lv_has ls 9 [(0, .ref mo), (1, .int (nI w))] := hl
  refine lv_iload_n hx hb dX5_bestBuilt_0 rfl (lv_at hl 1 rfl) ?_
  refine lv_i2l hx hb dX5_bestBuilt_1 rfl ?_
  refine lv_lconst (v := 0) hx hb dX5_bestBuilt_2 (by decide) ?_
  refine lv_ldc2 (v := 2) hx hb hown (hts _ cl68_X5_bestBuilt) dX5_bestBuilt_3 ?_
  refine kS_i (E := E) (As := [.long ((nI w).toInt64), .long ((0 : Int64)), .long ((2 : Int64))]) (rest := []) (wr := [(mo, .inr (5, [.ref mA, .ref mK, .ref mH, .int hy, .ref mS, .ref mV, .ref mF, .ref mP, .int pl, .int sp, .int nu, .ref mR, .int rm])), (mA, aI E 92 Al)]) ⟨hx, hb, hml, hown, hts⟩ (c_X5_in (l := l) (E := E) (sz := _) (v := (nI w).toInt64) (lo9 := (0 : Int64)) (hi9 := (2 : Int64)) ) (cwS 3 hts gX5_bestBuilt_X5_in rfl rfl rfl (by decide +kernel) ⟨by rw [hR]; decide, by rw [hR]; decide⟩) hK hN hP hD hS hA [] [0, 1] rfl (by decide) rfl (by decide) (by decide) rfl hl.1 rfl (Nat.le_of_ble_eq_true rfl) dX5_bestBuilt_6 ⟨Nat.zero_le _, Nat.zero_le _⟩ (fun H locs hP hD hS => ?_)
  have hP : va_P E.1 vwCl [(mo, .inr (5, [.ref mA, .ref mK, .ref mH, .int hy, .ref mS, .ref mV, .ref mF, .ref mP, .int pl, .int sp, .int nu, .ref mR, .int rm])), (mA, aI E 92 Al)] H := hP
  have hD : va_D A [(mo, .inr (5, [.ref mA, .ref mK, .ref mH, .int hy, .ref mS, .ref mV, .ref mF, .ref mP, .int pl, .int sp, .int nu, .ref mR, .int rm])), (mA, aI E 92 Al)] := hD
  refine rk_if_neB (tgt := 15) hx hb dX5_bestBuilt_9 (by decide) (fun zc9 => ?_) (fun q => absurd (q.symm.trans (inLn_t (a := 0) (b := 2) (by decide) (by omega) gw)) (by decide))
  refine lv_aload_n hx hb dX5_bestBuilt_15 rfl (lv_at hl 0 rfl) ?_
  refine kV_i (E := E) (As := []) (rest := []) (wr := []) ⟨hx, hb, hml, hown, hts⟩ (c_X5_parting (l := l) (E := E) (sz := _) (mo := mo) (mA := mA) (mK := mK) (mH := mH) (mS := mS) (mV := mV) (mF := mF) (mP := mP) (mR := mR) (hy := hy) (pl := pl) (sp := sp) (nu := nu) (rm := rm) (n := n) (k := k) (Al := Al) (gA1 := by first | assumption | omega) (gk := by first | assumption | omega) (gok := by first | assumption | omega)) (cwV 0 hts gX5_bestBuilt_X5_parting rfl rfl rfl (by decide +kernel) ⟨by rw [hR]; decide, by rw [hR]; decide⟩) hK hN hP hD hS hA [0, 1] [] rfl (by decide) rfl (by decide) (by decide) 0 5 rfl rfl rfl hl.1 rfl (Nat.le_of_ble_eq_true rfl) dX5_bestBuilt_16 ⟨Nat.zero_le _, Nat.zero_le _⟩ (fun H locs hP hD hS => ?_)
  have hP : va_P E.1 vwCl [(mo, .inr (5, [.ref mA, .ref mK, .ref mH, .int hy, .ref mS, .ref mV, .ref mF, .ref mP, .int pl, .int sp, .int nu, .ref mR, .int rm])), (mA, aI E 92 Al)] H := hP
  have hD : va_D A [(mo, .inr (5, [.ref mA, .ref mK, .ref mH, .int hy, .ref mS, .ref mV, .ref mF, .ref mP, .int pl, .int sp, .int nu, .ref mR, .int rm])), (mA, aI E 92 Al)] := hD
  refine kS_i (E := E) (As := [.int (pgM Al k k)]) (rest := []) (wr := [(mo, .inr (5, [.ref mA, .ref mK, .ref mH, .int hy, .ref mS, .ref mV, .ref mF, .ref mP, .int pl, .int sp, .int nu, .ref mR, .int rm])), (mA, aI E 92 Al)]) ⟨hx, hb, hml, hown, hts⟩ (c_X5_bits (l := l) (E := E) (sz := _) (x := pgM Al k k) ) (cwS 1 hts gX5_bestBuilt_X5_bits rfl rfl rfl (by decide +kernel) ⟨by rw [hR]; decide, by rw [hR]; decide⟩) hK hN hP hD hS hA [] [0, 1] rfl (by decide) rfl (by decide) (by decide) rfl hl.1 rfl (Nat.le_of_ble_eq_true rfl) dX5_bestBuilt_19 ⟨Nat.zero_le _, Nat.zero_le _⟩ (fun H locs hP hD hS => ?_)
  have hP : va_P E.1 vwCl [(mo, .inr (5, [.ref mA, .ref mK, .ref mH, .int hy, .ref mS, .ref mV, .ref mF, .ref mP, .int pl, .int sp, .int nu, .ref mR, .int rm])), (mA, aI E 92 Al)] H := hP
  have hD : va_D A [(mo, .inr (5, [.ref mA, .ref mK, .ref mH, .int hy, .ref mS, .ref mV, .ref mF, .ref mP, .int pl, .int sp, .int nu, .ref mR, .int rm])), (mA, aI E 92 Al)] := hD
  refine lv_istore_n (lv' := [(2, .int (nI (popc (pgM Al k k)))), (0, .ref mo), (1, .int (nI w))]) hx hb dX5_bestBuilt_22 rfl hl (by decide) rfl (fun ls hl => ?_)
  refine lv_ldc (v := nI 100000) hx hb hown (hts _ ct90_X5_bestBuilt) dX5_bestBuilt_23 ?_
  refine lv_istore_n (lv' := [(3, .int (nI 100000)), (2, .int (nI (popc (pgM Al k k)))), (0, .ref mo), (1, .int (nI w))]) hx hb dX5_bestBuilt_25 rfl hl (by decide) rfl (fun ls hl => ?_)
  refine lv_iconst (v := nI 0) hx hb dX5_bestBuilt_26 (by decide) ?_
  refine lv_istore (lv' := [(4, .int (nI 0)), (3, .int (nI 100000)), (2, .int (nI (popc (pgM Al k k)))), (0, .ref mo), (1, .int (nI w))]) hx hb dX5_bestBuilt_27 hl (by decide) rfl (fun ls hl => ?_)
  refine lv_iconst (v := nI 0) hx hb dX5_bestBuilt_29 (by decide) ?_
  refine lv_istore (lv' := [(5, .int (nI 0)), (4, .int (nI 0)), (3, .int (nI 100000)), (2, .int (nI (popc (pgM Al k k)))), (0, .ref mo), (1, .int (nI w))]) hx hb dX5_bestBuilt_30 hl (by decide) rfl (fun ls hl => ?_)
  refine lv_iconst (v := nI 0) hx hb dX5_bestBuilt_32 (by decide) ?_
  refine lv_istore (lv' := [(6, .int (nI 0)), (5, .int (nI 0)), (4, .int (nI 0)), (3, .int (nI 100000)), (2, .int (nI (popc (pgM Al k k)))), (0, .ref mo), (1, .int (nI w))]) hx hb dX5_bestBuilt_33 hl (by decide) rfl (fun ls hl => ?_)
  have L35 : ∀ (fu : Nat) (bl bh i : Nat) (bf : Int32), (eb : (bf, bl, bh) = bbO (pfM Al k) n (nI 100000, 0, 0) i) → (gi : i ≤ n) → n - i < fu → ∀ (H : Heap) (locs : List Loc), va_P E.1 vwCl [(mo, .inr (5, [.ref mA, .ref mK, .ref mH, .int hy, .ref mS, .ref mV, .ref mF, .ref mP, .int pl, .int sp, .int nu, .ref mR, .int rm])), (mA, aI E 92 Al)] H → va_D A [(mo, .inr (5, [.ref mA, .ref mK, .ref mH, .int hy, .ref mS, .ref mV, .ref mF, .ref mP, .int pl, .int sp, .int nu, .ref mR, .int rm])), (mA, aI E 92 Al)] → va_S A s.heap H locs → ∀ (ls : Array Slot), lv_has ls 9 [(6, .int (nI i)), (5, .int (nI bh)), (4, .int (nI bl)), (3, .int bf), (2, .int (nI (popc (pgM Al k k)))), (0, .ref mo), (1, .int (nI w))] → W p l e R s m args below meth c H locs 0 0 Q (F0 m 35 ls []) := by
    intro fu
    induction fu with
    | zero => intro bl bh i bf eb gi hfu; exact absurd hfu (Nat.not_lt_zero _)
    | succ fu ih35 =>
      intro bl bh i bf eb gi hfu H locs hP hD hS ls hl
      refine lv_iload hx hb dX5_bestBuilt_35 (lv_at hl 0 rfl) ?_
      refine lv_aload_n hx hb dX5_bestBuilt_37 rfl (lv_at hl 5 rfl) ?_
      refine rk_get (ci := 5) (C := RX5) (T := TX5) (N := 13) hx hb hts iw_X5_bestBuilt_5 hown hK hP 0 rfl rfl 0 (by decide) fl_X5_bestBuilt_7 rfl (v := .ref mA) rfl dX5_bestBuilt_38 ?_
      refine lv_iconst (v := nI 0) hx hb dX5_bestBuilt_41 (by decide) ?_
      refine rk_iald hx hb hK hP 1 rfl (by omega) (by omega) (v := nI n) (by exact gA0) dX5_bestBuilt_42 ?_
      refine rk_geN (tgt := 150) hx hb (by omega) (by omega) dX5_bestBuilt_43 (by decide) (fun zc43 => ?_) (fun zc43 => ?_)
      · refine lv_iload_n hx hb dX5_bestBuilt_150 rfl (lv_at hl 6 rfl) ?_
        refine rk_if_neN (tgt := 159) hx hb (by omega) dX5_bestBuilt_151 (by decide) (fun zc151 => ?_) (fun zc151 => ?_)
        · refine lv_iload_n hx hb dX5_bestBuilt_159 rfl (lv_at hl 6 rfl) ?_
          refine lv_iconst (v := nI 1) hx hb dX5_bestBuilt_160 (by decide) ?_
          refine rk_neN (tgt := 169) hx hb (by omega) (by omega) dX5_bestBuilt_161 (by decide) (fun zc161 => ?_) (fun zc161 => ?_)
          · refine lv_iload_n hx hb dX5_bestBuilt_169 rfl (lv_at hl 3 rfl) ?_
            exact ret_i hQ hx hb hr hlocks (hP.sub [0, 1] rfl) (hD.sub [0, 1] (by decide) rfl) hS dX5_bestBuilt_170 (by obtain rfl : n = i := (by omega); rw [← eb]; rw [if_neg zc151]; exact (if_neg zc161).symm)
          · refine lv_iload hx hb dX5_bestBuilt_164 (lv_at hl 1 rfl) ?_
            refine lv_goto (tgt := 170) hx hb dX5_bestBuilt_166 (by decide) ?_
            exact ret_i hQ hx hb hr hlocks (hP.sub [0, 1] rfl) (hD.sub [0, 1] (by decide) rfl) hS dX5_bestBuilt_170 (by obtain rfl : n = i := (by omega); rw [← eb]; rw [if_neg zc151]; exact (if_pos zc161).symm)
        · refine lv_iload hx hb dX5_bestBuilt_154 (lv_at hl 2 rfl) ?_
          refine lv_goto (tgt := 170) hx hb dX5_bestBuilt_156 (by decide) ?_
          exact ret_i hQ hx hb hr hlocks (hP.sub [0, 1] rfl) (hD.sub [0, 1] (by decide) rfl) hS dX5_bestBuilt_170 (by obtain rfl : n = i := (by omega); rw [← eb]; exact (if_pos zc151).symm)
      · refine lv_iload hx hb dX5_bestBuilt_46 (lv_at hl 0 rfl) ?_
        refine lv_iconst (v := nI 1) hx hb dX5_bestBuilt_48 (by decide) ?_
        refine rk_iaddN hx hb dX5_bestBuilt_49 ?_
        refine lv_istore (lv' := [(7, .int (nI (i + 1))), (6, .int (nI i)), (5, .int (nI bh)), (4, .int (nI bl)), (3, .int bf), (2, .int (nI (popc (pgM Al k k)))), (0, .ref mo), (1, .int (nI w))]) hx hb dX5_bestBuilt_50 hl (by decide) rfl (fun ls hl => ?_)
        have L52 : ∀ (fu : Nat) (bl2 bh2 j : Nat) (bf2 : Int32), (eb2 : (bf2, bl2, bh2) = bbI (pfM Al k) i (bf, bl, bh) j) → (gj : j ≤ n - (i + 1)) → n - (i + 1 + j) < fu → ∀ (H : Heap) (locs : List Loc), va_P E.1 vwCl [(mo, .inr (5, [.ref mA, .ref mK, .ref mH, .int hy, .ref mS, .ref mV, .ref mF, .ref mP, .int pl, .int sp, .int nu, .ref mR, .int rm])), (mA, aI E 92 Al)] H → va_D A [(mo, .inr (5, [.ref mA, .ref mK, .ref mH, .int hy, .ref mS, .ref mV, .ref mF, .ref mP, .int pl, .int sp, .int nu, .ref mR, .int rm])), (mA, aI E 92 Al)] → va_S A s.heap H locs → ∀ (ls : Array Slot), lv_has ls 9 [(7, .int (nI (i + 1 + j))), (6, .int (nI i)), (5, .int (nI bh2)), (4, .int (nI bl2)), (3, .int bf2), (2, .int (nI (popc (pgM Al k k)))), (0, .ref mo), (1, .int (nI w))] → W p l e R s m args below meth c H locs 0 0 Q (F0 m 52 ls []) := by
          intro fu
          induction fu with
          | zero => intro bl2 bh2 j bf2 eb2 gj hfu; exact absurd hfu (Nat.not_lt_zero _)
          | succ fu ih52 =>
            intro bl2 bh2 j bf2 eb2 gj hfu H locs hP hD hS ls hl
            refine lv_iload hx hb dX5_bestBuilt_52 (lv_at hl 0 rfl) ?_
            refine lv_aload_n hx hb dX5_bestBuilt_54 rfl (lv_at hl 6 rfl) ?_
            refine rk_get (ci := 5) (C := RX5) (T := TX5) (N := 13) hx hb hts iw_X5_bestBuilt_5 hown hK hP 0 rfl rfl 0 (by decide) fl_X5_bestBuilt_7 rfl (v := .ref mA) rfl dX5_bestBuilt_55 ?_
            refine lv_iconst (v := nI 0) hx hb dX5_bestBuilt_58 (by decide) ?_
            refine rk_iald hx hb hK hP 1 rfl (by omega) (by omega) (v := nI n) (by exact gA0) dX5_bestBuilt_59 ?_
            refine rk_geN (tgt := 144) hx hb (by omega) (by omega) dX5_bestBuilt_60 (by decide) (fun zc60 => ?_) (fun zc60 => ?_)
            · refine lv_iinc (v := nI (i + 1)) (lv' := [(6, .int (nI (i + 1))), (7, .int (nI (i + 1 + j))), (5, .int (nI bh2)), (4, .int (nI bl2)), (3, .int bf2), (2, .int (nI (popc (pgM Al k k)))), (0, .ref mo), (1, .int (nI w))]) hx hb dX5_bestBuilt_144 hl (k := 1) rfl (by rw [show Int32.ofInt 1 = nI 1 by decide]; exact nI_add _ _) (by decide) rfl (fun ls hl => ?_)
              refine lv_goto (tgt := 35) hx hb dX5_bestBuilt_147 (by decide) ?_
              exact ih35 bl2 bh2 (i + 1) bf2 (by rw [eb2, show j = n - (i + 1) by omega, eb]; rfl) (by first | assumption | omega | rfl) (by omega) _ _ (hP.sub [0, 1] rfl) (hD.sub [0, 1] (by decide) rfl) hS ls (lv_sub hl [0, 2, 3, 4, 5, 6, 7] rfl)
            · refine lv_aload_n hx hb dX5_bestBuilt_63 rfl (lv_at hl 6 rfl) ?_
              refine lv_iload hx hb dX5_bestBuilt_64 (lv_at hl 1 rfl) ?_
              refine lv_iload hx hb dX5_bestBuilt_66 (lv_at hl 0 rfl) ?_
              refine kV_i (E := E) (As := [.int (nI i), .int (nI (i + 1 + j))]) (rest := []) (wr := []) ⟨hx, hb, hml, hown, hts⟩ (c_X5_hang (l := l) (E := E) (sz := _) (mo := mo) (mA := mA) (mK := mK) (mH := mH) (mS := mS) (mV := mV) (mF := mF) (mP := mP) (mR := mR) (hy := hy) (pl := pl) (sp := sp) (nu := nu) (rm := rm) (n := n) (k := k) (Al := Al) (x := i) (y := nI (i + 1 + j)) (gA1 := by first | assumption | omega) (gk := by first | assumption | omega) (gok := by first | assumption | omega) (gq := by first | assumption | omega)) (cwV 2 hts gX5_bestBuilt_X5_hang rfl rfl rfl (by decide +kernel) ⟨by rw [hR]; decide, by rw [hR]; decide⟩) hK hN hP hD hS hA [0, 1] [] rfl (by decide) rfl (by decide) (by decide) 0 5 rfl rfl rfl hl.1 rfl (Nat.le_of_ble_eq_true rfl) dX5_bestBuilt_68 ⟨Nat.zero_le _, Nat.zero_le _⟩ (fun H locs hP hD hS => ?_)
              have hP : va_P E.1 vwCl [(mo, .inr (5, [.ref mA, .ref mK, .ref mH, .int hy, .ref mS, .ref mV, .ref mF, .ref mP, .int pl, .int sp, .int nu, .ref mR, .int rm])), (mA, aI E 92 Al)] H := hP
              have hD : va_D A [(mo, .inr (5, [.ref mA, .ref mK, .ref mH, .int hy, .ref mS, .ref mV, .ref mF, .ref mP, .int pl, .int sp, .int nu, .ref mR, .int rm])), (mA, aI E 92 Al)] := hD
              refine rk_if_eqB (tgt := 90) hx hb dX5_bestBuilt_71 (by decide) (fun zc71 => ?_) (fun zc71 => ?_)
              · refine lv_iload_n hx hb dX5_bestBuilt_90 rfl (lv_at hl 5 rfl) ?_
                refine lv_iconst (v := nI 1) hx hb dX5_bestBuilt_91 (by decide) ?_
                refine rk_iaddN hx hb dX5_bestBuilt_92 ?_
                refine lv_istore (lv' := [(8, .int (nI ((popc (pgM Al k k)) + 1))), (7, .int (nI (i + 1 + j))), (6, .int (nI i)), (5, .int (nI bh2)), (4, .int (nI bl2)), (3, .int bf2), (2, .int (nI (popc (pgM Al k k)))), (0, .ref mo), (1, .int (nI w))]) hx hb dX5_bestBuilt_93 hl (by decide) rfl (fun ls hl => ?_)
                refine lv_iload hx hb dX5_bestBuilt_95 (lv_at hl 0 rfl) ?_
                refine lv_iload_n hx hb dX5_bestBuilt_97 rfl (lv_at hl 5 rfl) ?_
                refine lv_icmp_ge (tgt := 106) hx hb dX5_bestBuilt_98 (by decide) (fun zc98 => ?_) (fun zc98 => ?_)
                · refine lv_iload hx hb dX5_bestBuilt_106 (lv_at hl 4 rfl) ?_
                  refine lv_istore (lv' := [(4, .int (nI bl2)), (8, .int (nI ((popc (pgM Al k k)) + 1))), (7, .int (nI (i + 1 + j))), (6, .int (nI i)), (5, .int (nI bh2)), (3, .int bf2), (2, .int (nI (popc (pgM Al k k)))), (0, .ref mo), (1, .int (nI w))]) hx hb dX5_bestBuilt_108 hl (by decide) rfl (fun ls hl => ?_)
                  refine lv_iload hx hb dX5_bestBuilt_110 (lv_at hl 1 rfl) ?_
                  refine lv_iload_n hx hb dX5_bestBuilt_112 rfl (lv_at hl 5 rfl) ?_
                  refine lv_icmp_ge (tgt := 121) hx hb dX5_bestBuilt_113 (by decide) (fun zc113 => ?_) (fun q => absurd zc98 q)
                  refine lv_iload hx hb dX5_bestBuilt_121 (lv_at hl 4 rfl) ?_
                  refine lv_istore (lv' := [(5, .int (nI bh2)), (4, .int (nI bl2)), (8, .int (nI ((popc (pgM Al k k)) + 1))), (7, .int (nI (i + 1 + j))), (6, .int (nI i)), (3, .int bf2), (2, .int (nI (popc (pgM Al k k)))), (0, .ref mo), (1, .int (nI w))]) hx hb dX5_bestBuilt_123 hl (by decide) rfl (fun ls hl => ?_)
                  refine lv_iload hx hb dX5_bestBuilt_125 (lv_at hl 2 rfl) ?_
                  refine lv_iload_n hx hb dX5_bestBuilt_127 rfl (lv_at hl 5 rfl) ?_
                  refine lv_icmp_ge (tgt := 136) hx hb dX5_bestBuilt_128 (by decide) (fun zc128 => ?_) (fun q => absurd zc98 q)
                  refine lv_iload_n hx hb dX5_bestBuilt_136 rfl (lv_at hl 5 rfl) ?_
                  refine lv_istore_n (lv' := [(3, .int bf2), (5, .int (nI bh2)), (4, .int (nI bl2)), (8, .int (nI ((popc (pgM Al k k)) + 1))), (7, .int (nI (i + 1 + j))), (6, .int (nI i)), (2, .int (nI (popc (pgM Al k k)))), (0, .ref mo), (1, .int (nI w))]) hx hb dX5_bestBuilt_137 rfl hl (by decide) rfl (fun ls hl => ?_)
                  refine lv_iinc (v := nI ((i + 1 + j) + 1)) (lv' := [(7, .int (nI ((i + 1 + j) + 1))), (3, .int bf2), (5, .int (nI bh2)), (4, .int (nI bl2)), (8, .int (nI ((popc (pgM Al k k)) + 1))), (6, .int (nI i)), (2, .int (nI (popc (pgM Al k k)))), (0, .ref mo), (1, .int (nI w))]) hx hb dX5_bestBuilt_138 hl (k := 4) rfl (by rw [show Int32.ofInt 1 = nI 1 by decide]; exact nI_add _ _) (by decide) rfl (fun ls hl => ?_)
                  refine lv_goto (tgt := 52) hx hb dX5_bestBuilt_141 (by decide) ?_
                  exact ih52 bl2 bh2 (j + 1) bf2 (by have hp9 : pfM Al k i (i + 1 + j) = nI (popc (pgM Al k k) + 1) := if_neg (by rw [zc71]; decide); rw [bbI_f (by rw [← eb2, hp9]; exact zc98)]; exact eb2) (by first | assumption | omega | rfl) (by omega) _ _ (hP.sub [0, 1] rfl) (hD.sub [0, 1] (by decide) rfl) hS ls (lv_sub hl [0, 5, 2, 3, 1, 6, 7, 8] rfl)
                · refine lv_iload hx hb dX5_bestBuilt_101 (lv_at hl 2 rfl) ?_
                  refine lv_goto (tgt := 108) hx hb dX5_bestBuilt_103 (by decide) ?_
                  refine lv_istore (lv' := [(4, .int (nI i)), (8, .int (nI ((popc (pgM Al k k)) + 1))), (7, .int (nI (i + 1 + j))), (6, .int (nI i)), (5, .int (nI bh2)), (3, .int bf2), (2, .int (nI (popc (pgM Al k k)))), (0, .ref mo), (1, .int (nI w))]) hx hb dX5_bestBuilt_108 hl (by decide) rfl (fun ls hl => ?_)
                  refine lv_iload hx hb dX5_bestBuilt_110 (lv_at hl 1 rfl) ?_
                  refine lv_iload_n hx hb dX5_bestBuilt_112 rfl (lv_at hl 5 rfl) ?_
                  refine lv_icmp_ge (tgt := 121) hx hb dX5_bestBuilt_113 (by decide) (fun q => absurd q zc98) (fun zc113 => ?_)
                  refine lv_iload hx hb dX5_bestBuilt_116 (lv_at hl 2 rfl) ?_
                  refine lv_goto (tgt := 123) hx hb dX5_bestBuilt_118 (by decide) ?_
                  refine lv_istore (lv' := [(5, .int (nI (i + 1 + j))), (4, .int (nI i)), (8, .int (nI ((popc (pgM Al k k)) + 1))), (7, .int (nI (i + 1 + j))), (6, .int (nI i)), (3, .int bf2), (2, .int (nI (popc (pgM Al k k)))), (0, .ref mo), (1, .int (nI w))]) hx hb dX5_bestBuilt_123 hl (by decide) rfl (fun ls hl => ?_)
                  refine lv_iload hx hb dX5_bestBuilt_125 (lv_at hl 2 rfl) ?_
                  refine lv_iload_n hx hb dX5_bestBuilt_127 rfl (lv_at hl 5 rfl) ?_
                  refine lv_icmp_ge (tgt := 136) hx hb dX5_bestBuilt_128 (by decide) (fun q => absurd q zc98) (fun zc128 => ?_)
                  refine lv_iload hx hb dX5_bestBuilt_131 (lv_at hl 2 rfl) ?_
                  refine lv_goto (tgt := 137) hx hb dX5_bestBuilt_133 (by decide) ?_
                  refine lv_istore_n (lv' := [(3, .int (nI ((popc (pgM Al k k)) + 1))), (5, .int (nI (i + 1 + j))), (4, .int (nI i)), (8, .int (nI ((popc (pgM Al k k)) + 1))), (7, .int (nI (i + 1 + j))), (6, .int (nI i)), (2, .int (nI (popc (pgM Al k k)))), (0, .ref mo), (1, .int (nI w))]) hx hb dX5_bestBuilt_137 rfl hl (by decide) rfl (fun ls hl => ?_)
                  refine lv_iinc (v := nI ((i + 1 + j) + 1)) (lv' := [(7, .int (nI ((i + 1 + j) + 1))), (3, .int (nI ((popc (pgM Al k k)) + 1))), (5, .int (nI (i + 1 + j))), (4, .int (nI i)), (8, .int (nI ((popc (pgM Al k k)) + 1))), (6, .int (nI i)), (2, .int (nI (popc (pgM Al k k)))), (0, .ref mo), (1, .int (nI w))]) hx hb dX5_bestBuilt_138 hl (k := 4) rfl (by rw [show Int32.ofInt 1 = nI 1 by decide]; exact nI_add _ _) (by decide) rfl (fun ls hl => ?_)
                  refine lv_goto (tgt := 52) hx hb dX5_bestBuilt_141 (by decide) ?_
                  exact ih52 i (i + 1 + j) (j + 1) (nI ((popc (pgM Al k k)) + 1)) (by have hp9 : pfM Al k i (i + 1 + j) = nI (popc (pgM Al k k) + 1) := if_neg (by rw [zc71]; decide); rw [bbI_t (by rw [← eb2, hp9]; exact zc98), hp9]) (by first | assumption | omega | rfl) (by omega) _ _ (hP.sub [0, 1] rfl) (hD.sub [0, 1] (by decide) rfl) hS ls (lv_sub hl [0, 5, 2, 3, 1, 6, 7, 8] rfl)
              · refine lv_iload_n hx hb dX5_bestBuilt_74 rfl (lv_at hl 5 rfl) ?_
                refine lv_aload_n hx hb dX5_bestBuilt_75 rfl (lv_at hl 6 rfl) ?_
                refine lv_iload hx hb dX5_bestBuilt_76 (lv_at hl 1 rfl) ?_
                refine lv_iload hx hb dX5_bestBuilt_78 (lv_at hl 0 rfl) ?_
                refine kV_i (E := E) (As := [.int (nI i), .int (nI (i + 1 + j))]) (rest := [.int (nI (popc (pgM Al k k)))]) (wr := []) ⟨hx, hb, hml, hown, hts⟩ (c_X5_musts (l := l) (E := E) (sz := _) (mo := mo) (mA := mA) (mK := mK) (mH := mH) (mS := mS) (mV := mV) (mF := mF) (mP := mP) (mR := mR) (hy := hy) (pl := pl) (sp := sp) (nu := nu) (rm := rm) (n := n) (k := k) (Al := Al) (x := i) (y := nI (i + 1 + j)) (gA1 := by first | assumption | omega) (gk := by first | assumption | omega) (gok := by first | assumption | omega) (gq := by first | assumption | omega)) (cwV 2 hts gX5_bestBuilt_X5_musts rfl rfl rfl (by decide +kernel) ⟨by rw [hR]; decide, by rw [hR]; decide⟩) hK hN hP hD hS hA [0, 1] [] rfl (by decide) rfl (by decide) (by decide) 0 5 rfl rfl rfl hl.1 rfl (Nat.le_of_ble_eq_true rfl) dX5_bestBuilt_80 ⟨Nat.zero_le _, Nat.zero_le _⟩ (fun H locs hP hD hS => ?_)
                have hP : va_P E.1 vwCl [(mo, .inr (5, [.ref mA, .ref mK, .ref mH, .int hy, .ref mS, .ref mV, .ref mF, .ref mP, .int pl, .int sp, .int nu, .ref mR, .int rm])), (mA, aI E 92 Al)] H := hP
                have hD : va_D A [(mo, .inr (5, [.ref mA, .ref mK, .ref mH, .int hy, .ref mS, .ref mV, .ref mF, .ref mP, .int pl, .int sp, .int nu, .ref mR, .int rm])), (mA, aI E 92 Al)] := hD
                refine kS_i (E := E) (As := [.int (muM Al k i (nI (i + 1 + j)) k)]) (rest := [.int (nI (popc (pgM Al k k)))]) (wr := [(mo, .inr (5, [.ref mA, .ref mK, .ref mH, .int hy, .ref mS, .ref mV, .ref mF, .ref mP, .int pl, .int sp, .int nu, .ref mR, .int rm])), (mA, aI E 92 Al)]) ⟨hx, hb, hml, hown, hts⟩ (c_X5_bits (l := l) (E := E) (sz := _) (x := muM Al k i (nI (i + 1 + j)) k) ) (cwS 1 hts gX5_bestBuilt_X5_bits rfl rfl rfl (by decide +kernel) ⟨by rw [hR]; decide, by rw [hR]; decide⟩) hK hN hP hD hS hA [] [0, 1] rfl (by decide) rfl (by decide) (by decide) rfl hl.1 rfl (Nat.le_of_ble_eq_true rfl) dX5_bestBuilt_83 ⟨Nat.zero_le _, Nat.zero_le _⟩ (fun H locs hP hD hS => ?_)
                have hP : va_P E.1 vwCl [(mo, .inr (5, [.ref mA, .ref mK, .ref mH, .int hy, .ref mS, .ref mV, .ref mF, .ref mP, .int pl, .int sp, .int nu, .ref mR, .int rm])), (mA, aI E 92 Al)] H := hP
                have hD : va_D A [(mo, .inr (5, [.ref mA, .ref mK, .ref mH, .int hy, .ref mS, .ref mV, .ref mF, .ref mP, .int pl, .int sp, .int nu, .ref mR, .int rm])), (mA, aI E 92 Al)] := hD
                refine lv_isub hx hb dX5_bestBuilt_86 ?_
                refine lv_goto (tgt := 93) hx hb dX5_bestBuilt_87 (by decide) ?_
                refine lv_istore (lv' := [(8, .int ((nI (popc (pgM Al k k))) - (nI (popc (muM Al k i (nI (i + 1 + j)) k))))), (7, .int (nI (i + 1 + j))), (6, .int (nI i)), (5, .int (nI bh2)), (4, .int (nI bl2)), (3, .int bf2), (2, .int (nI (popc (pgM Al k k)))), (0, .ref mo), (1, .int (nI w))]) hx hb dX5_bestBuilt_93 hl (by decide) rfl (fun ls hl => ?_)
                refine lv_iload hx hb dX5_bestBuilt_95 (lv_at hl 0 rfl) ?_
                refine lv_iload_n hx hb dX5_bestBuilt_97 rfl (lv_at hl 5 rfl) ?_
                refine lv_icmp_ge (tgt := 106) hx hb dX5_bestBuilt_98 (by decide) (fun zc98 => ?_) (fun zc98 => ?_)
                · refine lv_iload hx hb dX5_bestBuilt_106 (lv_at hl 4 rfl) ?_
                  refine lv_istore (lv' := [(4, .int (nI bl2)), (8, .int ((nI (popc (pgM Al k k))) - (nI (popc (muM Al k i (nI (i + 1 + j)) k))))), (7, .int (nI (i + 1 + j))), (6, .int (nI i)), (5, .int (nI bh2)), (3, .int bf2), (2, .int (nI (popc (pgM Al k k)))), (0, .ref mo), (1, .int (nI w))]) hx hb dX5_bestBuilt_108 hl (by decide) rfl (fun ls hl => ?_)
                  refine lv_iload hx hb dX5_bestBuilt_110 (lv_at hl 1 rfl) ?_
                  refine lv_iload_n hx hb dX5_bestBuilt_112 rfl (lv_at hl 5 rfl) ?_
                  refine lv_icmp_ge (tgt := 121) hx hb dX5_bestBuilt_113 (by decide) (fun zc113 => ?_) (fun q => absurd zc98 q)
                  refine lv_iload hx hb dX5_bestBuilt_121 (lv_at hl 4 rfl) ?_
                  refine lv_istore (lv' := [(5, .int (nI bh2)), (4, .int (nI bl2)), (8, .int ((nI (popc (pgM Al k k))) - (nI (popc (muM Al k i (nI (i + 1 + j)) k))))), (7, .int (nI (i + 1 + j))), (6, .int (nI i)), (3, .int bf2), (2, .int (nI (popc (pgM Al k k)))), (0, .ref mo), (1, .int (nI w))]) hx hb dX5_bestBuilt_123 hl (by decide) rfl (fun ls hl => ?_)
                  refine lv_iload hx hb dX5_bestBuilt_125 (lv_at hl 2 rfl) ?_
                  refine lv_iload_n hx hb dX5_bestBuilt_127 rfl (lv_at hl 5 rfl) ?_
                  refine lv_icmp_ge (tgt := 136) hx hb dX5_bestBuilt_128 (by decide) (fun zc128 => ?_) (fun q => absurd zc98 q)
                  refine lv_iload_n hx hb dX5_bestBuilt_136 rfl (lv_at hl 5 rfl) ?_
                  refine lv_istore_n (lv' := [(3, .int bf2), (5, .int (nI bh2)), (4, .int (nI bl2)), (8, .int ((nI (popc (pgM Al k k))) - (nI (popc (muM Al k i (nI (i + 1 + j)) k))))), (7, .int (nI (i + 1 + j))), (6, .int (nI i)), (2, .int (nI (popc (pgM Al k k)))), (0, .ref mo), (1, .int (nI w))]) hx hb dX5_bestBuilt_137 rfl hl (by decide) rfl (fun ls hl => ?_)
                  refine lv_iinc (v := nI ((i + 1 + j) + 1)) (lv' := [(7, .int (nI ((i + 1 + j) + 1))), (3, .int bf2), (5, .int (nI bh2)), (4, .int (nI bl2)), (8, .int ((nI (popc (pgM Al k k))) - (nI (popc (muM Al k i (nI (i + 1 + j)) k))))), (6, .int (nI i)), (2, .int (nI (popc (pgM Al k k)))), (0, .ref mo), (1, .int (nI w))]) hx hb dX5_bestBuilt_138 hl (k := 4) rfl (by rw [show Int32.ofInt 1 = nI 1 by decide]; exact nI_add _ _) (by decide) rfl (fun ls hl => ?_)
                  refine lv_goto (tgt := 52) hx hb dX5_bestBuilt_141 (by decide) ?_
                  exact ih52 bl2 bh2 (j + 1) bf2 (by have hp9 : pfM Al k i (i + 1 + j) = nI (popc (pgM Al k k)) - nI (popc (muM Al k i (nI (i + 1 + j)) k)) := if_pos zc71; rw [bbI_f (by rw [← eb2, hp9]; exact zc98)]; exact eb2) (by first | assumption | omega | rfl) (by omega) _ _ (hP.sub [0, 1] rfl) (hD.sub [0, 1] (by decide) rfl) hS ls (lv_sub hl [0, 5, 2, 3, 1, 6, 7, 8] rfl)
                · refine lv_iload hx hb dX5_bestBuilt_101 (lv_at hl 2 rfl) ?_
                  refine lv_goto (tgt := 108) hx hb dX5_bestBuilt_103 (by decide) ?_
                  refine lv_istore (lv' := [(4, .int (nI i)), (8, .int ((nI (popc (pgM Al k k))) - (nI (popc (muM Al k i (nI (i + 1 + j)) k))))), (7, .int (nI (i + 1 + j))), (6, .int (nI i)), (5, .int (nI bh2)), (3, .int bf2), (2, .int (nI (popc (pgM Al k k)))), (0, .ref mo), (1, .int (nI w))]) hx hb dX5_bestBuilt_108 hl (by decide) rfl (fun ls hl => ?_)
                  refine lv_iload hx hb dX5_bestBuilt_110 (lv_at hl 1 rfl) ?_
                  refine lv_iload_n hx hb dX5_bestBuilt_112 rfl (lv_at hl 5 rfl) ?_
                  refine lv_icmp_ge (tgt := 121) hx hb dX5_bestBuilt_113 (by decide) (fun q => absurd q zc98) (fun zc113 => ?_)
                  refine lv_iload hx hb dX5_bestBuilt_116 (lv_at hl 2 rfl) ?_
                  refine lv_goto (tgt := 123) hx hb dX5_bestBuilt_118 (by decide) ?_
                  refine lv_istore (lv' := [(5, .int (nI (i + 1 + j))), (4, .int (nI i)), (8, .int ((nI (popc (pgM Al k k))) - (nI (popc (muM Al k i (nI (i + 1 + j)) k))))), (7, .int (nI (i + 1 + j))), (6, .int (nI i)), (3, .int bf2), (2, .int (nI (popc (pgM Al k k)))), (0, .ref mo), (1, .int (nI w))]) hx hb dX5_bestBuilt_123 hl (by decide) rfl (fun ls hl => ?_)
                  refine lv_iload hx hb dX5_bestBuilt_125 (lv_at hl 2 rfl) ?_
                  refine lv_iload_n hx hb dX5_bestBuilt_127 rfl (lv_at hl 5 rfl) ?_
                  refine lv_icmp_ge (tgt := 136) hx hb dX5_bestBuilt_128 (by decide) (fun q => absurd q zc98) (fun zc128 => ?_)
                  refine lv_iload hx hb dX5_bestBuilt_131 (lv_at hl 2 rfl) ?_
                  refine lv_goto (tgt := 137) hx hb dX5_bestBuilt_133 (by decide) ?_
                  refine lv_istore_n (lv' := [(3, .int ((nI (popc (pgM Al k k))) - (nI (popc (muM Al k i (nI (i + 1 + j)) k))))), (5, .int (nI (i + 1 + j))), (4, .int (nI i)), (8, .int ((nI (popc (pgM Al k k))) - (nI (popc (muM Al k i (nI (i + 1 + j)) k))))), (7, .int (nI (i + 1 + j))), (6, .int (nI i)), (2, .int (nI (popc (pgM Al k k)))), (0, .ref mo), (1, .int (nI w))]) hx hb dX5_bestBuilt_137 rfl hl (by decide) rfl (fun ls hl => ?_)
                  refine lv_iinc (v := nI ((i + 1 + j) + 1)) (lv' := [(7, .int (nI ((i + 1 + j) + 1))), (3, .int ((nI (popc (pgM Al k k))) - (nI (popc (muM Al k i (nI (i + 1 + j)) k))))), (5, .int (nI (i + 1 + j))), (4, .int (nI i)), (8, .int ((nI (popc (pgM Al k k))) - (nI (popc (muM Al k i (nI (i + 1 + j)) k))))), (6, .int (nI i)), (2, .int (nI (popc (pgM Al k k)))), (0, .ref mo), (1, .int (nI w))]) hx hb dX5_bestBuilt_138 hl (k := 4) rfl (by rw [show Int32.ofInt 1 = nI 1 by decide]; exact nI_add _ _) (by decide) rfl (fun ls hl => ?_)
                  refine lv_goto (tgt := 52) hx hb dX5_bestBuilt_141 (by decide) ?_
                  exact ih52 i (i + 1 + j) (j + 1) ((nI (popc (pgM Al k k))) - (nI (popc (muM Al k i (nI (i + 1 + j)) k)))) (by have hp9 : pfM Al k i (i + 1 + j) = nI (popc (pgM Al k k)) - nI (popc (muM Al k i (nI (i + 1 + j)) k)) := if_pos zc71; rw [bbI_t (by rw [← eb2, hp9]; exact zc98), hp9]) (by first | assumption | omega | rfl) (by omega) _ _ (hP.sub [0, 1] rfl) (hD.sub [0, 1] (by decide) rfl) hS ls (lv_sub hl [0, 5, 2, 3, 1, 6, 7, 8] rfl)
        exact L52 ((n - (i + 1 + 0)) + 1) bl bh 0 bf (rfl) (by first | assumption | omega | rfl) (Nat.lt_succ_self _) _ _ (hP.sub [0, 1] rfl) (hD.sub [0, 1] (by decide) rfl) hS ls (lv_sub hl [0, 1, 2, 3, 4, 5, 6, 7] rfl)
  exact L35 ((n - 0) + 1) 0 0 0 (nI 100000) (rfl) (by first | assumption | omega | rfl) (Nat.lt_succ_self _) _ _ (hP.sub [0, 1] rfl) (hD.sub [0, 1] (by decide) rfl) hS ls (lv_sub hl [0, 1, 2, 3, 4, 5, 6] rfl)
set_option maxHeartbeats 400000 in
set_option maxRecDepth 100000 in
theorem c_X5_worstLoss_val (l : Launch) (E : EE) (sz : Nat) (mo mA mK mH mS mV mF mP mR : Nat) (hy pl sp nu rm : Int32) (w : Int32) (gw : w < nI 0 ∨ nI 1 < w) : Ci l yX5_worstLoss wsX5_worstLoss 1 25 E [.ref mo, .int w] [(mo, .inr (5, [.ref mA, .ref mK, .ref mH, .int hy, .ref mS, .ref mV, .ref mF, .ref mP, .int pl, .int sp, .int nu, .ref mR, .int rm]))] sz (-2) [(mo, .inr (5, [.ref mA, .ref mK, .ref mH, .int hy, .ref mS, .ref mV, .ref mF, .ref mP, .int pl, .int sp, .int nu, .ref mR, .int rm]))] := by
  refine C_of (QQ := QI E (-2) [(mo, .inr (5, [.ref mA, .ref mK, .ref mH, .int hy, .ref mS, .ref mV, .ref mF, .ref mP, .int pl, .int sp, .int nu, .ref mR, .int rm]))]) (cc := cX5_worstLoss) (maxL := 6) (ret := (some .int)) (by decide +kernel) rfl (Nat.le_of_ble_eq_true rfl) ?_
  intro p e s m args below meth c A R Q ls hx hb hr hts hown hml hlocks hA hK hN hP hD hS hl hR hQ
  have hown : s.vm.findClass RX5 = some m.cls := hown
  have hl : lv_has ls 6 [(0, .ref mo), (1, .int w)] := hl
  refine lv_iload_n hx hb dX5_worstLoss_0 rfl (lv_at hl 1 rfl) ?_
  refine lv_i2l hx hb dX5_worstLoss_1 rfl ?_
  refine lv_lconst (v := 0) hx hb dX5_worstLoss_2 (by decide) ?_
  refine lv_lconst (v := 1) hx hb dX5_worstLoss_3 (by decide) ?_
  refine kS_i (E := E) (As := [.long w.toInt64, .long ((0 : Int64)), .long ((1 : Int64))]) (rest := []) (wr := [(mo, .inr (5, [.ref mA, .ref mK, .ref mH, .int hy, .ref mS, .ref mV, .ref mF, .ref mP, .int pl, .int sp, .int nu, .ref mR, .int rm]))]) ⟨hx, hb, hml, hown, hts⟩ (c_X5_in (l := l) (E := E) (sz := _) (v := w.toInt64) (lo9 := (0 : Int64)) (hi9 := (1 : Int64)) ) (cwS 3 hts gX5_worstLoss_X5_in rfl rfl rfl (by decide +kernel) ⟨by rw [hR]; decide, by rw [hR]; decide⟩) hK hN hP hD hS hA [] [0] rfl (by decide) rfl (by decide) (by decide) rfl hl.1 rfl (Nat.le_of_ble_eq_true rfl) dX5_worstLoss_4 ⟨Nat.zero_le _, Nat.zero_le _⟩ (fun H locs hP hD hS => ?_)
  have hP : va_P E.1 vwCl [(mo, .inr (5, [.ref mA, .ref mK, .ref mH, .int hy, .ref mS, .ref mV, .ref mF, .ref mP, .int pl, .int sp, .int nu, .ref mR, .int rm]))] H := hP
  have hD : va_D A [(mo, .inr (5, [.ref mA, .ref mK, .ref mH, .int hy, .ref mS, .ref mV, .ref mF, .ref mP, .int pl, .int sp, .int nu, .ref mR, .int rm]))] := hD
  refine rk_if_neB (tgt := 13) hx hb dX5_worstLoss_7 (by decide) (fun q => absurd (q.symm.trans (inLw_f (a := 0) (b := 1) (by decide) (by decide) gw)) (by decide)) (fun zc7 => ?_)
  refine lv_bipush (v := (-2)) hx hb dX5_worstLoss_10 (by decide) ?_
  exact ret_i hQ hx hb hr hlocks (hP.sub [0] rfl) (hD.sub [0] (by decide) rfl) hS dX5_worstLoss_12 (rfl)
theorem iw_X5_worstLoss_5 : ∀ w ∈ u_ws RX5 TX5 13, w ∈ wsX5_worstLoss := by decide +kernel
theorem fl_X5_worstLoss_7 : Cond.fieldLink RX5 7 (TX5 0).1 (TX5 0).2.1 (TX5 0).2.2.1 ∈ wsX5_worstLoss := by decide +kernel
set_option maxHeartbeats 400000 in
set_option maxRecDepth 100000 in
theorem c_X5_worstLoss_ok (l : Launch) (E : EE) (sz : Nat) (mo mA mK mH mS mV mF mP mR : Nat) (hy pl sp nu rm : Int32) (n k : Nat) (Al : Nat → Int32) (w : Nat) (gA0 : Al 0 = nI n) (gn : n ≤ 16) (gA1 : Al 1 = nI k) (gk : k ≤ 30) (gok : okA Al k) (gw : w ≤ 1) : Ci l yX5_worstLoss wsX5_worstLoss 4 91 E [.ref mo, .int (nI w)] [(mo, .inr (5, [.ref mA, .ref mK, .ref mH, .int hy, .ref mS, .ref mV, .ref mF, .ref mP, .int pl, .int sp, .int nu, .ref mR, .int rm])), (mA, aI E 92 Al)] sz (if w = 0 then (wlM Al k k).1 else (wlM Al k k).2) [(mo, .inr (5, [.ref mA, .ref mK, .ref mH, .int hy, .ref mS, .ref mV, .ref mF, .ref mP, .int pl, .int sp, .int nu, .ref mR, .int rm])), (mA, aI E 92 Al)] := by
  refine C_of (QQ := QI E (if w = 0 then (wlM Al k k).1 else (wlM Al k k).2) [(mo, .inr (5, [.ref mA, .ref mK, .ref mH, .int hy, .ref mS, .ref mV, .ref mF, .ref mP, .int pl, .int sp, .int nu, .ref mR, .int rm])), (mA, aI E 92 Al)]) (cc := cX5_worstLoss) (maxL := 6) (ret := (some .int)) (by decide +kernel) rfl (Nat.le_of_ble_eq_true rfl) ?_
  intro p e s m args below meth c A R Q ls hx hb hr hts hown hml hlocks hA hK hN hP hD hS hl hR hQ
  have hown : s.vm.findClass RX5 = some m.cls := hown
  have hl : lv_has ls 6 [(0, .ref mo), (1, .int (nI w))] := hl
  refine lv_iload_n hx hb dX5_worstLoss_0 rfl (lv_at hl 1 rfl) ?_
  refine lv_i2l hx hb dX5_worstLoss_1 rfl ?_
  refine lv_lconst (v := 0) hx hb dX5_worstLoss_2 (by decide) ?_
  refine lv_lconst (v := 1) hx hb dX5_worstLoss_3 (by decide) ?_
  refine kS_i (E := E) (As := [.long ((nI w).toInt64), .long ((0 : Int64)), .long ((1 : Int64))]) (rest := []) (wr := [(mo, .inr (5, [.ref mA, .ref mK, .ref mH, .int hy, .ref mS, .ref mV, .ref mF, .ref mP, .int pl, .int sp, .int nu, .ref mR, .int rm])), (mA, aI E 92 Al)]) ⟨hx, hb, hml, hown, hts⟩ (c_X5_in (l := l) (E := E) (sz := _) (v := (nI w).toInt64) (lo9 := (0 : Int64)) (hi9 := (1 : Int64)) ) (cwS 3 hts gX5_worstLoss_X5_in rfl rfl rfl (by decide +kernel) ⟨by rw [hR]; decide, by rw [hR]; decide⟩) hK hN hP hD hS hA [] [0, 1] rfl (by decide) rfl (by decide) (by decide) rfl hl.1 rfl (Nat.le_of_ble_eq_true rfl) dX5_worstLoss_4 ⟨Nat.zero_le _, Nat.zero_le _⟩ (fun H locs hP hD hS => ?_)
  have hP : va_P E.1 vwCl [(mo, .inr (5, [.ref mA, .ref mK, .ref mH, .int hy, .ref mS, .ref mV, .ref mF, .ref mP, .int pl, .int sp, .int nu, .ref mR, .int rm])), (mA, aI E 92 Al)] H := hP
  have hD : va_D A [(mo, .inr (5, [.ref mA, .ref mK, .ref mH, .int hy, .ref mS, .ref mV, .ref mF, .ref mP, .int pl, .int sp, .int nu, .ref mR, .int rm])), (mA, aI E 92 Al)] := hD
  refine rk_if_neB (tgt := 13) hx hb dX5_worstLoss_7 (by decide) (fun zc7 => ?_) (fun q => absurd (q.symm.trans (inLn_t (a := 0) (b := 1) (by decide) (by omega) gw)) (by decide))
  refine lv_bipush (v := (-6)) hx hb dX5_worstLoss_13 (by decide) ?_
  refine lv_istore_n (lv' := [(2, .int ((-6))), (0, .ref mo), (1, .int (nI w))]) hx hb dX5_worstLoss_15 rfl hl (by decide) rfl (fun ls hl => ?_)
  refine lv_bipush (v := (-6)) hx hb dX5_worstLoss_16 (by decide) ?_
  refine lv_istore_n (lv' := [(3, .int ((-6))), (2, .int ((-6))), (0, .ref mo), (1, .int (nI w))]) hx hb dX5_worstLoss_18 rfl hl (by decide) rfl (fun ls hl => ?_)
  refine lv_iconst (v := nI 0) hx hb dX5_worstLoss_19 (by decide) ?_
  refine lv_istore (lv' := [(4, .int (nI 0)), (3, .int ((-6))), (2, .int ((-6))), (0, .ref mo), (1, .int (nI w))]) hx hb dX5_worstLoss_20 hl (by decide) rfl (fun ls hl => ?_)
  have L22 : ∀ (fu : Nat) (ws mt : Int32) (i : Nat), (ew : ws = (wlM Al k i).1) → (em : mt = (wlM Al k i).2) → (gi : i ≤ k) → k - i < fu → ∀ (H : Heap) (locs : List Loc), va_P E.1 vwCl [(mo, .inr (5, [.ref mA, .ref mK, .ref mH, .int hy, .ref mS, .ref mV, .ref mF, .ref mP, .int pl, .int sp, .int nu, .ref mR, .int rm])), (mA, aI E 92 Al)] H → va_D A [(mo, .inr (5, [.ref mA, .ref mK, .ref mH, .int hy, .ref mS, .ref mV, .ref mF, .ref mP, .int pl, .int sp, .int nu, .ref mR, .int rm])), (mA, aI E 92 Al)] → va_S A s.heap H locs → ∀ (ls : Array Slot), lv_has ls 6 [(4, .int (nI i)), (3, .int mt), (2, .int ws), (0, .ref mo), (1, .int (nI w))] → W p l e R s m args below meth c H locs 0 0 Q (F0 m 22 ls []) := by
    intro fu
    induction fu with
    | zero => intro ws mt i ew em gi hfu; exact absurd hfu (Nat.not_lt_zero _)
    | succ fu ih22 =>
      intro ws mt i ew em gi hfu H locs hP hD hS ls hl
      refine lv_iload hx hb dX5_worstLoss_22 (lv_at hl 0 rfl) ?_
      refine lv_aload_n hx hb dX5_worstLoss_24 rfl (lv_at hl 3 rfl) ?_
      refine rk_get (ci := 5) (C := RX5) (T := TX5) (N := 13) hx hb hts iw_X5_worstLoss_5 hown hK hP 0 rfl rfl 0 (by decide) fl_X5_worstLoss_7 rfl (v := .ref mA) rfl dX5_worstLoss_25 ?_
      refine lv_iconst (v := nI 1) hx hb dX5_worstLoss_28 (by decide) ?_
      refine rk_iald hx hb hK hP 1 rfl (by omega) (by omega) (v := nI k) (by exact gA1) dX5_worstLoss_29 ?_
      refine rk_geN (tgt := 73) hx hb (by omega) (by omega) dX5_worstLoss_30 (by decide) (fun zc30 => ?_) (fun zc30 => ?_)
      · refine lv_iload_n hx hb dX5_worstLoss_73 rfl (lv_at hl 4 rfl) ?_
        refine rk_if_neN (tgt := 81) hx hb (by omega) dX5_worstLoss_74 (by decide) (fun zc74 => ?_) (fun zc74 => ?_)
        · refine lv_iload_n hx hb dX5_worstLoss_81 rfl (lv_at hl 1 rfl) ?_
          exact ret_i hQ hx hb hr hlocks (hP.sub [0, 1] rfl) (hD.sub [0, 1] (by decide) rfl) hS dX5_worstLoss_82 (by obtain rfl : k = i := (by omega); rw [← ew, ← em]; exact (if_neg zc74).symm)
        · refine lv_iload_n hx hb dX5_worstLoss_77 rfl (lv_at hl 2 rfl) ?_
          refine lv_goto (tgt := 82) hx hb dX5_worstLoss_78 (by decide) ?_
          exact ret_i hQ hx hb hr hlocks (hP.sub [0, 1] rfl) (hD.sub [0, 1] (by decide) rfl) hS dX5_worstLoss_82 (by obtain rfl : k = i := (by omega); rw [← ew, ← em]; exact (if_pos zc74).symm)
      · refine lv_aload_n hx hb dX5_worstLoss_33 rfl (lv_at hl 3 rfl) ?_
        refine lv_iload hx hb dX5_worstLoss_34 (lv_at hl 0 rfl) ?_
        refine kV_i (E := E) (As := [.int (nI i)]) (rest := []) (wr := []) ⟨hx, hb, hml, hown, hts⟩ (c_X5_pairsLost (l := l) (E := E) (sz := _) (mo := mo) (mA := mA) (mK := mK) (mH := mH) (mS := mS) (mV := mV) (mF := mF) (mP := mP) (mR := mR) (hy := hy) (pl := pl) (sp := sp) (nu := nu) (rm := rm) (n := n) (k := k) (Al := Al) (r := i) (gA1 := by first | assumption | omega) (gk := by first | assumption | omega) (gok := by first | assumption | omega) (gr := by first | assumption | omega)) (cwV 1 hts gX5_worstLoss_X5_pairsLost rfl rfl rfl (by decide +kernel) ⟨by rw [hR]; decide, by rw [hR]; decide⟩) hK hN hP hD hS hA [0, 1] [] rfl (by decide) rfl (by decide) (by decide) 0 5 rfl rfl rfl hl.1 rfl (Nat.le_of_ble_eq_true rfl) dX5_worstLoss_36 ⟨Nat.zero_le _, Nat.zero_le _⟩ (fun H locs hP hD hS => ?_)
        have hP : va_P E.1 vwCl [(mo, .inr (5, [.ref mA, .ref mK, .ref mH, .int hy, .ref mS, .ref mV, .ref mF, .ref mP, .int pl, .int sp, .int nu, .ref mR, .int rm])), (mA, aI E 92 Al)] H := hP
        have hD : va_D A [(mo, .inr (5, [.ref mA, .ref mK, .ref mH, .int hy, .ref mS, .ref mV, .ref mF, .ref mP, .int pl, .int sp, .int nu, .ref mR, .int rm])), (mA, aI E 92 Al)] := hD
        refine lv_istore (lv' := [(5, .int (nI (plM Al k i))), (4, .int (nI i)), (3, .int mt), (2, .int ws), (0, .ref mo), (1, .int (nI w))]) hx hb dX5_worstLoss_39 hl (by decide) rfl (fun ls hl => ?_)
        refine lv_iload hx hb dX5_worstLoss_41 (lv_at hl 0 rfl) ?_
        refine lv_iload_n hx hb dX5_worstLoss_43 rfl (lv_at hl 2 rfl) ?_
        refine lv_icmp_le (tgt := 52) hx hb dX5_worstLoss_44 (by decide) (fun zc44 => ?_) (fun zc44 => ?_)
        · refine lv_iload_n hx hb dX5_worstLoss_52 rfl (lv_at hl 3 rfl) ?_
          refine lv_istore_n (lv' := [(2, .int ws), (5, .int (nI (plM Al k i))), (4, .int (nI i)), (3, .int mt), (0, .ref mo), (1, .int (nI w))]) hx hb dX5_worstLoss_53 rfl hl (by decide) rfl (fun ls hl => ?_)
          refine lv_iload hx hb dX5_worstLoss_54 (lv_at hl 1 rfl) ?_
          refine lv_iload_n hx hb dX5_worstLoss_56 rfl (lv_at hl 3 rfl) ?_
          refine lv_icmp_le (tgt := 65) hx hb dX5_worstLoss_57 (by decide) (fun zc57 => ?_) (fun q => absurd zc44 q)
          refine lv_iload_n hx hb dX5_worstLoss_65 rfl (lv_at hl 3 rfl) ?_
          refine lv_istore_n (lv' := [(3, .int mt), (2, .int ws), (5, .int (nI (plM Al k i))), (4, .int (nI i)), (0, .ref mo), (1, .int (nI w))]) hx hb dX5_worstLoss_66 rfl hl (by decide) rfl (fun ls hl => ?_)
          refine lv_iinc (v := nI (i + 1)) (lv' := [(4, .int (nI (i + 1))), (3, .int mt), (2, .int ws), (5, .int (nI (plM Al k i))), (0, .ref mo), (1, .int (nI w))]) hx hb dX5_worstLoss_67 hl (k := 3) rfl (by rw [show Int32.ofInt 1 = nI 1 by decide]; exact nI_add _ _) (by decide) rfl (fun ls hl => ?_)
          refine lv_goto (tgt := 22) hx hb dX5_worstLoss_70 (by decide) ?_
          exact ih22 ws mt (i + 1) (by subst ew; subst em; rw [wlM_f zc44]) (by subst ew; subst em; rw [wlM_f zc44]) (by first | assumption | omega | rfl) (by omega) _ _ (hP.sub [0, 1] rfl) (hD.sub [0, 1] (by decide) rfl) hS ls (lv_sub hl [0, 1, 2, 4, 5] rfl)
        · refine lv_iload hx hb dX5_worstLoss_47 (lv_at hl 1 rfl) ?_
          refine lv_goto (tgt := 53) hx hb dX5_worstLoss_49 (by decide) ?_
          refine lv_istore_n (lv' := [(2, .int (nI i)), (5, .int (nI (plM Al k i))), (4, .int (nI i)), (3, .int mt), (0, .ref mo), (1, .int (nI w))]) hx hb dX5_worstLoss_53 rfl hl (by decide) rfl (fun ls hl => ?_)
          refine lv_iload hx hb dX5_worstLoss_54 (lv_at hl 1 rfl) ?_
          refine lv_iload_n hx hb dX5_worstLoss_56 rfl (lv_at hl 3 rfl) ?_
          refine lv_icmp_le (tgt := 65) hx hb dX5_worstLoss_57 (by decide) (fun q => absurd q zc44) (fun zc57 => ?_)
          refine lv_iload hx hb dX5_worstLoss_60 (lv_at hl 1 rfl) ?_
          refine lv_goto (tgt := 66) hx hb dX5_worstLoss_62 (by decide) ?_
          refine lv_istore_n (lv' := [(3, .int (nI (plM Al k i))), (2, .int (nI i)), (5, .int (nI (plM Al k i))), (4, .int (nI i)), (0, .ref mo), (1, .int (nI w))]) hx hb dX5_worstLoss_66 rfl hl (by decide) rfl (fun ls hl => ?_)
          refine lv_iinc (v := nI (i + 1)) (lv' := [(4, .int (nI (i + 1))), (3, .int (nI (plM Al k i))), (2, .int (nI i)), (5, .int (nI (plM Al k i))), (0, .ref mo), (1, .int (nI w))]) hx hb dX5_worstLoss_67 hl (k := 3) rfl (by rw [show Int32.ofInt 1 = nI 1 by decide]; exact nI_add _ _) (by decide) rfl (fun ls hl => ?_)
          refine lv_goto (tgt := 22) hx hb dX5_worstLoss_70 (by decide) ?_
          exact ih22 (nI i) (nI (plM Al k i)) (i + 1) (by subst ew; subst em; rw [wlM_t zc44]) (by subst ew; subst em; rw [wlM_t zc44]) (by first | assumption | omega | rfl) (by omega) _ _ (hP.sub [0, 1] rfl) (hD.sub [0, 1] (by decide) rfl) hS ls (lv_sub hl [0, 1, 2, 4, 5] rfl)
  exact L22 ((k - 0) + 1) ((-6)) ((-6)) 0 (rfl) (rfl) (by first | assumption | omega | rfl) (Nat.lt_succ_self _) _ _ (hP.sub [0, 1] rfl) (hD.sub [0, 1] (by decide) rfl) hS ls (lv_sub hl [0, 1, 2, 3, 4] rfl)
set_option maxHeartbeats 400000 in
set_option maxRecDepth 100000 in
theorem c_X5_needed_bad (l : Launch) (E : EE) (sz : Nat) (mo mA mK mH mS mV mF mP mR : Nat) (hy pl sp nu rm : Int32) (n k : Nat) (Al : Nat → Int32) (x : Int32) (gA0 : Al 0 = nI n) (gn : n ≤ 16) (gb : inR x (nI n) = false) : Ci l yX5_needed wsX5_needed 2 46 E [.ref mo, .int x] [(mo, .inr (5, [.ref mA, .ref mK, .ref mH, .int hy, .ref mS, .ref mV, .ref mF, .ref mP, .int pl, .int sp, .int nu, .ref mR, .int rm])), (mA, aI E 92 Al)] sz (-1) [(mo, .inr (5, [.ref mA, .ref mK, .ref mH, .int hy, .ref mS, .ref mV, .ref mF, .ref mP, .int pl, .int sp, .int nu, .ref mR, .int rm])), (mA, aI E 92 Al)] := by
  refine C_of (QQ := QI E (-1) [(mo, .inr (5, [.ref mA, .ref mK, .ref mH, .int hy, .ref mS, .ref mV, .ref mF, .ref mP, .int pl, .int sp, .int nu, .ref mR, .int rm])), (mA, aI E 92 Al)]) (cc := cX5_needed) (maxL := 7) (ret := (some .int)) (by decide +kernel) rfl (Nat.le_of_ble_eq_true rfl) ?_
  intro p e s m args below meth c A R Q ls hx hb hr hts hown hml hlocks hA hK hN hP hD hS hl hR hQ
  have hown : s.vm.findClass RX5 = some m.cls := hown
  have hl : lv_has ls 7 [(0, .ref mo), (1, .int x)] := hl
  refine lv_aload_n hx hb dX5_needed_0 rfl (lv_at hl 0 rfl) ?_
  refine lv_iload_n hx hb dX5_needed_1 rfl (lv_at hl 1 rfl) ?_
  refine kV_i (E := E) (As := [.int x]) (rest := []) (wr := []) ⟨hx, hb, hml, hown, hts⟩ (c_X5_isSquare (l := l) (E := E) (sz := _) (mo := mo) (mA := mA) (mK := mK) (mH := mH) (mS := mS) (mV := mV) (mF := mF) (mP := mP) (mR := mR) (hy := hy) (pl := pl) (sp := sp) (nu := nu) (rm := rm) (n := n) (k := k) (Al := Al) (x := x) (gA0 := by first | assumption | omega) (gn := by first | assumption | omega)) (cwV 1 hts gX5_needed_X5_isSquare rfl rfl rfl (by decide +kernel) ⟨by rw [hR]; decide, by rw [hR]; decide⟩) hK hN hP hD hS hA [0, 1] [] rfl (by decide) rfl (by decide) (by decide) 0 5 rfl rfl rfl hl.1 rfl (Nat.le_of_ble_eq_true rfl) dX5_needed_2 ⟨Nat.zero_le _, Nat.zero_le _⟩ (fun H locs hP hD hS => ?_)
  have hP : va_P E.1 vwCl [(mo, .inr (5, [.ref mA, .ref mK, .ref mH, .int hy, .ref mS, .ref mV, .ref mF, .ref mP, .int pl, .int sp, .int nu, .ref mR, .int rm])), (mA, aI E 92 Al)] H := hP
  have hD : va_D A [(mo, .inr (5, [.ref mA, .ref mK, .ref mH, .int hy, .ref mS, .ref mV, .ref mF, .ref mP, .int pl, .int sp, .int nu, .ref mR, .int rm])), (mA, aI E 92 Al)] := hD
  refine rk_if_neB (tgt := 10) hx hb dX5_needed_5 (by decide) (fun q => absurd q (by rw [gb]; decide)) (fun zc5 => ?_)
  refine lv_iconst (v := (-1)) hx hb dX5_needed_8 (by decide) ?_
  exact ret_i hQ hx hb hr hlocks (hP.sub [0, 1] rfl) (hD.sub [0, 1] (by decide) rfl) hS dX5_needed_9 (rfl)
set_option maxHeartbeats 400000 in
set_option maxRecDepth 100000 in
theorem c_X5_needed_ok (l : Launch) (E : EE) (sz : Nat) (mo mA mK mH mS mV mF mP mR : Nat) (hy pl sp nu rm : Int32) (n k : Nat) (Al : Nat → Int32) (x : Nat) (gA0 : Al 0 = nI n) (gn : n ≤ 16) (gA1 : Al 1 = nI k) (gk : k ≤ 30) (gok : okA Al k) (gx : x < n) : Ci l yX5_needed wsX5_needed 6 136 E [.ref mo, .int (nI x)] [(mo, .inr (5, [.ref mA, .ref mK, .ref mH, .int hy, .ref mS, .ref mV, .ref mF, .ref mP, .int pl, .int sp, .int nu, .ref mR, .int rm])), (mA, aI E 92 Al)] sz (nI ((ndM Al k n (rsM Al (nI 0) (-6) k x) (dbM Al k n) + 1) / 2)) [(mo, .inr (5, [.ref mA, .ref mK, .ref mH, .int hy, .ref mS, .ref mV, .ref mF, .ref mP, .int pl, .int sp, .int nu, .ref mR, .int rm])), (mA, aI E 92 Al)] := by
  refine C_of (QQ := QI E (nI ((ndM Al k n (rsM Al (nI 0) (-6) k x) (dbM Al k n) + 1) / 2)) [(mo, .inr (5, [.ref mA, .ref mK, .ref mH, .int hy, .ref mS, .ref mV, .ref mF, .ref mP, .int pl, .int sp, .int nu, .ref mR, .int rm])), (mA, aI E 92 Al)]) (cc := cX5_needed) (maxL := 7) (ret := (some .int)) (by decide +kernel) rfl (Nat.le_of_ble_eq_true rfl) ?_
  intro p e s m args below meth c A R Q ls hx hb hr hts hown hml hlocks hA hK hN hP hD hS hl hR hQ
  have hown : s.vm.findClass RX5 = some m.cls := hown
  have hl : lv_has ls 7 [(0, .ref mo), (1, .int (nI x))] := hl
  refine lv_aload_n hx hb dX5_needed_0 rfl (lv_at hl 0 rfl) ?_
  refine lv_iload_n hx hb dX5_needed_1 rfl (lv_at hl 1 rfl) ?_
  refine kV_i (E := E) (As := [.int (nI x)]) (rest := []) (wr := []) ⟨hx, hb, hml, hown, hts⟩ (c_X5_isSquare (l := l) (E := E) (sz := _) (mo := mo) (mA := mA) (mK := mK) (mH := mH) (mS := mS) (mV := mV) (mF := mF) (mP := mP) (mR := mR) (hy := hy) (pl := pl) (sp := sp) (nu := nu) (rm := rm) (n := n) (k := k) (Al := Al) (x := nI x) (gA0 := by first | assumption | omega) (gn := by first | assumption | omega)) (cwV 1 hts gX5_needed_X5_isSquare rfl rfl rfl (by decide +kernel) ⟨by rw [hR]; decide, by rw [hR]; decide⟩) hK hN hP hD hS hA [0, 1] [] rfl (by decide) rfl (by decide) (by decide) 0 5 rfl rfl rfl hl.1 rfl (Nat.le_of_ble_eq_true rfl) dX5_needed_2 ⟨Nat.zero_le _, Nat.zero_le _⟩ (fun H locs hP hD hS => ?_)
  have hP : va_P E.1 vwCl [(mo, .inr (5, [.ref mA, .ref mK, .ref mH, .int hy, .ref mS, .ref mV, .ref mF, .ref mP, .int pl, .int sp, .int nu, .ref mR, .int rm])), (mA, aI E 92 Al)] H := hP
  have hD : va_D A [(mo, .inr (5, [.ref mA, .ref mK, .ref mH, .int hy, .ref mS, .ref mV, .ref mF, .ref mP, .int pl, .int sp, .int nu, .ref mR, .int rm])), (mA, aI E 92 Al)] := hD
  refine rk_if_neB (tgt := 10) hx hb dX5_needed_5 (by decide) (fun zc5 => ?_) (fun q => absurd q (by rw [inR_ok gx (by omega)]; decide))
  refine lv_aload_n hx hb dX5_needed_10 rfl (lv_at hl 0 rfl) ?_
  refine lv_iload_n hx hb dX5_needed_11 rfl (lv_at hl 1 rfl) ?_
  refine kV_i (E := E) (As := [.int (nI x)]) (rest := []) (wr := []) ⟨hx, hb, hml, hown, hts⟩ (c_X5_pieceOf (l := l) (E := E) (sz := _) (mo := mo) (mA := mA) (mK := mK) (mH := mH) (mS := mS) (mV := mV) (mF := mF) (mP := mP) (mR := mR) (hy := hy) (pl := pl) (sp := sp) (nu := nu) (rm := rm) (n := n) (k := k) (Al := Al) (q := x) (gA1 := by first | assumption | omega) (gk := by first | assumption | omega) (gok := by first | assumption | omega) (gq := by first | assumption | omega)) (cwV 1 hts gX5_needed_X5_pieceOf rfl rfl rfl (by decide +kernel) ⟨by rw [hR]; decide, by rw [hR]; decide⟩) hK hN hP hD hS hA [0, 1] [] rfl (by decide) rfl (by decide) (by decide) 0 5 rfl rfl rfl hl.1 rfl (Nat.le_of_ble_eq_true rfl) dX5_needed_12 ⟨Nat.zero_le _, Nat.zero_le _⟩ (fun H locs hP hD hS => ?_)
  have hP : va_P E.1 vwCl [(mo, .inr (5, [.ref mA, .ref mK, .ref mH, .int hy, .ref mS, .ref mV, .ref mF, .ref mP, .int pl, .int sp, .int nu, .ref mR, .int rm])), (mA, aI E 92 Al)] H := hP
  have hD : va_D A [(mo, .inr (5, [.ref mA, .ref mK, .ref mH, .int hy, .ref mS, .ref mV, .ref mF, .ref mP, .int pl, .int sp, .int nu, .ref mR, .int rm])), (mA, aI E 92 Al)] := hD
  refine lv_istore_n (lv' := [(2, .int (rsM Al (nI 0) (-6) k x)), (0, .ref mo), (1, .int (nI x))]) hx hb dX5_needed_15 rfl hl (by decide) rfl (fun ls hl => ?_)
  refine lv_iconst (v := nI 0) hx hb dX5_needed_16 (by decide) ?_
  refine lv_istore_n (lv' := [(3, .int (nI 0)), (2, .int (rsM Al (nI 0) (-6) k x)), (0, .ref mo), (1, .int (nI x))]) hx hb dX5_needed_17 rfl hl (by decide) rfl (fun ls hl => ?_)
  have gdb : dbM Al k n ≤ n := pwM_le _ _ _
  refine lv_aload_n hx hb dX5_needed_18 rfl (lv_at hl 2 rfl) ?_
  refine kV_i (E := E) (As := []) (rest := []) (wr := []) ⟨hx, hb, hml, hown, hts⟩ (c_X5_districts (l := l) (E := E) (sz := _) (mo := mo) (mA := mA) (mK := mK) (mH := mH) (mS := mS) (mV := mV) (mF := mF) (mP := mP) (mR := mR) (hy := hy) (pl := pl) (sp := sp) (nu := nu) (rm := rm) (n := n) (k := k) (Al := Al) (gA0 := by first | assumption | omega) (gn := by first | assumption | omega) (gA1 := by first | assumption | omega) (gk := by first | assumption | omega) (gok := by first | assumption | omega)) (cwV 0 hts gX5_needed_X5_districts rfl rfl rfl (by decide +kernel) ⟨by rw [hR]; decide, by rw [hR]; decide⟩) hK hN hP hD hS hA [0, 1] [] rfl (by decide) rfl (by decide) (by decide) 0 5 rfl rfl rfl hl.1 rfl (Nat.le_of_ble_eq_true rfl) dX5_needed_19 ⟨Nat.zero_le _, Nat.zero_le _⟩ (fun H locs hP hD hS => ?_)
  have hP : va_P E.1 vwCl [(mo, .inr (5, [.ref mA, .ref mK, .ref mH, .int hy, .ref mS, .ref mV, .ref mF, .ref mP, .int pl, .int sp, .int nu, .ref mR, .int rm])), (mA, aI E 92 Al)] H := hP
  have hD : va_D A [(mo, .inr (5, [.ref mA, .ref mK, .ref mH, .int hy, .ref mS, .ref mV, .ref mF, .ref mP, .int pl, .int sp, .int nu, .ref mR, .int rm])), (mA, aI E 92 Al)] := hD
  refine lv_istore (lv' := [(4, .int (nI (dbM Al k n))), (3, .int (nI 0)), (2, .int (rsM Al (nI 0) (-6) k x)), (0, .ref mo), (1, .int (nI x))]) hx hb dX5_needed_22 hl (by decide) rfl (fun ls hl => ?_)
  refine lv_iconst (v := nI 0) hx hb dX5_needed_24 (by decide) ?_
  refine lv_istore (lv' := [(5, .int (nI 0)), (4, .int (nI (dbM Al k n))), (3, .int (nI 0)), (2, .int (rsM Al (nI 0) (-6) k x)), (0, .ref mo), (1, .int (nI x))]) hx hb dX5_needed_25 hl (by decide) rfl (fun ls hl => ?_)
  have L27 : ∀ (fu : Nat) (cn d : Nat), (ec : cn = ndM Al k n (rsM Al (nI 0) (-6) k x) d) → (gd9 : d ≤ dbM Al k n) → dbM Al k n - d < fu → ∀ (H : Heap) (locs : List Loc), va_P E.1 vwCl [(mo, .inr (5, [.ref mA, .ref mK, .ref mH, .int hy, .ref mS, .ref mV, .ref mF, .ref mP, .int pl, .int sp, .int nu, .ref mR, .int rm])), (mA, aI E 92 Al)] H → va_D A [(mo, .inr (5, [.ref mA, .ref mK, .ref mH, .int hy, .ref mS, .ref mV, .ref mF, .ref mP, .int pl, .int sp, .int nu, .ref mR, .int rm])), (mA, aI E 92 Al)] → va_S A s.heap H locs → ∀ (ls : Array Slot), lv_has ls 7 [(5, .int (nI d)), (4, .int (nI (dbM Al k n))), (3, .int (nI cn)), (2, .int (rsM Al (nI 0) (-6) k x)), (0, .ref mo), (1, .int (nI x))] → W p l e R s m args below meth c H locs 0 0 Q (F0 m 27 ls []) := by
    intro fu
    induction fu with
    | zero => intro cn d ec gd9 hfu; exact absurd hfu (Nat.not_lt_zero _)
    | succ fu ih27 =>
      intro cn d ec gd9 hfu H locs hP hD hS ls hl
      refine lv_iload hx hb dX5_needed_27 (lv_at hl 0 rfl) ?_
      refine lv_iload hx hb dX5_needed_29 (lv_at hl 1 rfl) ?_
      refine rk_geN (tgt := 73) hx hb (by omega) (by omega) dX5_needed_31 (by decide) (fun zc31 => ?_) (fun zc31 => ?_)
      · have gnd := ndM_le Al k n (rsM Al (nI 0) (-6) k x) (dbM Al k n)
        have ed9 : cn = ndM Al k n (rsM Al (nI 0) (-6) k x) (dbM Al k n) := by rw [ec, show d = dbM Al k n by omega]
        refine lv_iload_n hx hb dX5_needed_73 rfl (lv_at hl 2 rfl) ?_
        refine lv_iconst (v := nI 1) hx hb dX5_needed_74 (by decide) ?_
        refine rk_iaddN hx hb dX5_needed_75 ?_
        refine lv_iconst (v := nI 2) hx hb dX5_needed_76 (by decide) ?_
        refine rk_idivN hx hb (by omega) (by omega) (by omega) dX5_needed_77 ?_
        exact ret_i hQ hx hb hr hlocks (hP.sub [0, 1] rfl) (hD.sub [0, 1] (by decide) rfl) hS dX5_needed_78 (by rw [ed9])
      · refine lv_aload_n hx hb dX5_needed_34 rfl (lv_at hl 4 rfl) ?_
        refine lv_iload hx hb dX5_needed_35 (lv_at hl 0 rfl) ?_
        refine kV_i (E := E) (As := [.int (nI d)]) (rest := []) (wr := []) ⟨hx, hb, hml, hown, hts⟩ (c_X5_squaresOf (l := l) (E := E) (sz := _) (mo := mo) (mA := mA) (mK := mK) (mH := mH) (mS := mS) (mV := mV) (mF := mF) (mP := mP) (mR := mR) (hy := hy) (pl := pl) (sp := sp) (nu := nu) (rm := rm) (n := n) (k := k) (Al := Al) (d := d) (gA0 := by first | assumption | omega) (gn := by first | assumption | omega) (gA1 := by first | assumption | omega) (gk := by first | assumption | omega) (gok := by first | assumption | omega) (gd := by first | assumption | omega)) (cwV 1 hts gX5_needed_X5_squaresOf rfl rfl rfl (by decide +kernel) ⟨by rw [hR]; decide, by rw [hR]; decide⟩) hK hN hP hD hS hA [0, 1] [] rfl (by decide) rfl (by decide) (by decide) 0 5 rfl rfl rfl hl.1 rfl (Nat.le_of_ble_eq_true rfl) dX5_needed_37 ⟨Nat.zero_le _, Nat.zero_le _⟩ (fun H locs hP hD hS => ?_)
        have hP : va_P E.1 vwCl [(mo, .inr (5, [.ref mA, .ref mK, .ref mH, .int hy, .ref mS, .ref mV, .ref mF, .ref mP, .int pl, .int sp, .int nu, .ref mR, .int rm])), (mA, aI E 92 Al)] H := hP
        have hD : va_D A [(mo, .inr (5, [.ref mA, .ref mK, .ref mH, .int hy, .ref mS, .ref mV, .ref mF, .ref mP, .int pl, .int sp, .int nu, .ref mR, .int rm])), (mA, aI E 92 Al)] := hD
        refine lv_istore (lv' := [(6, .int (sqM Al k n d)), (5, .int (nI d)), (4, .int (nI (dbM Al k n))), (3, .int (nI cn)), (2, .int (rsM Al (nI 0) (-6) k x)), (0, .ref mo), (1, .int (nI x))]) hx hb dX5_needed_40 hl (by decide) rfl (fun ls hl => ?_)
        refine lv_iload_n hx hb dX5_needed_42 rfl (lv_at hl 3 rfl) ?_
        refine lv_iload hx hb dX5_needed_43 (lv_at hl 0 rfl) ?_
        refine lv_iload_n hx hb dX5_needed_45 rfl (lv_at hl 4 rfl) ?_
        refine lv_iand hx hb dX5_needed_46 ?_
        refine lv_if_eq (tgt := 64) hx hb dX5_needed_47 (by decide) (fun zc47 => ?_) (fun zc47 => ?_)
        · refine lv_iconst (v := nI 0) hx hb dX5_needed_64 (by decide) ?_
          refine rk_iaddN hx hb dX5_needed_65 ?_
          refine lv_istore_n (lv' := [(3, .int (nI (cn + 0))), (6, .int (sqM Al k n d)), (5, .int (nI d)), (4, .int (nI (dbM Al k n))), (2, .int (rsM Al (nI 0) (-6) k x)), (0, .ref mo), (1, .int (nI x))]) hx hb dX5_needed_66 rfl hl (by decide) rfl (fun ls hl => ?_)
          refine lv_iinc (v := nI (d + 1)) (lv' := [(5, .int (nI (d + 1))), (3, .int (nI (cn + 0))), (6, .int (sqM Al k n d)), (4, .int (nI (dbM Al k n))), (2, .int (rsM Al (nI 0) (-6) k x)), (0, .ref mo), (1, .int (nI x))]) hx hb dX5_needed_67 hl (k := 2) rfl (by rw [show Int32.ofInt 1 = nI 1 by decide]; exact nI_add _ _) (by decide) rfl (fun ls hl => ?_)
          refine lv_goto (tgt := 27) hx hb dX5_needed_70 (by decide) ?_
          exact ih27 (cn + 0) (d + 1) (by subst ec; simp only [ndM]; exact (ifn1 (fun q9 => q9 zc47)).symm) (by first | assumption | omega | rfl) (by omega) _ _ (hP.sub [0, 1] rfl) (hD.sub [0, 1] (by decide) rfl) hS ls (lv_sub hl [0, 3, 1, 4, 5, 6] rfl)
        · refine lv_aload_n hx hb dX5_needed_50 rfl (lv_at hl 5 rfl) ?_
          refine lv_iload hx hb dX5_needed_51 (lv_at hl 0 rfl) ?_
          refine kV_i (E := E) (As := [.int (sqM Al k n d)]) (rest := [.int (nI cn)]) (wr := []) ⟨hx, hb, hml, hown, hts⟩ (c_X5_roadsOut (l := l) (E := E) (sz := _) (mo := mo) (mA := mA) (mK := mK) (mH := mH) (mS := mS) (mV := mV) (mF := mF) (mP := mP) (mR := mR) (hy := hy) (pl := pl) (sp := sp) (nu := nu) (rm := rm) (n := n) (k := k) (Al := Al) (x := sqM Al k n d) (gA1 := by first | assumption | omega) (gk := by first | assumption | omega) (gok := by first | assumption | omega)) (cwV 1 hts gX5_needed_X5_roadsOut rfl rfl rfl (by decide +kernel) ⟨by rw [hR]; decide, by rw [hR]; decide⟩) hK hN hP hD hS hA [0, 1] [] rfl (by decide) rfl (by decide) (by decide) 0 5 rfl rfl rfl hl.1 rfl (Nat.le_of_ble_eq_true rfl) dX5_needed_53 ⟨Nat.zero_le _, Nat.zero_le _⟩ (fun H locs hP hD hS => ?_)
          have hP : va_P E.1 vwCl [(mo, .inr (5, [.ref mA, .ref mK, .ref mH, .int hy, .ref mS, .ref mV, .ref mF, .ref mP, .int pl, .int sp, .int nu, .ref mR, .int rm])), (mA, aI E 92 Al)] H := hP
          have hD : va_D A [(mo, .inr (5, [.ref mA, .ref mK, .ref mH, .int hy, .ref mS, .ref mV, .ref mF, .ref mP, .int pl, .int sp, .int nu, .ref mR, .int rm])), (mA, aI E 92 Al)] := hD
          refine lv_iconst (v := nI 1) hx hb dX5_needed_56 (by decide) ?_
          refine rk_neN (tgt := 64) hx hb (by have h9 := roM_le Al (sqM Al k n d) k; omega) (by omega) dX5_needed_57 (by decide) (fun zc57 => ?_) (fun zc57 => ?_)
          · refine lv_iconst (v := nI 0) hx hb dX5_needed_64 (by decide) ?_
            refine rk_iaddN hx hb dX5_needed_65 ?_
            refine lv_istore_n (lv' := [(3, .int (nI (cn + 0))), (6, .int (sqM Al k n d)), (5, .int (nI d)), (4, .int (nI (dbM Al k n))), (2, .int (rsM Al (nI 0) (-6) k x)), (0, .ref mo), (1, .int (nI x))]) hx hb dX5_needed_66 rfl hl (by decide) rfl (fun ls hl => ?_)
            refine lv_iinc (v := nI (d + 1)) (lv' := [(5, .int (nI (d + 1))), (3, .int (nI (cn + 0))), (6, .int (sqM Al k n d)), (4, .int (nI (dbM Al k n))), (2, .int (rsM Al (nI 0) (-6) k x)), (0, .ref mo), (1, .int (nI x))]) hx hb dX5_needed_67 hl (k := 2) rfl (by rw [show Int32.ofInt 1 = nI 1 by decide]; exact nI_add _ _) (by decide) rfl (fun ls hl => ?_)
            refine lv_goto (tgt := 27) hx hb dX5_needed_70 (by decide) ?_
            exact ih27 (cn + 0) (d + 1) (by subst ec; simp only [ndM]; exact (ifn2 zc57).symm) (by first | assumption | omega | rfl) (by omega) _ _ (hP.sub [0, 1] rfl) (hD.sub [0, 1] (by decide) rfl) hS ls (lv_sub hl [0, 3, 1, 4, 5, 6] rfl)
          · refine lv_iconst (v := nI 1) hx hb dX5_needed_60 (by decide) ?_
            refine lv_goto (tgt := 65) hx hb dX5_needed_61 (by decide) ?_
            refine rk_iaddN hx hb dX5_needed_65 ?_
            refine lv_istore_n (lv' := [(3, .int (nI (cn + 1))), (6, .int (sqM Al k n d)), (5, .int (nI d)), (4, .int (nI (dbM Al k n))), (2, .int (rsM Al (nI 0) (-6) k x)), (0, .ref mo), (1, .int (nI x))]) hx hb dX5_needed_66 rfl hl (by decide) rfl (fun ls hl => ?_)
            refine lv_iinc (v := nI (d + 1)) (lv' := [(5, .int (nI (d + 1))), (3, .int (nI (cn + 1))), (6, .int (sqM Al k n d)), (4, .int (nI (dbM Al k n))), (2, .int (rsM Al (nI 0) (-6) k x)), (0, .ref mo), (1, .int (nI x))]) hx hb dX5_needed_67 hl (k := 2) rfl (by rw [show Int32.ofInt 1 = nI 1 by decide]; exact nI_add _ _) (by decide) rfl (fun ls hl => ?_)
            refine lv_goto (tgt := 27) hx hb dX5_needed_70 (by decide) ?_
            exact ih27 (cn + 1) (d + 1) (by subst ec; simp only [ndM]; exact (if_pos (And.intro zc47 zc57)).symm) (by first | assumption | omega | rfl) (by omega) _ _ (hP.sub [0, 1] rfl) (hD.sub [0, 1] (by decide) rfl) hS ls (lv_sub hl [0, 3, 1, 4, 5, 6] rfl)
  exact L27 ((dbM Al k n - 0) + 1) 0 0 (rfl) (by first | assumption | omega | rfl) (Nat.lt_succ_self _) _ _ (hP.sub [0, 1] rfl) (hD.sub [0, 1] (by decide) rfl) hS ls (lv_sub hl [0, 1, 2, 3, 4, 5] rfl)
