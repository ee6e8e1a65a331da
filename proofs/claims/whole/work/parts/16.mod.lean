set_option maxHeartbeats 400000 in
set_option maxRecDepth 100000 in
theorem c_X5_in (l : Launch) (E : EE) (sz : Nat) (v lo9 hi9 : Int64) : Ci l yX5_in wsX5_in 0 0 E [.long v, .long lo9, .long hi9] [] sz (b2i (inL v lo9 hi9)) [] := by
  refine C_of (QQ := QI E (b2i (inL v lo9 hi9)) []) (cc := cX5_in) (maxL := 6) (ret := (some .boolean)) (by decide +kernel) rfl (Nat.le_of_ble_eq_true rfl) ?_
  intro p e s m args below meth c A R Q ls hx hb hr hts hown hml hlocks hA hK hN hP hD hS hl hR hQ
  have hown : s.vm.findClass RX5 = some m.cls := hown
  have hl : lv_has ls 6 [(0, .long v), (2, .long lo9), (4, .long hi9)] := hl
  refine lv_lload_n hx hb dX5_in_0 rfl (lv_at hl 0 rfl) ?_
  refine lv_lload_n hx hb dX5_in_1 rfl (lv_at hl 1 rfl) ?_
  refine W.lcmp hx hb dX5_in_2 ?_
  refine rk_lcmp_lt (tgt := 17) hx hb dX5_in_3 (by decide) (fun zc3 => ?_) (fun zc3 => ?_)
  · refine lv_iconst (v := nI 0) hx hb dX5_in_17 (by decide) ?_
    exact ret_z hQ hx hb hr hlocks (hP.sub [] rfl) (hD.sub [] (by decide) rfl) hS dX5_in_18 (nz_0) (by exact b2i_f (inL_f1 zc3))
  · refine lv_lload_n hx hb dX5_in_6 rfl (lv_at hl 0 rfl) ?_
    refine lv_lload hx hb dX5_in_7 (lv_at hl 2 rfl) ?_
    refine W.lcmp hx hb dX5_in_9 ?_
    refine rk_lcmp_gt (tgt := 17) hx hb dX5_in_10 (by decide) (fun zc10 => ?_) (fun zc10 => ?_)
    · refine lv_iconst (v := nI 0) hx hb dX5_in_17 (by decide) ?_
      exact ret_z hQ hx hb hr hlocks (hP.sub [] rfl) (hD.sub [] (by decide) rfl) hS dX5_in_18 (nz_0) (by exact b2i_f (inL_f2 zc10))
    · refine lv_iconst (v := nI 1) hx hb dX5_in_13 (by decide) ?_
      refine lv_goto (tgt := 18) hx hb dX5_in_14 (by decide) ?_
      exact ret_z hQ hx hb hr hlocks (hP.sub [] rfl) (hD.sub [] (by decide) rfl) hS dX5_in_18 (nz_1) (by exact b2i_t (inL_t zc3 zc10))
theorem iw_X5_keep_5 : ∀ w ∈ u_ws RX5 TX5 13, w ∈ wsX5_keep := by decide +kernel
theorem fl_X5_keep_13 : Cond.fieldLink RX5 13 (TX5 1).1 (TX5 1).2.1 (TX5 1).2.2.1 ∈ wsX5_keep := by decide +kernel
theorem fl_X5_keep_7 : Cond.fieldLink RX5 7 (TX5 0).1 (TX5 0).2.1 (TX5 0).2.2.1 ∈ wsX5_keep := by decide +kernel
set_option maxHeartbeats 400000 in
set_option maxRecDepth 100000 in
theorem c_X5_keep (l : Launch) (E : EE) (sz : Nat) (mo mA mK mH mS mV mF mP mR : Nat) (hy pl sp nu rm : Int32) (Al K : Nat → Int32) : Cv l yX5_keep wsX5_keep 0 0 E [.ref mo] [(mo, .inr (5, [.ref mA, .ref mK, .ref mH, .int hy, .ref mS, .ref mV, .ref mF, .ref mP, .int pl, .int sp, .int nu, .ref mR, .int rm])), (mA, aI E 92 Al), (mK, aI E 92 K)] sz [(mo, .inr (5, [.ref mA, .ref mK, .ref mH, .int hy, .ref mS, .ref mV, .ref mF, .ref mP, .int pl, .int sp, .int nu, .ref mR, .int rm])), (mA, aI E 92 Al), (mK, aI E 92 (lsf K Al 92))] := by
  refine C_of (QQ := QV E [(mo, .inr (5, [.ref mA, .ref mK, .ref mH, .int hy, .ref mS, .ref mV, .ref mF, .ref mP, .int pl, .int sp, .int nu, .ref mR, .int rm])), (mA, aI E 92 Al), (mK, aI E 92 (lsf K Al 92))]) (cc := cX5_keep) (maxL := 2) (ret := none) (by decide +kernel) rfl (Nat.le_of_ble_eq_true rfl) ?_
  intro p e s m args below meth c A R Q ls hx hb hr hts hown hml hlocks hA hK hN hP hD hS hl hR hQ
  have hown : s.vm.findClass RX5 = some m.cls := hown
  have hl : lv_has ls 2 [(0, .ref mo)] := hl
  refine lv_iconst (v := nI 0) hx hb dX5_keep_0 (by decide) ?_
  refine lv_istore_n (lv' := [(1, .int (nI 0)), (0, .ref mo)]) hx hb dX5_keep_1 rfl hl (by decide) rfl (fun ls hl => ?_)
  have L2 : ∀ (fu : Nat) (i : Nat) (f : Nat → Int32), (ef : f = lsf K Al i) → (gi : i ≤ 92) → 92 - i < fu → ∀ (H : Heap) (locs : List Loc), va_P E.1 vwCl [(mo, .inr (5, [.ref mA, .ref mK, .ref mH, .int hy, .ref mS, .ref mV, .ref mF, .ref mP, .int pl, .int sp, .int nu, .ref mR, .int rm])), (mA, aI E 92 Al), (mK, aI E 92 f)] H → va_D A [(mo, .inr (5, [.ref mA, .ref mK, .ref mH, .int hy, .ref mS, .ref mV, .ref mF, .ref mP, .int pl, .int sp, .int nu, .ref mR, .int rm])), (mA, aI E 92 Al), (mK, aI E 92 f)] → va_S A s.heap H locs → ∀ (ls : Array Slot), lv_has ls 2 [(1, .int (nI i)), (0, .ref mo)] → W p l e R s m args below meth c H locs 0 0 Q (F0 m 2 ls []) := by
    intro fu
    induction fu with
    | zero => intro i f ef gi hfu; exact absurd hfu (Nat.not_lt_zero _)
    | succ fu ih2 =>
      intro i f ef gi hfu H locs hP hD hS ls hl
      refine lv_iload_n hx hb dX5_keep_2 rfl (lv_at hl 0 rfl) ?_
      refine lv_bipush (v := nI 92) hx hb dX5_keep_3 (by decide) ?_
      refine rk_geN (tgt := 26) hx hb (by omega) (by omega) dX5_keep_5 (by decide) (fun zc5 => ?_) (fun zc5 => ?_)
      · obtain rfl : 92 = i := by omega
        subst ef
        exact ret_v hQ hx hb hr hlocks (hP.sub [0, 1, 2] rfl) (hD.sub [0, 1, 2] (by decide) rfl) hS dX5_keep_26
      · refine lv_aload_n hx hb dX5_keep_8 rfl (lv_at hl 1 rfl) ?_
        refine rk_get (ci := 5) (C := RX5) (T := TX5) (N := 13) hx hb hts iw_X5_keep_5 hown hK hP 0 rfl rfl 1 (by decide) fl_X5_keep_13 rfl (v := .ref mK) rfl dX5_keep_9 ?_
        refine lv_iload_n hx hb dX5_keep_12 rfl (lv_at hl 0 rfl) ?_
        refine lv_aload_n hx hb dX5_keep_13 rfl (lv_at hl 1 rfl) ?_
        refine rk_get (ci := 5) (C := RX5) (T := TX5) (N := 13) hx hb hts iw_X5_keep_5 hown hK hP 0 rfl rfl 0 (by decide) fl_X5_keep_7 rfl (v := .ref mA) rfl dX5_keep_14 ?_
        refine lv_iload_n hx hb dX5_keep_17 rfl (lv_at hl 0 rfl) ?_
        refine rk_iald hx hb hK hP 1 rfl (by omega) (by omega) (v := Al i) (rfl) dX5_keep_18 ?_
        refine rk_iast hx hb hK hP hD hS 2 rfl (by omega) (by omega) (ws' := [(mo, .inr (5, [.ref mA, .ref mK, .ref mH, .int hy, .ref mS, .ref mV, .ref mF, .ref mP, .int pl, .int sp, .int nu, .ref mR, .int rm])), (mA, aI E 92 Al), (mK, aI E 92 (upd f i (Al i)))]) rfl dX5_keep_19 (fun H locs hP hD hS => ?_)
        refine lv_iinc (v := nI (i + 1)) (lv' := [(1, .int (nI (i + 1))), (0, .ref mo)]) hx hb dX5_keep_20 hl (k := 0) rfl (by rw [show Int32.ofInt 1 = nI 1 by decide]; exact nI_add _ _) (by decide) rfl (fun ls hl => ?_)
        refine lv_goto (tgt := 2) hx hb dX5_keep_23 (by decide) ?_
        exact ih2 (i + 1) (upd f i (Al i)) (by rw [ef]; exact lsf_1 K Al i) (by first | assumption | omega | rfl) (by omega) _ _ (hP.sub [0, 1, 2] rfl) (hD.sub [0, 1, 2] (by decide) rfl) hS ls (lv_sub hl [0, 1] rfl)
  exact L2 ((92 - 0) + 1) 0 K (by exact (lsf_0 K Al).symm) (by first | assumption | omega | rfl) (Nat.lt_succ_self _) _ _ (hP.sub [0, 1, 2] rfl) (hD.sub [0, 1, 2] (by decide) rfl) hS ls (lv_sub hl [0, 1] rfl)
theorem iw_X5_changed_5 : ∀ w ∈ u_ws RX5 TX5 13, w ∈ wsX5_changed := by decide +kernel
theorem fl_X5_changed_34 : Cond.fieldLink RX5 34 (TX5 3).1 (TX5 3).2.1 (TX5 3).2.2.1 ∈ wsX5_changed := by decide +kernel
theorem fl_X5_changed_16 : Cond.fieldLink RX5 16 (TX5 2).1 (TX5 2).2.1 (TX5 2).2.2.1 ∈ wsX5_changed := by decide +kernel
theorem fl_X5_changed_13 : Cond.fieldLink RX5 13 (TX5 1).1 (TX5 1).2.1 (TX5 1).2.2.1 ∈ wsX5_changed := by decide +kernel
set_option maxHeartbeats 400000 in
set_option maxRecDepth 100000 in
theorem c_X5_changed_lt (l : Launch) (E : EE) (sz : Nat) (mo mA mK mH mS mV mF mP mR : Nat) (pl sp nu rm : Int32) (hy : Nat) (r : Int32) (Hc K : Nat → Int32) (gh : hy < 6) : Ci l yX5_changed wsX5_changed 0 0 E [.ref mo, .int r] [(mo, .inr (5, [.ref mA, .ref mK, .ref mH, .int (nI hy), .ref mS, .ref mV, .ref mF, .ref mP, .int pl, .int sp, .int nu, .ref mR, .int rm])), (mH, aI E 552 Hc), (mK, aI E 92 K)] sz r [(mo, .inr (5, [.ref mA, .ref mK, .ref mH, .int (nI (hy + 1)), .ref mS, .ref mV, .ref mF, .ref mP, .int pl, .int sp, .int nu, .ref mR, .int rm])), (mH, aI E 552 (putH Hc K (92 * hy) 92)), (mK, aI E 92 K)] := by
  refine C_of (QQ := QI E r [(mo, .inr (5, [.ref mA, .ref mK, .ref mH, .int (nI (hy + 1)), .ref mS, .ref mV, .ref mF, .ref mP, .int pl, .int sp, .int nu, .ref mR, .int rm])), (mH, aI E 552 (putH Hc K (92 * hy) 92)), (mK, aI E 92 K)]) (cc := cX5_changed) (maxL := 3) (ret := (some .int)) (by decide +kernel) rfl (Nat.le_of_ble_eq_true rfl) ?_
  intro p e s m args below meth c A R Q ls hx hb hr hts hown hml hlocks hA hK hN hP hD hS hl hR hQ
  have hown : s.vm.findClass RX5 = some m.cls := hown
  have hl : lv_has ls 3 [(0, .ref mo), (1, .int r)] := hl
  refine lv_aload_n hx hb dX5_changed_0 rfl (lv_at hl 0 rfl) ?_
  refine rk_get (ci := 5) (C := RX5) (T := TX5) (N := 13) hx hb hts iw_X5_changed_5 hown hK hP 0 rfl rfl 3 (by decide) fl_X5_changed_34 rfl (v := .int (nI hy)) rfl dX5_changed_1 ?_
  refine lv_bipush (v := nI 6) hx hb dX5_changed_4 (by decide) ?_
  refine rk_neN (tgt := 49) hx hb (by omega) (by omega) dX5_changed_6 (by decide) (fun zc6 => ?_) (fun q => absurd q (by omega))
  refine lv_iconst (v := nI 0) hx hb dX5_changed_49 (by decide) ?_
  refine lv_istore_n (lv' := [(2, .int (nI 0)), (0, .ref mo), (1, .int r)]) hx hb dX5_changed_50 rfl hl (by decide) rfl (fun ls hl => ?_)
  have L51 : ∀ (fu : Nat) (i : Nat) (f : Nat → Int32), (ef : f = putH Hc K (92 * hy) i) → (gi : i ≤ 92) → 92 - i < fu → ∀ (H : Heap) (locs : List Loc), va_P E.1 vwCl [(mo, .inr (5, [.ref mA, .ref mK, .ref mH, .int (nI hy), .ref mS, .ref mV, .ref mF, .ref mP, .int pl, .int sp, .int nu, .ref mR, .int rm])), (mH, aI E 552 f), (mK, aI E 92 K)] H → va_D A [(mo, .inr (5, [.ref mA, .ref mK, .ref mH, .int (nI hy), .ref mS, .ref mV, .ref mF, .ref mP, .int pl, .int sp, .int nu, .ref mR, .int rm])), (mH, aI E 552 f), (mK, aI E 92 K)] → va_S A s.heap H locs → ∀ (ls : Array Slot), lv_has ls 3 [(2, .int (nI i)), (0, .ref mo), (1, .int r)] → W p l e R s m args below meth c H locs 0 0 Q (F0 m 51 ls []) := by
    intro fu
    induction fu with
    | zero => intro i f ef gi hfu; exact absurd hfu (Nat.not_lt_zero _)
    | succ fu ih51 =>
      intro i f ef gi hfu H locs hP hD hS ls hl
      refine lv_iload_n hx hb dX5_changed_51 rfl (lv_at hl 0 rfl) ?_
      refine lv_bipush (v := nI 92) hx hb dX5_changed_52 (by decide) ?_
      refine rk_geN (tgt := 83) hx hb (by omega) (by omega) dX5_changed_54 (by decide) (fun zc54 => ?_) (fun zc54 => ?_)
      · obtain rfl : 92 = i := by omega
        subst ef
        refine lv_aload_n hx hb dX5_changed_83 rfl (lv_at hl 1 rfl) ?_
        refine lv_dup hx hb dX5_changed_84 rfl ?_
        refine rk_get (ci := 5) (C := RX5) (T := TX5) (N := 13) hx hb hts iw_X5_changed_5 hown hK hP 0 rfl rfl 3 (by decide) fl_X5_changed_34 rfl (v := .int (nI hy)) rfl dX5_changed_85 ?_
        refine lv_iconst (v := nI 1) hx hb dX5_changed_88 (by decide) ?_
        refine rk_iaddN hx hb dX5_changed_89 ?_
        refine rk_put (ci := 5) (C := RX5) (T := TX5) (N := 13) hx hb hts iw_X5_changed_5 tyX5 tyX5_ok nmX5 hown hK hP hD hS 0 rfl rfl 3 (by decide) fl_X5_changed_34 rfl rfl (tyX5_ok 3 (by decide)) rfl rfl (Nat.le_of_ble_eq_true rfl) (ws' := [(mo, .inr (5, [.ref mA, .ref mK, .ref mH, .int (nI (hy + 1)), .ref mS, .ref mV, .ref mF, .ref mP, .int pl, .int sp, .int nu, .ref mR, .int rm])), (mH, aI E 552 ((putH Hc K (92 * hy) 92))), (mK, aI E 92 K)]) rfl dX5_changed_90 (fun H locs hP hD hS => ?_)
        refine lv_iload_n hx hb dX5_changed_93 rfl (lv_at hl 2 rfl) ?_
        exact ret_i hQ hx hb hr hlocks (hP.sub [0, 1, 2] rfl) (hD.sub [0, 1, 2] (by decide) rfl) hS dX5_changed_94 (rfl)
      · refine lv_aload_n hx hb dX5_changed_57 rfl (lv_at hl 1 rfl) ?_
        refine rk_get (ci := 5) (C := RX5) (T := TX5) (N := 13) hx hb hts iw_X5_changed_5 hown hK hP 0 rfl rfl 2 (by decide) fl_X5_changed_16 rfl (v := .ref mH) rfl dX5_changed_58 ?_
        refine lv_bipush (v := nI 92) hx hb dX5_changed_61 (by decide) ?_
        refine lv_aload_n hx hb dX5_changed_63 rfl (lv_at hl 1 rfl) ?_
        refine rk_get (ci := 5) (C := RX5) (T := TX5) (N := 13) hx hb hts iw_X5_changed_5 hown hK hP 0 rfl rfl 3 (by decide) fl_X5_changed_34 rfl (v := .int (nI hy)) rfl dX5_changed_64 ?_
        refine rk_imulN hx hb dX5_changed_67 ?_
        refine lv_iload_n hx hb dX5_changed_68 rfl (lv_at hl 0 rfl) ?_
        refine rk_iaddN hx hb dX5_changed_69 ?_
        refine lv_aload_n hx hb dX5_changed_70 rfl (lv_at hl 1 rfl) ?_
        refine rk_get (ci := 5) (C := RX5) (T := TX5) (N := 13) hx hb hts iw_X5_changed_5 hown hK hP 0 rfl rfl 1 (by decide) fl_X5_changed_13 rfl (v := .ref mK) rfl dX5_changed_71 ?_
        refine lv_iload_n hx hb dX5_changed_74 rfl (lv_at hl 0 rfl) ?_
        refine rk_iald hx hb hK hP 2 rfl (by omega) (by omega) (v := K i) (rfl) dX5_changed_75 ?_
        refine rk_iast hx hb hK hP hD hS 1 rfl (by omega) (by omega) (ws' := [(mo, .inr (5, [.ref mA, .ref mK, .ref mH, .int (nI hy), .ref mS, .ref mV, .ref mF, .ref mP, .int pl, .int sp, .int nu, .ref mR, .int rm])), (mH, aI E 552 (upd f ((92 * hy) + i) (K i))), (mK, aI E 92 K)]) rfl dX5_changed_76 (fun H locs hP hD hS => ?_)
        refine lv_iinc (v := nI (i + 1)) (lv' := [(2, .int (nI (i + 1))), (0, .ref mo), (1, .int r)]) hx hb dX5_changed_77 hl (k := 0) rfl (by rw [show Int32.ofInt 1 = nI 1 by decide]; exact nI_add _ _) (by decide) rfl (fun ls hl => ?_)
        refine lv_goto (tgt := 51) hx hb dX5_changed_80 (by decide) ?_
        exact ih51 (i + 1) (upd f ((92 * hy) + i) (K i)) (by rw [ef]; exact putH_1 Hc K (92 * hy) i) (by first | assumption | omega | rfl) (by omega) _ _ (hP.sub [0, 1, 2] rfl) (hD.sub [0, 1, 2] (by decide) rfl) hS ls (lv_sub hl [0, 1, 2] rfl)
  exact L51 ((92 - 0) + 1) 0 Hc (by exact (putH_0 _ _ _).symm) (by first | assumption | omega | rfl) (Nat.lt_succ_self _) _ _ (hP.sub [0, 1, 2] rfl) (hD.sub [0, 1, 2] (by decide) rfl) hS ls (lv_sub hl [0, 1, 2] rfl)
set_option maxHeartbeats 400000 in
set_option maxRecDepth 100000 in
theorem c_X5_changed_ge (l : Launch) (E : EE) (sz : Nat) (mo mA mK mH mS mV mF mP mR : Nat) (pl sp nu rm : Int32) (r : Int32) (Hc K : Nat → Int32) : Ci l yX5_changed wsX5_changed 0 0 E [.ref mo, .int r] [(mo, .inr (5, [.ref mA, .ref mK, .ref mH, .int (nI 6), .ref mS, .ref mV, .ref mF, .ref mP, .int pl, .int sp, .int nu, .ref mR, .int rm])), (mH, aI E 552 Hc), (mK, aI E 92 K)] sz r [(mo, .inr (5, [.ref mA, .ref mK, .ref mH, .int (nI 6), .ref mS, .ref mV, .ref mF, .ref mP, .int pl, .int sp, .int nu, .ref mR, .int rm])), (mH, aI E 552 (putH (lsf Hc (shH Hc) 460) K (92 * 5) 92)), (mK, aI E 92 K)] := by
  refine C_of (QQ := QI E r [(mo, .inr (5, [.ref mA, .ref mK, .ref mH, .int (nI 6), .ref mS, .ref mV, .ref mF, .ref mP, .int pl, .int sp, .int nu, .ref mR, .int rm])), (mH, aI E 552 (putH (lsf Hc (shH Hc) 460) K (92 * 5) 92)), (mK, aI E 92 K)]) (cc := cX5_changed) (maxL := 3) (ret := (some .int)) (by decide +kernel) rfl (Nat.le_of_ble_eq_true rfl) ?_
  intro p e s m args below meth c A R Q ls hx hb hr hts hown hml hlocks hA hK hN hP hD hS hl hR hQ
  have hown : s.vm.findClass RX5 = some m.cls := hown
  have hl : lv_has ls 3 [(0, .ref mo), (1, .int r)] := hl
  refine lv_aload_n hx hb dX5_changed_0 rfl (lv_at hl 0 rfl) ?_
  refine rk_get (ci := 5) (C := RX5) (T := TX5) (N := 13) hx hb hts iw_X5_changed_5 hown hK hP 0 rfl rfl 3 (by decide) fl_X5_changed_34 rfl (v := .int (nI 6)) rfl dX5_changed_1 ?_
  refine lv_bipush (v := nI 6) hx hb dX5_changed_4 (by decide) ?_
  refine rk_neN (tgt := 49) hx hb (by omega) (by omega) dX5_changed_6 (by decide) (fun q => absurd q (by decide)) (fun _ => ?_)
  refine lv_iconst (v := nI 0) hx hb dX5_changed_9 (by decide) ?_
  refine lv_istore_n (lv' := [(2, .int (nI 0)), (0, .ref mo), (1, .int r)]) hx hb dX5_changed_10 rfl hl (by decide) rfl (fun ls hl => ?_)
  have L11 : ∀ (fu : Nat) (i : Nat) (f : Nat → Int32), (ef : f = lsf Hc (shH Hc) i) → (gi : i ≤ 460) → 460 - i < fu → ∀ (H : Heap) (locs : List Loc), va_P E.1 vwCl [(mo, .inr (5, [.ref mA, .ref mK, .ref mH, .int (nI 6), .ref mS, .ref mV, .ref mF, .ref mP, .int pl, .int sp, .int nu, .ref mR, .int rm])), (mH, aI E 552 f), (mK, aI E 92 K)] H → va_D A [(mo, .inr (5, [.ref mA, .ref mK, .ref mH, .int (nI 6), .ref mS, .ref mV, .ref mF, .ref mP, .int pl, .int sp, .int nu, .ref mR, .int rm])), (mH, aI E 552 f), (mK, aI E 92 K)] → va_S A s.heap H locs → ∀ (ls : Array Slot), lv_has ls 3 [(2, .int (nI i)), (0, .ref mo), (1, .int r)] → W p l e R s m args below meth c H locs 0 0 Q (F0 m 11 ls []) := by
    intro fu
    induction fu with
    | zero => intro i f ef gi hfu; exact absurd hfu (Nat.not_lt_zero _)
    | succ fu ih11 =>
      intro i f ef gi hfu H locs hP hD hS ls hl
      refine lv_iload_n hx hb dX5_changed_11 rfl (lv_at hl 0 rfl) ?_
      refine lv_sipush (v := nI 460) hx hb dX5_changed_12 (by decide) ?_
      refine rk_geN (tgt := 39) hx hb (by omega) (by omega) dX5_changed_15 (by decide) (fun zc15 => ?_) (fun zc15 => ?_)
      · obtain rfl : 460 = i := by omega
        subst ef
        refine lv_aload_n hx hb dX5_changed_39 rfl (lv_at hl 1 rfl) ?_
        refine lv_dup hx hb dX5_changed_40 rfl ?_
        refine rk_get (ci := 5) (C := RX5) (T := TX5) (N := 13) hx hb hts iw_X5_changed_5 hown hK hP 0 rfl rfl 3 (by decide) fl_X5_changed_34 rfl (v := .int (nI 6)) rfl dX5_changed_41 ?_
        refine lv_iconst (v := nI 1) hx hb dX5_changed_44 (by decide) ?_
        refine rk_isubN hx hb (by omega) dX5_changed_45 ?_
        refine rk_put (ci := 5) (C := RX5) (T := TX5) (N := 13) hx hb hts iw_X5_changed_5 tyX5 tyX5_ok nmX5 hown hK hP hD hS 0 rfl rfl 3 (by decide) fl_X5_changed_34 rfl rfl (tyX5_ok 3 (by decide)) rfl rfl (Nat.le_of_ble_eq_true rfl) (ws' := [(mo, .inr (5, [.ref mA, .ref mK, .ref mH, .int (nI (6 - 1)), .ref mS, .ref mV, .ref mF, .ref mP, .int pl, .int sp, .int nu, .ref mR, .int rm])), (mH, aI E 552 ((lsf Hc (shH Hc) 460))), (mK, aI E 92 K)]) rfl dX5_changed_46 (fun H locs hP hD hS => ?_)
        have hfe : nI (6 - 1) = nI 5 := rfl
        rw [hfe] at hP hD
        refine lv_iconst (v := nI 0) hx hb dX5_changed_49 (by decide) ?_
        refine lv_istore_n (lv' := [(2, .int (nI 0)), (0, .ref mo), (1, .int r)]) hx hb dX5_changed_50 rfl hl (by decide) rfl (fun ls hl => ?_)
        have L51 : ∀ (fu : Nat) (i : Nat) (f : Nat → Int32), (ef : f = putH (lsf Hc (shH Hc) 460) K (92 * 5) i) → (gi : i ≤ 92) → 92 - i < fu → ∀ (H : Heap) (locs : List Loc), va_P E.1 vwCl [(mo, .inr (5, [.ref mA, .ref mK, .ref mH, .int (nI 5), .ref mS, .ref mV, .ref mF, .ref mP, .int pl, .int sp, .int nu, .ref mR, .int rm])), (mH, aI E 552 f), (mK, aI E 92 K)] H → va_D A [(mo, .inr (5, [.ref mA, .ref mK, .ref mH, .int (nI 5), .ref mS, .ref mV, .ref mF, .ref mP, .int pl, .int sp, .int nu, .ref mR, .int rm])), (mH, aI E 552 f), (mK, aI E 92 K)] → va_S A s.heap H locs → ∀ (ls : Array Slot), lv_has ls 3 [(2, .int (nI i)), (0, .ref mo), (1, .int r)] → W p l e R s m args below meth c H locs 0 0 Q (F0 m 51 ls []) := by
          intro fu
          induction fu with
          | zero => intro i f ef gi hfu; exact absurd hfu (Nat.not_lt_zero _)
          | succ fu ih51 =>
            intro i f ef gi hfu H locs hP hD hS ls hl
            refine lv_iload_n hx hb dX5_changed_51 rfl (lv_at hl 0 rfl) ?_
            refine lv_bipush (v := nI 92) hx hb dX5_changed_52 (by decide) ?_
            refine rk_geN (tgt := 83) hx hb (by omega) (by omega) dX5_changed_54 (by decide) (fun zc54 => ?_) (fun zc54 => ?_)
            · obtain rfl : 92 = i := by omega
              subst ef
              refine lv_aload_n hx hb dX5_changed_83 rfl (lv_at hl 1 rfl) ?_
              refine lv_dup hx hb dX5_changed_84 rfl ?_
              refine rk_get (ci := 5) (C := RX5) (T := TX5) (N := 13) hx hb hts iw_X5_changed_5 hown hK hP 0 rfl rfl 3 (by decide) fl_X5_changed_34 rfl (v := .int (nI 5)) rfl dX5_changed_85 ?_
              refine lv_iconst (v := nI 1) hx hb dX5_changed_88 (by decide) ?_
              refine rk_iaddN hx hb dX5_changed_89 ?_
              refine rk_put (ci := 5) (C := RX5) (T := TX5) (N := 13) hx hb hts iw_X5_changed_5 tyX5 tyX5_ok nmX5 hown hK hP hD hS 0 rfl rfl 3 (by decide) fl_X5_changed_34 rfl rfl (tyX5_ok 3 (by decide)) rfl rfl (Nat.le_of_ble_eq_true rfl) (ws' := [(mo, .inr (5, [.ref mA, .ref mK, .ref mH, .int (nI (5 + 1)), .ref mS, .ref mV, .ref mF, .ref mP, .int pl, .int sp, .int nu, .ref mR, .int rm])), (mH, aI E 552 ((putH (lsf Hc (shH Hc) 460) K (92 * 5) 92))), (mK, aI E 92 K)]) rfl dX5_changed_90 (fun H locs hP hD hS => ?_)
              refine lv_iload_n hx hb dX5_changed_93 rfl (lv_at hl 2 rfl) ?_
              exact ret_i hQ hx hb hr hlocks (hP.sub [0, 1, 2] rfl) (hD.sub [0, 1, 2] (by decide) rfl) hS dX5_changed_94 (rfl)
            · refine lv_aload_n hx hb dX5_changed_57 rfl (lv_at hl 1 rfl) ?_
              refine rk_get (ci := 5) (C := RX5) (T := TX5) (N := 13) hx hb hts iw_X5_changed_5 hown hK hP 0 rfl rfl 2 (by decide) fl_X5_changed_16 rfl (v := .ref mH) rfl dX5_changed_58 ?_
              refine lv_bipush (v := nI 92) hx hb dX5_changed_61 (by decide) ?_
              refine lv_aload_n hx hb dX5_changed_63 rfl (lv_at hl 1 rfl) ?_
              refine rk_get (ci := 5) (C := RX5) (T := TX5) (N := 13) hx hb hts iw_X5_changed_5 hown hK hP 0 rfl rfl 3 (by decide) fl_X5_changed_34 rfl (v := .int (nI 5)) rfl dX5_changed_64 ?_
              refine rk_imulN hx hb dX5_changed_67 ?_
              refine lv_iload_n hx hb dX5_changed_68 rfl (lv_at hl 0 rfl) ?_
              refine rk_iaddN hx hb dX5_changed_69 ?_
              refine lv_aload_n hx hb dX5_changed_70 rfl (lv_at hl 1 rfl) ?_
              refine rk_get (ci := 5) (C := RX5) (T := TX5) (N := 13) hx hb hts iw_X5_changed_5 hown hK hP 0 rfl rfl 1 (by decide) fl_X5_changed_13 rfl (v := .ref mK) rfl dX5_changed_71 ?_
              refine lv_iload_n hx hb dX5_changed_74 rfl (lv_at hl 0 rfl) ?_
              refine rk_iald hx hb hK hP 2 rfl (by omega) (by omega) (v := K i) (rfl) dX5_changed_75 ?_
              refine rk_iast hx hb hK hP hD hS 1 rfl (by omega) (by omega) (ws' := [(mo, .inr (5, [.ref mA, .ref mK, .ref mH, .int (nI 5), .ref mS, .ref mV, .ref mF, .ref mP, .int pl, .int sp, .int nu, .ref mR, .int rm])), (mH, aI E 552 (upd f ((92 * 5) + i) (K i))), (mK, aI E 92 K)]) rfl dX5_changed_76 (fun H locs hP hD hS => ?_)
              refine lv_iinc (v := nI (i + 1)) (lv' := [(2, .int (nI (i + 1))), (0, .ref mo), (1, .int r)]) hx hb dX5_changed_77 hl (k := 0) rfl (by rw [show Int32.ofInt 1 = nI 1 by decide]; exact nI_add _ _) (by decide) rfl (fun ls hl => ?_)
              refine lv_goto (tgt := 51) hx hb dX5_changed_80 (by decide) ?_
              exact ih51 (i + 1) (upd f ((92 * 5) + i) (K i)) (by rw [ef]; exact putH_1 (lsf Hc (shH Hc) 460) K (92 * 5) i) (by first | assumption | omega | rfl) (by omega) _ _ (hP.sub [0, 1, 2] rfl) (hD.sub [0, 1, 2] (by decide) rfl) hS ls (lv_sub hl [0, 1, 2] rfl)
        exact L51 ((92 - 0) + 1) 0 ((lsf Hc (shH Hc) 460)) (by exact (putH_0 _ _ _).symm) (by first | assumption | omega | rfl) (Nat.lt_succ_self _) _ _ (hP.sub [0, 1, 2] rfl) (hD.sub [0, 1, 2] (by decide) rfl) hS ls (lv_sub hl [0, 1, 2] rfl)
      · refine lv_aload_n hx hb dX5_changed_18 rfl (lv_at hl 1 rfl) ?_
        refine rk_get (ci := 5) (C := RX5) (T := TX5) (N := 13) hx hb hts iw_X5_changed_5 hown hK hP 0 rfl rfl 2 (by decide) fl_X5_changed_16 rfl (v := .ref mH) rfl dX5_changed_19 ?_
        refine lv_iload_n hx hb dX5_changed_22 rfl (lv_at hl 0 rfl) ?_
        refine lv_aload_n hx hb dX5_changed_23 rfl (lv_at hl 1 rfl) ?_
        refine rk_get (ci := 5) (C := RX5) (T := TX5) (N := 13) hx hb hts iw_X5_changed_5 hown hK hP 0 rfl rfl 2 (by decide) fl_X5_changed_16 rfl (v := .ref mH) rfl dX5_changed_24 ?_
        refine lv_iload_n hx hb dX5_changed_27 rfl (lv_at hl 0 rfl) ?_
        refine lv_bipush (v := nI 92) hx hb dX5_changed_28 (by decide) ?_
        refine rk_iaddN hx hb dX5_changed_30 ?_
        refine rk_iald hx hb hK hP 1 rfl (by omega) (by omega) (v := f (i + 92)) (rfl) dX5_changed_31 ?_
        refine rk_iast hx hb hK hP hD hS 1 rfl (by omega) (by omega) (ws' := [(mo, .inr (5, [.ref mA, .ref mK, .ref mH, .int (nI 6), .ref mS, .ref mV, .ref mF, .ref mP, .int pl, .int sp, .int nu, .ref mR, .int rm])), (mH, aI E 552 (upd f i (f (i + 92)))), (mK, aI E 92 K)]) rfl dX5_changed_32 (fun H locs hP hD hS => ?_)
        refine lv_iinc (v := nI (i + 1)) (lv' := [(2, .int (nI (i + 1))), (0, .ref mo), (1, .int r)]) hx hb dX5_changed_33 hl (k := 0) rfl (by rw [show Int32.ofInt 1 = nI 1 by decide]; exact nI_add _ _) (by decide) rfl (fun ls hl => ?_)
        refine lv_goto (tgt := 11) hx hb dX5_changed_36 (by decide) ?_
        exact ih11 (i + 1) (upd f i (f (i + 92))) (by rw [ef]; exact lsf_sh Hc i) (by first | assumption | omega | rfl) (by omega) _ _ (hP.sub [0, 1, 2] rfl) (hD.sub [0, 1, 2] (by decide) rfl) hS ls (lv_sub hl [0, 1, 2] rfl)
  exact L11 ((460 - 0) + 1) 0 Hc (by exact (lsf_0 _ _).symm) (by first | assumption | omega | rfl) (Nat.lt_succ_self _) _ _ (hP.sub [0, 1, 2] rfl) (hD.sub [0, 1, 2] (by decide) rfl) hS ls (lv_sub hl [0, 1, 2] rfl)
set_option maxHeartbeats 400000 in
set_option maxRecDepth 100000 in
theorem c_X5_bits (l : Launch) (E : EE) (sz : Nat) (x : Int32) : Ci l yX5_bits wsX5_bits 0 0 E [.int x] [] sz (nI (popc x)) [] := by
  refine C_of (QQ := QI E (nI (popc x)) []) (cc := cX5_bits) (maxL := 3) (ret := (some .int)) (by decide +kernel) rfl (Nat.le_of_ble_eq_true rfl) ?_
  intro p e s m args below meth c A R Q ls hx hb hr hts hown hml hlocks hA hK hN hP hD hS hl hR hQ
  have hown : s.vm.findClass RX5 = some m.cls := hown
  have hl : lv_has ls 3 [(0, .int x)] := hl
  refine lv_iconst (v := nI 0) hx hb dX5_bits_0 (by decide) ?_
  refine lv_istore_n (lv' := [(1, .int (nI 0)), (0, .int x)]) hx hb dX5_bits_1 rfl hl (by decide) rfl (fun ls hl => ?_)
  refine lv_iload_n hx hb dX5_bits_2 rfl (lv_at hl 1 rfl) ?_
  refine lv_istore_n (lv' := [(2, .int x), (1, .int (nI 0)), (0, .int x)]) hx hb dX5_bits_3 rfl hl (by decide) rfl (fun ls hl => ?_)
  have L4 : ∀ (fu : Nat) (cn : Nat) (y : Int32), (ek : cn + popc y = popc x) → popc y < fu → ∀ (H : Heap) (locs : List Loc), va_P E.1 vwCl [] H → va_D A [] → va_S A s.heap H locs → ∀ (ls : Array Slot), lv_has ls 3 [(2, .int y), (1, .int (nI cn)), (0, .int x)] → W p l e R s m args below meth c H locs 0 0 Q (F0 m 4 ls []) := by
    intro fu
    induction fu with
    | zero => intro cn y ek hfu; exact absurd hfu (Nat.not_lt_zero _)
    | succ fu ih4 =>
      intro cn y ek hfu H locs hP hD hS ls hl
      refine lv_iload_n hx hb dX5_bits_4 rfl (lv_at hl 0 rfl) ?_
      refine lv_if_eq (tgt := 20) hx hb dX5_bits_5 (by decide) (fun zc5 => ?_) (fun zc5 => ?_)
      · refine lv_iload_n hx hb dX5_bits_20 rfl (lv_at hl 1 rfl) ?_
        exact ret_i hQ hx hb hr hlocks (hP.sub [] rfl) (hD.sub [] (by decide) rfl) hS dX5_bits_21 (by subst zc5; rw [← ek, popc_0, Nat.add_zero])
      · refine lv_iinc (v := nI (cn + 1)) (lv' := [(1, .int (nI (cn + 1))), (2, .int y), (0, .int x)]) hx hb dX5_bits_8 hl (k := 1) rfl (by rw [show Int32.ofInt 1 = nI 1 by decide]; exact nI_add _ _) (by decide) rfl (fun ls hl => ?_)
        refine lv_iload_n hx hb dX5_bits_11 rfl (lv_at hl 1 rfl) ?_
        refine lv_iload_n hx hb dX5_bits_12 rfl (lv_at hl 1 rfl) ?_
        refine lv_iconst (v := nI 1) hx hb dX5_bits_13 (by decide) ?_
        refine lv_isub hx hb dX5_bits_14 ?_
        refine lv_iand hx hb dX5_bits_15 ?_
        refine lv_istore_n (lv' := [(2, .int (y &&& (y - (nI 1)))), (1, .int (nI (cn + 1))), (0, .int x)]) hx hb dX5_bits_16 rfl hl (by decide) rfl (fun ls hl => ?_)
        refine lv_goto (tgt := 4) hx hb dX5_bits_17 (by decide) ?_
        exact ih4 (cn + 1) (y &&& (y - (nI 1))) (by have h9 := popc_ker zc5; omega) (by have h9 := popc_ker zc5; omega) _ _ (hP.sub [] rfl) (hD.sub [] (by decide) rfl) hS ls (lv_sub hl [0, 1, 2] rfl)
  exact L4 ((popc x) + 1) 0 x (by exact Nat.zero_add _) (Nat.lt_succ_self _) _ _ (hP.sub [] rfl) (hD.sub [] (by decide) rfl) hS ls (lv_sub hl [0, 1, 2] rfl)
theorem iw_X5_isSquare_5 : ∀ w ∈ u_ws RX5 TX5 13, w ∈ wsX5_isSquare := by decide +kernel
theorem fl_X5_isSquare_7 : Cond.fieldLink RX5 7 (TX5 0).1 (TX5 0).2.1 (TX5 0).2.2.1 ∈ wsX5_isSquare := by decide +kernel
set_option maxHeartbeats 400000 in
set_option maxRecDepth 100000 in
theorem c_X5_isSquare (l : Launch) (E : EE) (sz : Nat) (mo mA mK mH mS mV mF mP mR : Nat) (hy pl sp nu rm : Int32) (n k : Nat) (Al : Nat → Int32) (x : Int32) (gA0 : Al 0 = nI n) (gn : n ≤ 16) : Ci l yX5_isSquare wsX5_isSquare 1 25 E [.ref mo, .int x] [(mo, .inr (5, [.ref mA, .ref mK, .ref mH, .int hy, .ref mS, .ref mV, .ref mF, .ref mP, .int pl, .int sp, .int nu, .ref mR, .int rm])), (mA, aI E 92 Al)] sz (b2i (inR x (nI n))) [(mo, .inr (5, [.ref mA, .ref mK, .ref mH, .int hy, .ref mS, .ref mV, .ref mF, .ref mP, .int pl, .int sp, .int nu, .ref mR, .int rm])), (mA, aI E 92 Al)] := by
  refine C_of (QQ := QI E (b2i (inR x (nI n))) [(mo, .inr (5, [.ref mA, .ref mK, .ref mH, .int hy, .ref mS, .ref mV, .ref mF, .ref mP, .int pl, .int sp, .int nu, .ref mR, .int rm])), (mA, aI E 92 Al)]) (cc := cX5_isSquare) (maxL := 2) (ret := (some .boolean)) (by decide +kernel) rfl (Nat.le_of_ble_eq_true rfl) ?_
  intro p e s m args below meth c A R Q ls hx hb hr hts hown hml hlocks hA hK hN hP hD hS hl hR hQ
  have hown : s.vm.findClass RX5 = some m.cls := hown
  have hl : lv_has ls 2 [(0, .ref mo), (1, .int x)] := hl
  refine lv_iload_n hx hb dX5_isSquare_0 rfl (lv_at hl 1 rfl) ?_
  refine lv_i2l hx hb dX5_isSquare_1 rfl ?_
  refine lv_lconst (v := 0) hx hb dX5_isSquare_2 (by decide) ?_
  refine lv_aload_n hx hb dX5_isSquare_3 rfl (lv_at hl 0 rfl) ?_
  refine rk_get (ci := 5) (C := RX5) (T := TX5) (N := 13) hx hb hts iw_X5_isSquare_5 hown hK hP 0 rfl rfl 0 (by decide) fl_X5_isSquare_7 rfl (v := .ref mA) rfl dX5_isSquare_4 ?_
  refine lv_iconst (v := nI 0) hx hb dX5_isSquare_7 (by decide) ?_
  refine rk_iald hx hb hK hP 1 rfl (by omega) (by omega) (v := nI n) (by exact gA0) dX5_isSquare_8 ?_
  refine lv_i2l hx hb dX5_isSquare_9 rfl ?_
  refine lv_lconst (v := 1) hx hb dX5_isSquare_10 (by decide) ?_
  refine lv_lsub hx hb dX5_isSquare_11 ?_
  refine kS_i (E := E) (As := [.long x.toInt64, .long ((0 : Int64)), .long (((nI n).toInt64) - ((1 : Int64)))]) (rest := []) (wr := [(mo, .inr (5, [.ref mA, .ref mK, .ref mH, .int hy, .ref mS, .ref mV, .ref mF, .ref mP, .int pl, .int sp, .int nu, .ref mR, .int rm])), (mA, aI E 92 Al)]) ⟨hx, hb, hml, hown, hts⟩ (c_X5_in (l := l) (E := E) (sz := _) (v := x.toInt64) (lo9 := (0 : Int64)) (hi9 := ((nI n).toInt64) - ((1 : Int64))) ) (cwS 3 hts gX5_isSquare_X5_in rfl rfl rfl (by decide +kernel) ⟨by rw [hR]; decide, by rw [hR]; decide⟩) hK hN hP hD hS hA [] [0, 1] rfl (by decide) rfl (by decide) (by decide) rfl hl.1 rfl (Nat.le_of_ble_eq_true rfl) dX5_isSquare_12 ⟨Nat.zero_le _, Nat.zero_le _⟩ (fun H locs hP hD hS => ?_)
  have hP : va_P E.1 vwCl [(mo, .inr (5, [.ref mA, .ref mK, .ref mH, .int hy, .ref mS, .ref mV, .ref mF, .ref mP, .int pl, .int sp, .int nu, .ref mR, .int rm])), (mA, aI E 92 Al)] H := hP
  have hD : va_D A [(mo, .inr (5, [.ref mA, .ref mK, .ref mH, .int hy, .ref mS, .ref mV, .ref mF, .ref mP, .int pl, .int sp, .int nu, .ref mR, .int rm])), (mA, aI E 92 Al)] := hD
  exact ret_z hQ hx hb hr hlocks (hP.sub [0, 1] rfl) (hD.sub [0, 1] (by decide) rfl) hS dX5_isSquare_15 (b2i_nz _) (by rw [inL_R (by omega)])
theorem iw_X5_isRoad_5 : ∀ w ∈ u_ws RX5 TX5 13, w ∈ wsX5_isRoad := by decide +kernel
theorem fl_X5_isRoad_7 : Cond.fieldLink RX5 7 (TX5 0).1 (TX5 0).2.1 (TX5 0).2.2.1 ∈ wsX5_isRoad := by decide +kernel
set_option maxHeartbeats 400000 in
set_option maxRecDepth 100000 in
theorem c_X5_isRoad (l : Launch) (E : EE) (sz : Nat) (mo mA mK mH mS mV mF mP mR : Nat) (hy pl sp nu rm : Int32) (n k : Nat) (Al : Nat → Int32) (x : Int32) (gA1 : Al 1 = nI k) (gk : k ≤ 30) : Ci l yX5_isRoad wsX5_isRoad 1 25 E [.ref mo, .int x] [(mo, .inr (5, [.ref mA, .ref mK, .ref mH, .int hy, .ref mS, .ref mV, .ref mF, .ref mP, .int pl, .int sp, .int nu, .ref mR, .int rm])), (mA, aI E 92 Al)] sz (b2i (inR x (nI k))) [(mo, .inr (5, [.ref mA, .ref mK, .ref mH, .int hy, .ref mS, .ref mV, .ref mF, .ref mP, .int pl, .int sp, .int nu, .ref mR, .int rm])), (mA, aI E 92 Al)] := by
  refine C_of (QQ := QI E (b2i (inR x (nI k))) [(mo, .inr (5, [.ref mA, .ref mK, .ref mH, .int hy, .ref mS, .ref mV, .ref mF, .ref mP, .int pl, .int sp, .int nu, .ref mR, .int rm])), (mA, aI E 92 Al)]) (cc := cX5_isRoad) (maxL := 2) (ret := (some .boolean)) (by decide +kernel) rfl (Nat.le_of_ble_eq_true rfl) ?_
  intro p e s m args below meth c A R Q ls hx hb hr hts hown hml hlocks hA hK hN hP hD hS hl hR hQ
  have hown : s.vm.findClass RX5 = some m.cls := hown
  have hl : lv_has ls 2 [(0, .ref mo), (1, .int x)] := hl
  refine lv_iload_n hx hb dX5_isRoad_0 rfl (lv_at hl 1 rfl) ?_
  refine lv_i2l hx hb dX5_isRoad_1 rfl ?_
  refine lv_lconst (v := 0) hx hb dX5_isRoad_2 (by decide) ?_
  refine lv_aload_n hx hb dX5_isRoad_3 rfl (lv_at hl 0 rfl) ?_
  refine rk_get (ci := 5) (C := RX5) (T := TX5) (N := 13) hx hb hts iw_X5_isRoad_5 hown hK hP 0 rfl rfl 0 (by decide) fl_X5_isRoad_7 rfl (v := .ref mA) rfl dX5_isRoad_4 ?_
  refine lv_iconst (v := nI 1) hx hb dX5_isRoad_7 (by decide) ?_
  refine rk_iald hx hb hK hP 1 rfl (by omega) (by omega) (v := nI k) (by exact gA1) dX5_isRoad_8 ?_
  refine lv_i2l hx hb dX5_isRoad_9 rfl ?_
  refine lv_lconst (v := 1) hx hb dX5_isRoad_10 (by decide) ?_
  refine lv_lsub hx hb dX5_isRoad_11 ?_
  refine kS_i (E := E) (As := [.long x.toInt64, .long ((0 : Int64)), .long (((nI k).toInt64) - ((1 : Int64)))]) (rest := []) (wr := [(mo, .inr (5, [.ref mA, .ref mK, .ref mH, .int hy, .ref mS, .ref mV, .ref mF, .ref mP, .int pl, .int sp, .int nu, .ref mR, .int rm])), (mA, aI E 92 Al)]) ⟨hx, hb, hml, hown, hts⟩ (c_X5_in (l := l) (E := E) (sz := _) (v := x.toInt64) (lo9 := (0 : Int64)) (hi9 := ((nI k).toInt64) - ((1 : Int64))) ) (cwS 3 hts gX5_isRoad_X5_in rfl rfl rfl (by decide +kernel) ⟨by rw [hR]; decide, by rw [hR]; decide⟩) hK hN hP hD hS hA [] [0, 1] rfl (by decide) rfl (by decide) (by decide) rfl hl.1 rfl (Nat.le_of_ble_eq_true rfl) dX5_isRoad_12 ⟨Nat.zero_le _, Nat.zero_le _⟩ (fun H locs hP hD hS => ?_)
  have hP : va_P E.1 vwCl [(mo, .inr (5, [.ref mA, .ref mK, .ref mH, .int hy, .ref mS, .ref mV, .ref mF, .ref mP, .int pl, .int sp, .int nu, .ref mR, .int rm])), (mA, aI E 92 Al)] H := hP
  have hD : va_D A [(mo, .inr (5, [.ref mA, .ref mK, .ref mH, .int hy, .ref mS, .ref mV, .ref mF, .ref mP, .int pl, .int sp, .int nu, .ref mR, .int rm])), (mA, aI E 92 Al)] := hD
  exact ret_z hQ hx hb hr hlocks (hP.sub [0, 1] rfl) (hD.sub [0, 1] (by decide) rfl) hS dX5_isRoad_15 (b2i_nz _) (by rw [inL_R (by omega)])
theorem iw_X5_ends_5 : ∀ w ∈ u_ws RX5 TX5 13, w ∈ wsX5_ends := by decide +kernel
theorem fl_X5_ends_7 : Cond.fieldLink RX5 7 (TX5 0).1 (TX5 0).2.1 (TX5 0).2.2.1 ∈ wsX5_ends := by decide +kernel
set_option maxHeartbeats 400000 in
set_option maxRecDepth 100000 in
theorem c_X5_ends (l : Launch) (E : EE) (sz : Nat) (mo mA mK mH mS mV mF mP mR : Nat) (hy pl sp nu rm : Int32) (n k : Nat) (Al : Nat → Int32) (r : Nat) (gA1 : Al 1 = nI k) (gk : k ≤ 30) (gok : okA Al k) (gr : r < k) : Ci l yX5_ends wsX5_ends 0 0 E [.ref mo, .int (nI r)] [(mo, .inr (5, [.ref mA, .ref mK, .ref mH, .int hy, .ref mS, .ref mV, .ref mF, .ref mP, .int pl, .int sp, .int nu, .ref mR, .int rm])), (mA, aI E 92 Al)] sz (enM Al r) [(mo, .inr (5, [.ref mA, .ref mK, .ref mH, .int hy, .ref mS, .ref mV, .ref mF, .ref mP, .int pl, .int sp, .int nu, .ref mR, .int rm])), (mA, aI E 92 Al)] := by
  refine C_of (QQ := QI E (enM Al r) [(mo, .inr (5, [.ref mA, .ref mK, .ref mH, .int hy, .ref mS, .ref mV, .ref mF, .ref mP, .int pl, .int sp, .int nu, .ref mR, .int rm])), (mA, aI E 92 Al)]) (cc := cX5_ends) (maxL := 2) (ret := (some .int)) (by decide +kernel) rfl (Nat.le_of_ble_eq_true rfl) ?_
  intro p e s m args below meth c A R Q ls hx hb hr hts hown hml hlocks hA hK hN hP hD hS hl hR hQ
  have hown : s.vm.findClass RX5 = some m.cls := hown
  have hl : lv_has ls 2 [(0, .ref mo), (1, .int (nI r))] := hl
  refine lv_iconst (v := nI 1) hx hb dX5_ends_0 (by decide) ?_
  refine lv_aload_n hx hb dX5_ends_1 rfl (lv_at hl 0 rfl) ?_
  refine rk_get (ci := 5) (C := RX5) (T := TX5) (N := 13) hx hb hts iw_X5_ends_5 hown hK hP 0 rfl rfl 0 (by decide) fl_X5_ends_7 rfl (v := .ref mA) rfl dX5_ends_2 ?_
  refine lv_iconst (v := nI 2) hx hb dX5_ends_5 (by decide) ?_
  refine lv_iload_n hx hb dX5_ends_6 rfl (lv_at hl 1 rfl) ?_
  refine rk_iaddN hx hb dX5_ends_7 ?_
  refine rk_iald hx hb hK hP 1 rfl (by omega) (by omega) (v := nI (mlo Al r)) ((gok r (by omega)).1) dX5_ends_8 ?_
  refine lv_ishl hx hb dX5_ends_9 ?_
  refine lv_iconst (v := nI 1) hx hb dX5_ends_10 (by decide) ?_
  refine lv_aload_n hx hb dX5_ends_11 rfl (lv_at hl 0 rfl) ?_
  refine rk_get (ci := 5) (C := RX5) (T := TX5) (N := 13) hx hb hts iw_X5_ends_5 hown hK hP 0 rfl rfl 0 (by decide) fl_X5_ends_7 rfl (v := .ref mA) rfl dX5_ends_12 ?_
  refine lv_bipush (v := nI 32) hx hb dX5_ends_15 (by decide) ?_
  refine lv_iload_n hx hb dX5_ends_17 rfl (lv_at hl 1 rfl) ?_
  refine rk_iaddN hx hb dX5_ends_18 ?_
  refine rk_iald hx hb hK hP 1 rfl (by omega) (by omega) (v := nI (mhi Al r)) ((gok r (by omega)).2.2.1) dX5_ends_19 ?_
  refine lv_ishl hx hb dX5_ends_20 ?_
  refine lv_ior hx hb dX5_ends_21 ?_
  exact ret_i hQ hx hb hr hlocks (hP.sub [0, 1] rfl) (hD.sub [0, 1] (by decide) rfl) hS dX5_ends_22 (rfl)
theorem iw_X5_reach_5 : ∀ w ∈ u_ws RX5 TX5 13, w ∈ wsX5_reach := by decide +kernel
theorem fl_X5_reach_7 : Cond.fieldLink RX5 7 (TX5 0).1 (TX5 0).2.1 (TX5 0).2.2.1 ∈ wsX5_reach := by decide +kernel
set_option maxHeartbeats 400000 in
set_option maxRecDepth 100000 in
theorem c_X5_reach (l : Launch) (E : EE) (sz : Nat) (mo mA mK mH mS mV mF mP mR : Nat) (hy pl sp nu rm : Int32) (n k : Nat) (Al : Nat → Int32) (q : Nat) (w z : Int32) (gA1 : Al 1 = nI k) (gk : k ≤ 30) (gok : okA Al k) (gq : q < 16) : Ci l yX5_reach wsX5_reach 1 21 E [.ref mo, .int (nI q), .int w, .int z] [(mo, .inr (5, [.ref mA, .ref mK, .ref mH, .int hy, .ref mS, .ref mV, .ref mF, .ref mP, .int pl, .int sp, .int nu, .ref mR, .int rm])), (mA, aI E 92 Al)] sz (rsM Al w z k q) [(mo, .inr (5, [.ref mA, .ref mK, .ref mH, .int hy, .ref mS, .ref mV, .ref mF, .ref mP, .int pl, .int sp, .int nu, .ref mR, .int rm])), (mA, aI E 92 Al)] := by
  refine C_of (QQ := QI E (rsM Al w z k q) [(mo, .inr (5, [.ref mA, .ref mK, .ref mH, .int hy, .ref mS, .ref mV, .ref mF, .ref mP, .int pl, .int sp, .int nu, .ref mR, .int rm])), (mA, aI E 92 Al)]) (cc := cX5_reach) (maxL := 9) (ret := (some .int)) (by decide +kernel) rfl (Nat.le_of_ble_eq_true rfl) ?_
  intro p e s m args below meth c A R Q ls hx hb hr hts hown hml hlocks hA hK hN hP hD hS hl hR hQ
  have hown : s.vm.findClass RX5 = some m.cls := hown
  have hl : lv_has ls 9 [(0, .ref mo), (1, .int (nI q)), (2, .int w), (3, .int z)] := hl
  refine lv_iconst (v := nI 1) hx hb dX5_reach_0 (by decide) ?_
  refine lv_iload_n hx hb dX5_reach_1 rfl (lv_at hl 1 rfl) ?_
  refine lv_ishl hx hb dX5_reach_2 ?_
  refine lv_istore (lv' := [(4, .int ((nI 1) <<< ((nI q) &&& 31))), (0, .ref mo), (1, .int (nI q)), (2, .int w), (3, .int z)]) hx hb dX5_reach_3 hl (by decide) rfl (fun ls hl => ?_)
  refine lv_iconst (v := nI 1) hx hb dX5_reach_5 (by decide) ?_
  refine lv_istore (lv' := [(5, .int (nI 1)), (4, .int ((nI 1) <<< ((nI q) &&& 31))), (0, .ref mo), (1, .int (nI q)), (2, .int w), (3, .int z)]) hx hb dX5_reach_6 hl (by decide) rfl (fun ls hl => ?_)
  have L8 : ∀ (fu : Nat) (x4 : Int32) (b : Bool) (j : Nat), (e4 : x4 = rG (alM Al w z) (enM Al) k q j) → (eb : b = mrG (alM Al w z) (enM Al) k q j) → (gj : j ≤ 17) → 18 - j < fu → ∀ (H : Heap) (locs : List Loc), va_P E.1 vwCl [(mo, .inr (5, [.ref mA, .ref mK, .ref mH, .int hy, .ref mS, .ref mV, .ref mF, .ref mP, .int pl, .int sp, .int nu, .ref mR, .int rm])), (mA, aI E 92 Al)] H → va_D A [(mo, .inr (5, [.ref mA, .ref mK, .ref mH, .int hy, .ref mS, .ref mV, .ref mF, .ref mP, .int pl, .int sp, .int nu, .ref mR, .int rm])), (mA, aI E 92 Al)] → va_S A s.heap H locs → ∀ (ls : Array Slot), lv_has ls 9 [(5, .int (b2i b)), (4, .int x4), (0, .ref mo), (1, .int (nI q)), (2, .int w), (3, .int z)] → W p l e R s m args below meth c H locs 0 0 Q (F0 m 8 ls []) := by
    intro fu
    induction fu with
    | zero => intro x4 b j e4 eb gj hfu; exact absurd hfu (Nat.not_lt_zero _)
    | succ fu ih8 =>
      intro x4 b j e4 eb gj hfu H locs hP hD hS ls hl
      refine lv_iload hx hb dX5_reach_8 (lv_at hl 0 rfl) ?_
      refine rk_if_eqB (tgt := 129) hx hb dX5_reach_10 (by decide) (fun zc10 => ?_) (fun zc10 => ?_)
      · refine lv_iload hx hb dX5_reach_129 (lv_at hl 1 rfl) ?_
        exact ret_i hQ hx hb hr hlocks (hP.sub [0, 1] rfl) (hD.sub [0, 1] (by decide) rfl) hS dX5_reach_131 (by rw [e4]; exact mrG_end gj (eb.symm.trans zc10))
      · refine lv_iload hx hb dX5_reach_13 (lv_at hl 1 rfl) ?_
        refine lv_istore (lv' := [(6, .int x4), (5, .int (b2i b)), (4, .int x4), (0, .ref mo), (1, .int (nI q)), (2, .int w), (3, .int z)]) hx hb dX5_reach_15 hl (by decide) rfl (fun ls hl => ?_)
        refine lv_iconst (v := nI 0) hx hb dX5_reach_17 (by decide) ?_
        refine lv_istore (lv' := [(7, .int (nI 0)), (6, .int x4), (5, .int (b2i b)), (4, .int x4), (0, .ref mo), (1, .int (nI q)), (2, .int w), (3, .int z)]) hx hb dX5_reach_18 hl (by decide) rfl (fun ls hl => ?_)
        have L20 : ∀ (fu : Nat) (y : Int32) (i : Nat), (ey : y = psG (alM Al w z) (enM Al) x4 i) → (gi : i ≤ k) → k - i < fu → ∀ (H : Heap) (locs : List Loc), va_P E.1 vwCl [(mo, .inr (5, [.ref mA, .ref mK, .ref mH, .int hy, .ref mS, .ref mV, .ref mF, .ref mP, .int pl, .int sp, .int nu, .ref mR, .int rm])), (mA, aI E 92 Al)] H → va_D A [(mo, .inr (5, [.ref mA, .ref mK, .ref mH, .int hy, .ref mS, .ref mV, .ref mF, .ref mP, .int pl, .int sp, .int nu, .ref mR, .int rm])), (mA, aI E 92 Al)] → va_S A s.heap H locs → ∀ (ls : Array Slot), lv_has ls 9 [(7, .int (nI i)), (6, .int x4), (5, .int (b2i b)), (4, .int y), (0, .ref mo), (1, .int (nI q)), (2, .int w), (3, .int z)] → W p l e R s m args below meth c H locs 0 0 Q (F0 m 20 ls []) := by
          intro fu
          induction fu with
          | zero => intro y i ey gi hfu; exact absurd hfu (Nat.not_lt_zero _)
          | succ fu ih20 =>
            intro y i ey gi hfu H locs hP hD hS ls hl
            refine lv_iload hx hb dX5_reach_20 (lv_at hl 0 rfl) ?_
            refine lv_aload_n hx hb dX5_reach_22 rfl (lv_at hl 4 rfl) ?_
            refine rk_get (ci := 5) (C := RX5) (T := TX5) (N := 13) hx hb hts iw_X5_reach_5 hown hK hP 0 rfl rfl 0 (by decide) fl_X5_reach_7 rfl (v := .ref mA) rfl dX5_reach_23 ?_
            refine lv_iconst (v := nI 1) hx hb dX5_reach_26 (by decide) ?_
            refine rk_iald hx hb hK hP 1 rfl (by omega) (by omega) (v := nI k) (by exact gA1) dX5_reach_27 ?_
            refine rk_geN (tgt := 112) hx hb (by omega) (by omega) dX5_reach_28 (by decide) (fun zc28 => ?_) (fun zc28 => ?_)
            · refine lv_iload hx hb dX5_reach_112 (lv_at hl 3 rfl) ?_
              refine lv_iload hx hb dX5_reach_114 (lv_at hl 1 rfl) ?_
              refine lv_icmp_eq (tgt := 123) hx hb dX5_reach_116 (by decide) (fun zc116 => ?_) (fun zc116 => ?_)
              · refine lv_iconst (v := nI 0) hx hb dX5_reach_123 (by decide) ?_
                refine lv_istore (lv' := [(5, .int (nI 0)), (7, .int (nI i)), (6, .int x4), (4, .int y), (0, .ref mo), (1, .int (nI q)), (2, .int w), (3, .int z)]) hx hb dX5_reach_124 hl (by decide) rfl (fun ls hl => ?_)
                refine lv_goto (tgt := 8) hx hb dX5_reach_126 (by decide) ?_
                exact ih8 y false (j + 1) (by have hy9 : y = rG (alM Al w z) (enM Al) k q (j + 1) := (by obtain rfl : k = i := (by omega); rw [ey, e4]; rfl); exact hy9) (by have hy9 : y = rG (alM Al w z) (enM Al) k q (j + 1) := (by obtain rfl : k = i := (by omega); rw [ey, e4]; rfl); exact mrG_s1 (by rw [← hy9, ← e4]; exact zc116)) (by have h9 := mrG_T gq (gsmM gok) (eb.symm.trans zc10); omega) (by have h9 := mrG_T gq (gsmM gok) (eb.symm.trans zc10); omega) _ _ (hP.sub [0, 1] rfl) (hD.sub [0, 1] (by decide) rfl) hS ls (lv_sub hl [0, 3, 4, 5, 6, 7] rfl)
              · refine lv_iconst (v := nI 1) hx hb dX5_reach_119 (by decide) ?_
                refine lv_goto (tgt := 124) hx hb dX5_reach_120 (by decide) ?_
                refine lv_istore (lv' := [(5, .int (nI 1)), (7, .int (nI i)), (6, .int x4), (4, .int y), (0, .ref mo), (1, .int (nI q)), (2, .int w), (3, .int z)]) hx hb dX5_reach_124 hl (by decide) rfl (fun ls hl => ?_)
                refine lv_goto (tgt := 8) hx hb dX5_reach_126 (by decide) ?_
                exact ih8 y true (j + 1) (by have hy9 : y = rG (alM Al w z) (enM Al) k q (j + 1) := (by obtain rfl : k = i := (by omega); rw [ey, e4]; rfl); exact hy9) (by have hy9 : y = rG (alM Al w z) (enM Al) k q (j + 1) := (by obtain rfl : k = i := (by omega); rw [ey, e4]; rfl); exact mrG_s2 (by rw [← hy9, ← e4]; exact zc116)) (by have h9 := mrG_T gq (gsmM gok) (eb.symm.trans zc10); omega) (by have h9 := mrG_T gq (gsmM gok) (eb.symm.trans zc10); omega) _ _ (hP.sub [0, 1] rfl) (hD.sub [0, 1] (by decide) rfl) hS ls (lv_sub hl [0, 3, 4, 5, 6, 7] rfl)
            · refine lv_iload_n hx hb dX5_reach_31 rfl (lv_at hl 6 rfl) ?_
              refine lv_iload hx hb dX5_reach_32 (lv_at hl 0 rfl) ?_
              refine lv_ishr hx hb dX5_reach_34 ?_
              refine lv_iconst (v := nI 1) hx hb dX5_reach_35 (by decide) ?_
              refine lv_iand hx hb dX5_reach_36 ?_
              refine lv_if_ne (tgt := 71) hx hb dX5_reach_37 (by decide) (fun zc37 => ?_) (fun zc37 => ?_)
              · refine lv_iconst (v := nI 0) hx hb dX5_reach_71 (by decide) ?_
                refine lv_istore (lv' := [(8, .int (nI 0)), (7, .int (nI i)), (6, .int x4), (5, .int (b2i b)), (4, .int y), (0, .ref mo), (1, .int (nI q)), (2, .int w), (3, .int z)]) hx hb dX5_reach_72 hl (by decide) rfl (fun ls hl => ?_)
                refine lv_iload hx hb dX5_reach_74 (lv_at hl 4 rfl) ?_
                refine lv_iload hx hb dX5_reach_76 (lv_at hl 0 rfl) ?_
                refine lv_if_eq (tgt := 102) hx hb dX5_reach_78 (by decide) (fun _ => ?_) (fun q => absurd q (by decide))
                refine lv_iconst (v := nI 0) hx hb dX5_reach_102 (by decide) ?_
                refine lv_ior hx hb dX5_reach_103 ?_
                refine lv_istore (lv' := [(4, .int (y ||| (nI 0))), (8, .int (nI 0)), (7, .int (nI i)), (6, .int x4), (5, .int (b2i b)), (0, .ref mo), (1, .int (nI q)), (2, .int w), (3, .int z)]) hx hb dX5_reach_104 hl (by decide) rfl (fun ls hl => ?_)
                refine lv_iinc (v := nI (i + 1)) (lv' := [(7, .int (nI (i + 1))), (4, .int (y ||| (nI 0))), (8, .int (nI 0)), (6, .int x4), (5, .int (b2i b)), (0, .ref mo), (1, .int (nI q)), (2, .int w), (3, .int z)]) hx hb dX5_reach_106 hl (k := 2) rfl (by rw [show Int32.ofInt 1 = nI 1 by decide]; exact nI_add _ _) (by decide) rfl (fun ls hl => ?_)
                refine lv_goto (tgt := 20) hx hb dX5_reach_109 (by decide) ?_
                exact ih20 (y ||| (nI 0)) (i + 1) (by rw [or_z, psG_f1 (al := alM Al w z) (en := enM Al) (r := i) (alM_f1 (cnt_t zc37))]; exact ey) (by first | assumption | omega | rfl) (by omega) _ _ (hP.sub [0, 1] rfl) (hD.sub [0, 1] (by decide) rfl) hS ls (lv_sub hl [0, 3, 4, 1, 5, 6, 7, 8] rfl)
              · refine lv_aload_n hx hb dX5_reach_40 rfl (lv_at hl 4 rfl) ?_
                refine rk_get (ci := 5) (C := RX5) (T := TX5) (N := 13) hx hb hts iw_X5_reach_5 hown hK hP 0 rfl rfl 0 (by decide) fl_X5_reach_7 rfl (v := .ref mA) rfl dX5_reach_41 ?_
                refine lv_iconst (v := nI 2) hx hb dX5_reach_44 (by decide) ?_
                refine lv_iload hx hb dX5_reach_45 (lv_at hl 0 rfl) ?_
                refine rk_iaddN hx hb dX5_reach_47 ?_
                refine rk_iald hx hb hK hP 1 rfl (by omega) (by omega) (v := nI (mlo Al i)) ((gok i (by omega)).1) dX5_reach_48 ?_
                refine lv_iload_n hx hb dX5_reach_49 rfl (lv_at hl 7 rfl) ?_
                refine lv_icmp_eq (tgt := 71) hx hb dX5_reach_50 (by decide) (fun zc50 => ?_) (fun zc50 => ?_)
                · refine lv_iconst (v := nI 0) hx hb dX5_reach_71 (by decide) ?_
                  refine lv_istore (lv' := [(8, .int (nI 0)), (7, .int (nI i)), (6, .int x4), (5, .int (b2i b)), (4, .int y), (0, .ref mo), (1, .int (nI q)), (2, .int w), (3, .int z)]) hx hb dX5_reach_72 hl (by decide) rfl (fun ls hl => ?_)
                  refine lv_iload hx hb dX5_reach_74 (lv_at hl 4 rfl) ?_
                  refine lv_iload hx hb dX5_reach_76 (lv_at hl 0 rfl) ?_
                  refine lv_if_eq (tgt := 102) hx hb dX5_reach_78 (by decide) (fun _ => ?_) (fun q => absurd q (by decide))
                  refine lv_iconst (v := nI 0) hx hb dX5_reach_102 (by decide) ?_
                  refine lv_ior hx hb dX5_reach_103 ?_
                  refine lv_istore (lv' := [(4, .int (y ||| (nI 0))), (8, .int (nI 0)), (7, .int (nI i)), (6, .int x4), (5, .int (b2i b)), (0, .ref mo), (1, .int (nI q)), (2, .int w), (3, .int z)]) hx hb dX5_reach_104 hl (by decide) rfl (fun ls hl => ?_)
                  refine lv_iinc (v := nI (i + 1)) (lv' := [(7, .int (nI (i + 1))), (4, .int (y ||| (nI 0))), (8, .int (nI 0)), (6, .int x4), (5, .int (b2i b)), (0, .ref mo), (1, .int (nI q)), (2, .int w), (3, .int z)]) hx hb dX5_reach_106 hl (k := 2) rfl (by rw [show Int32.ofInt 1 = nI 1 by decide]; exact nI_add _ _) (by decide) rfl (fun ls hl => ?_)
                  refine lv_goto (tgt := 20) hx hb dX5_reach_109 (by decide) ?_
                  exact ih20 (y ||| (nI 0)) (i + 1) (by rw [or_z, psG_f1 (al := alM Al w z) (en := enM Al) (r := i) (alM_f2 zc50)]; exact ey) (by first | assumption | omega | rfl) (by omega) _ _ (hP.sub [0, 1] rfl) (hD.sub [0, 1] (by decide) rfl) hS ls (lv_sub hl [0, 3, 4, 1, 5, 6, 7, 8] rfl)
                · refine lv_aload_n hx hb dX5_reach_53 rfl (lv_at hl 4 rfl) ?_
                  refine rk_get (ci := 5) (C := RX5) (T := TX5) (N := 13) hx hb hts iw_X5_reach_5 hown hK hP 0 rfl rfl 0 (by decide) fl_X5_reach_7 rfl (v := .ref mA) rfl dX5_reach_54 ?_
                  refine lv_bipush (v := nI 32) hx hb dX5_reach_57 (by decide) ?_
                  refine lv_iload hx hb dX5_reach_59 (lv_at hl 0 rfl) ?_
                  refine rk_iaddN hx hb dX5_reach_61 ?_
                  refine rk_iald hx hb hK hP 1 rfl (by omega) (by omega) (v := nI (mhi Al i)) ((gok i (by omega)).2.2.1) dX5_reach_62 ?_
                  refine lv_iload_n hx hb dX5_reach_63 rfl (lv_at hl 7 rfl) ?_
                  refine lv_icmp_eq (tgt := 71) hx hb dX5_reach_64 (by decide) (fun zc64 => ?_) (fun zc64 => ?_)
                  · refine lv_iconst (v := nI 0) hx hb dX5_reach_71 (by decide) ?_
                    refine lv_istore (lv' := [(8, .int (nI 0)), (7, .int (nI i)), (6, .int x4), (5, .int (b2i b)), (4, .int y), (0, .ref mo), (1, .int (nI q)), (2, .int w), (3, .int z)]) hx hb dX5_reach_72 hl (by decide) rfl (fun ls hl => ?_)
                    refine lv_iload hx hb dX5_reach_74 (lv_at hl 4 rfl) ?_
                    refine lv_iload hx hb dX5_reach_76 (lv_at hl 0 rfl) ?_
                    refine lv_if_eq (tgt := 102) hx hb dX5_reach_78 (by decide) (fun _ => ?_) (fun q => absurd q (by decide))
                    refine lv_iconst (v := nI 0) hx hb dX5_reach_102 (by decide) ?_
                    refine lv_ior hx hb dX5_reach_103 ?_
                    refine lv_istore (lv' := [(4, .int (y ||| (nI 0))), (8, .int (nI 0)), (7, .int (nI i)), (6, .int x4), (5, .int (b2i b)), (0, .ref mo), (1, .int (nI q)), (2, .int w), (3, .int z)]) hx hb dX5_reach_104 hl (by decide) rfl (fun ls hl => ?_)
                    refine lv_iinc (v := nI (i + 1)) (lv' := [(7, .int (nI (i + 1))), (4, .int (y ||| (nI 0))), (8, .int (nI 0)), (6, .int x4), (5, .int (b2i b)), (0, .ref mo), (1, .int (nI q)), (2, .int w), (3, .int z)]) hx hb dX5_reach_106 hl (k := 2) rfl (by rw [show Int32.ofInt 1 = nI 1 by decide]; exact nI_add _ _) (by decide) rfl (fun ls hl => ?_)
                    refine lv_goto (tgt := 20) hx hb dX5_reach_109 (by decide) ?_
                    exact ih20 (y ||| (nI 0)) (i + 1) (by rw [or_z, psG_f1 (al := alM Al w z) (en := enM Al) (r := i) (alM_f3 zc64)]; exact ey) (by first | assumption | omega | rfl) (by omega) _ _ (hP.sub [0, 1] rfl) (hD.sub [0, 1] (by decide) rfl) hS ls (lv_sub hl [0, 3, 4, 1, 5, 6, 7, 8] rfl)
                  · refine lv_iconst (v := nI 1) hx hb dX5_reach_67 (by decide) ?_
                    refine lv_goto (tgt := 72) hx hb dX5_reach_68 (by decide) ?_
                    refine lv_istore (lv' := [(8, .int (nI 1)), (7, .int (nI i)), (6, .int x4), (5, .int (b2i b)), (4, .int y), (0, .ref mo), (1, .int (nI q)), (2, .int w), (3, .int z)]) hx hb dX5_reach_72 hl (by decide) rfl (fun ls hl => ?_)
                    refine lv_iload hx hb dX5_reach_74 (lv_at hl 4 rfl) ?_
                    refine lv_iload hx hb dX5_reach_76 (lv_at hl 0 rfl) ?_
                    refine lv_if_eq (tgt := 102) hx hb dX5_reach_78 (by decide) (fun q => absurd q (by decide)) (fun _ => ?_)
                    refine lv_iload hx hb dX5_reach_81 (lv_at hl 4 rfl) ?_
                    refine lv_aload_n hx hb dX5_reach_83 rfl (lv_at hl 5 rfl) ?_
                    refine lv_iload hx hb dX5_reach_84 (lv_at hl 1 rfl) ?_
                    refine kV_i (E := E) (As := [.int (nI i)]) (rest := [.int y, .int y]) (wr := []) ⟨hx, hb, hml, hown, hts⟩ (c_X5_ends (l := l) (E := E) (sz := _) (mo := mo) (mA := mA) (mK := mK) (mH := mH) (mS := mS) (mV := mV) (mF := mF) (mP := mP) (mR := mR) (hy := hy) (pl := pl) (sp := sp) (nu := nu) (rm := rm) (n := n) (k := k) (Al := Al) (r := i) (gA1 := by first | assumption | omega) (gk := by first | assumption | omega) (gok := by first | assumption | omega) (gr := by first | assumption | omega)) (cwV 1 hts gX5_reach_X5_ends rfl rfl rfl (by decide +kernel) ⟨by rw [hR]; decide, by rw [hR]; decide⟩) hK hN hP hD hS hA [0, 1] [] rfl (by decide) rfl (by decide) (by decide) 0 5 rfl rfl rfl hl.1 rfl (Nat.le_of_ble_eq_true rfl) dX5_reach_86 ⟨Nat.zero_le _, Nat.zero_le _⟩ (fun H locs hP hD hS => ?_)
                    have hP : va_P E.1 vwCl [(mo, .inr (5, [.ref mA, .ref mK, .ref mH, .int hy, .ref mS, .ref mV, .ref mF, .ref mP, .int pl, .int sp, .int nu, .ref mR, .int rm])), (mA, aI E 92 Al)] H := hP
                    have hD : va_D A [(mo, .inr (5, [.ref mA, .ref mK, .ref mH, .int hy, .ref mS, .ref mV, .ref mF, .ref mP, .int pl, .int sp, .int nu, .ref mR, .int rm])), (mA, aI E 92 Al)] := hD
                    refine lv_iand hx hb dX5_reach_89 ?_
                    refine lv_if_eq (tgt := 102) hx hb dX5_reach_90 (by decide) (fun zc90 => ?_) (fun zc90 => ?_)
                    · refine lv_iconst (v := nI 0) hx hb dX5_reach_102 (by decide) ?_
                      refine lv_ior hx hb dX5_reach_103 ?_
                      refine lv_istore (lv' := [(4, .int (y ||| (nI 0))), (8, .int (nI 1)), (7, .int (nI i)), (6, .int x4), (5, .int (b2i b)), (0, .ref mo), (1, .int (nI q)), (2, .int w), (3, .int z)]) hx hb dX5_reach_104 hl (by decide) rfl (fun ls hl => ?_)
                      refine lv_iinc (v := nI (i + 1)) (lv' := [(7, .int (nI (i + 1))), (4, .int (y ||| (nI 0))), (8, .int (nI 1)), (6, .int x4), (5, .int (b2i b)), (0, .ref mo), (1, .int (nI q)), (2, .int w), (3, .int z)]) hx hb dX5_reach_106 hl (k := 2) rfl (by rw [show Int32.ofInt 1 = nI 1 by decide]; exact nI_add _ _) (by decide) rfl (fun ls hl => ?_)
                      refine lv_goto (tgt := 20) hx hb dX5_reach_109 (by decide) ?_
                      exact ih20 (y ||| (nI 0)) (i + 1) (by rw [or_z, psG_f2 (al := alM Al w z) (en := enM Al) (r := i) (by rw [← ey]; exact zc90)]; exact ey) (by first | assumption | omega | rfl) (by omega) _ _ (hP.sub [0, 1] rfl) (hD.sub [0, 1] (by decide) rfl) hS ls (lv_sub hl [0, 3, 4, 1, 5, 6, 7, 8] rfl)
                    · refine lv_aload_n hx hb dX5_reach_93 rfl (lv_at hl 5 rfl) ?_
                      refine lv_iload hx hb dX5_reach_94 (lv_at hl 1 rfl) ?_
                      refine kV_i (E := E) (As := [.int (nI i)]) (rest := [.int y]) (wr := []) ⟨hx, hb, hml, hown, hts⟩ (c_X5_ends (l := l) (E := E) (sz := _) (mo := mo) (mA := mA) (mK := mK) (mH := mH) (mS := mS) (mV := mV) (mF := mF) (mP := mP) (mR := mR) (hy := hy) (pl := pl) (sp := sp) (nu := nu) (rm := rm) (n := n) (k := k) (Al := Al) (r := i) (gA1 := by first | assumption | omega) (gk := by first | assumption | omega) (gok := by first | assumption | omega) (gr := by first | assumption | omega)) (cwV 1 hts gX5_reach_X5_ends rfl rfl rfl (by decide +kernel) ⟨by rw [hR]; decide, by rw [hR]; decide⟩) hK hN hP hD hS hA [0, 1] [] rfl (by decide) rfl (by decide) (by decide) 0 5 rfl rfl rfl hl.1 rfl (Nat.le_of_ble_eq_true rfl) dX5_reach_96 ⟨Nat.zero_le _, Nat.zero_le _⟩ (fun H locs hP hD hS => ?_)
                      have hP : va_P E.1 vwCl [(mo, .inr (5, [.ref mA, .ref mK, .ref mH, .int hy, .ref mS, .ref mV, .ref mF, .ref mP, .int pl, .int sp, .int nu, .ref mR, .int rm])), (mA, aI E 92 Al)] H := hP
                      have hD : va_D A [(mo, .inr (5, [.ref mA, .ref mK, .ref mH, .int hy, .ref mS, .ref mV, .ref mF, .ref mP, .int pl, .int sp, .int nu, .ref mR, .int rm])), (mA, aI E 92 Al)] := hD
                      refine lv_goto (tgt := 103) hx hb dX5_reach_99 (by decide) ?_
                      refine lv_ior hx hb dX5_reach_103 ?_
                      refine lv_istore (lv' := [(4, .int (y ||| (enM Al i))), (8, .int (nI 1)), (7, .int (nI i)), (6, .int x4), (5, .int (b2i b)), (0, .ref mo), (1, .int (nI q)), (2, .int w), (3, .int z)]) hx hb dX5_reach_104 hl (by decide) rfl (fun ls hl => ?_)
                      refine lv_iinc (v := nI (i + 1)) (lv' := [(7, .int (nI (i + 1))), (4, .int (y ||| (enM Al i))), (8, .int (nI 1)), (6, .int x4), (5, .int (b2i b)), (0, .ref mo), (1, .int (nI q)), (2, .int w), (3, .int z)]) hx hb dX5_reach_106 hl (k := 2) rfl (by rw [show Int32.ofInt 1 = nI 1 by decide]; exact nI_add _ _) (by decide) rfl (fun ls hl => ?_)
                      refine lv_goto (tgt := 20) hx hb dX5_reach_109 (by decide) ?_
                      exact ih20 (y ||| (enM Al i)) (i + 1) (by rw [psG_t (al := alM Al w z) (en := enM Al) (r := i) (alM_t (cnt_f zc37) zc50 zc64) (by rw [← ey]; exact zc90), ← ey]) (by first | assumption | omega | rfl) (by omega) _ _ (hP.sub [0, 1] rfl) (hD.sub [0, 1] (by decide) rfl) hS ls (lv_sub hl [0, 3, 4, 1, 5, 6, 7, 8] rfl)
        exact L20 ((k - 0) + 1) x4 0 (rfl) (by first | assumption | omega | rfl) (Nat.lt_succ_self _) _ _ (hP.sub [0, 1] rfl) (hD.sub [0, 1] (by decide) rfl) hS ls (lv_sub hl [0, 1, 2, 3, 4, 5, 6, 7] rfl)
  exact L8 ((18 - 0) + 1) ((nI 1) <<< ((nI q) &&& 31)) true 0 (rfl) (rfl) (by first | assumption | omega | rfl) (Nat.lt_succ_self _) _ _ (hP.sub [0, 1] rfl) (hD.sub [0, 1] (by decide) rfl) hS ls (lv_sub hl [0, 1, 2, 3, 4, 5] rfl)
set_option maxHeartbeats 400000 in
set_option maxRecDepth 100000 in
theorem c_X5_pieceOf (l : Launch) (E : EE) (sz : Nat) (mo mA mK mH mS mV mF mP mR : Nat) (hy pl sp nu rm : Int32) (n k : Nat) (Al : Nat → Int32) (q : Nat) (gA1 : Al 1 = nI k) (gk : k ≤ 30) (gok : okA Al k) (gq : q < 16) : Ci l yX5_pieceOf wsX5_pieceOf 2 49 E [.ref mo, .int (nI q)] [(mo, .inr (5, [.ref mA, .ref mK, .ref mH, .int hy, .ref mS, .ref mV, .ref mF, .ref mP, .int pl, .int sp, .int nu, .ref mR, .int rm])), (mA, aI E 92 Al)] sz (rsM Al (nI 0) (-6) k q) [(mo, .inr (5, [.ref mA, .ref mK, .ref mH, .int hy, .ref mS, .ref mV, .ref mF, .ref mP, .int pl, .int sp, .int nu, .ref mR, .int rm])), (mA, aI E 92 Al)] := by
  refine C_of (QQ := QI E (rsM Al (nI 0) (-6) k q) [(mo, .inr (5, [.ref mA, .ref mK, .ref mH, .int hy, .ref mS, .ref mV, .ref mF, .ref mP, .int pl, .int sp, .int nu, .ref mR, .int rm])), (mA, aI E 92 Al)]) (cc := cX5_pieceOf) (maxL := 2) (ret := (some .int)) (by decide +kernel) rfl (Nat.le_of_ble_eq_true rfl) ?_
  intro p e s m args below meth c A R Q ls hx hb hr hts hown hml hlocks hA hK hN hP hD hS hl hR hQ
  have hown : s.vm.findClass RX5 = some m.cls := hown
  have hl : lv_has ls 2 [(0, .ref mo), (1, .int (nI q))] := hl
  refine lv_aload_n hx hb dX5_pieceOf_0 rfl (lv_at hl 0 rfl) ?_
  refine lv_iload_n hx hb dX5_pieceOf_1 rfl (lv_at hl 1 rfl) ?_
  refine lv_iconst (v := nI 0) hx hb dX5_pieceOf_2 (by decide) ?_
  refine lv_bipush (v := (-6)) hx hb dX5_pieceOf_3 (by decide) ?_
  refine kV_i (E := E) (As := [.int (nI q), .int (nI 0), .int ((-6))]) (rest := []) (wr := []) ⟨hx, hb, hml, hown, hts⟩ (c_X5_reach (l := l) (E := E) (sz := _) (mo := mo) (mA := mA) (mK := mK) (mH := mH) (mS := mS) (mV := mV) (mF := mF) (mP := mP) (mR := mR) (hy := hy) (pl := pl) (sp := sp) (nu := nu) (rm := rm) (n := n) (k := k) (Al := Al) (q := q) (w := nI 0) (z := (-6)) (gA1 := by first | assumption | omega) (gk := by first | assumption | omega) (gok := by first | assumption | omega) (gq := by first | assumption | omega)) (cwV 3 hts gX5_pieceOf_X5_reach rfl rfl rfl (by decide +kernel) ⟨by rw [hR]; decide, by rw [hR]; decide⟩) hK hN hP hD hS hA [0, 1] [] rfl (by decide) rfl (by decide) (by decide) 0 5 rfl rfl rfl hl.1 rfl (Nat.le_of_ble_eq_true rfl) dX5_pieceOf_5 ⟨Nat.zero_le _, Nat.zero_le _⟩ (fun H locs hP hD hS => ?_)
  have hP : va_P E.1 vwCl [(mo, .inr (5, [.ref mA, .ref mK, .ref mH, .int hy, .ref mS, .ref mV, .ref mF, .ref mP, .int pl, .int sp, .int nu, .ref mR, .int rm])), (mA, aI E 92 Al)] H := hP
  have hD : va_D A [(mo, .inr (5, [.ref mA, .ref mK, .ref mH, .int hy, .ref mS, .ref mV, .ref mF, .ref mP, .int pl, .int sp, .int nu, .ref mR, .int rm])), (mA, aI E 92 Al)] := hD
  exact ret_i hQ hx hb hr hlocks (hP.sub [0, 1] rfl) (hD.sub [0, 1] (by decide) rfl) hS dX5_pieceOf_8 (rfl)
theorem iw_X5_piecesWithout_5 : ∀ w ∈ u_ws RX5 TX5 13, w ∈ wsX5_piecesWithout := by decide +kernel
theorem fl_X5_piecesWithout_7 : Cond.fieldLink RX5 7 (TX5 0).1 (TX5 0).2.1 (TX5 0).2.2.1 ∈ wsX5_piecesWithout := by decide +kernel
set_option maxHeartbeats 400000 in
set_option maxRecDepth 100000 in
theorem c_X5_piecesWithout (l : Launch) (E : EE) (sz : Nat) (mo mA mK mH mS mV mF mP mR : Nat) (hy pl sp nu rm : Int32) (n k : Nat) (Al : Nat → Int32) (w z : Int32) (gA0 : Al 0 = nI n) (gn : n ≤ 16) (gA1 : Al 1 = nI k) (gk : k ≤ 30) (gok : okA Al k) : Ci l yX5_piecesWithout wsX5_piecesWithout 2 49 E [.ref mo, .int w, .int z] [(mo, .inr (5, [.ref mA, .ref mK, .ref mH, .int hy, .ref mS, .ref mV, .ref mF, .ref mP, .int pl, .int sp, .int nu, .ref mR, .int rm])), (mA, aI E 92 Al)] sz (nI (pwM (rsM Al w z k) z n)) [(mo, .inr (5, [.ref mA, .ref mK, .ref mH, .int hy, .ref mS, .ref mV, .ref mF, .ref mP, .int pl, .int sp, .int nu, .ref mR, .int rm])), (mA, aI E 92 Al)] := by
  refine C_of (QQ := QI E (nI (pwM (rsM Al w z k) z n)) [(mo, .inr (5, [.ref mA, .ref mK, .ref mH, .int hy, .ref mS, .ref mV, .ref mF, .ref mP, .int pl, .int sp, .int nu, .ref mR, .int rm])), (mA, aI E 92 Al)]) (cc := cX5_piecesWithout) (maxL := 5) (ret := (some .int)) (by decide +kernel) rfl (Nat.le_of_ble_eq_true rfl) ?_
  intro p e s m args below meth c A R Q ls hx hb hr hts hown hml hlocks hA hK hN hP hD hS hl hR hQ
  have hown : s.vm.findClass RX5 = some m.cls := hown
  have hl : lv_has ls 5 [(0, .ref mo), (1, .int w), (2, .int z)] := hl
  refine lv_iconst (v := nI 0) hx hb dX5_piecesWithout_0 (by decide) ?_
  refine lv_istore_n (lv' := [(3, .int (nI 0)), (0, .ref mo), (1, .int w), (2, .int z)]) hx hb dX5_piecesWithout_1 rfl hl (by decide) rfl (fun ls hl => ?_)
  refine lv_iconst (v := nI 0) hx hb dX5_piecesWithout_2 (by decide) ?_
  refine lv_istore (lv' := [(4, .int (nI 0)), (3, .int (nI 0)), (0, .ref mo), (1, .int w), (2, .int z)]) hx hb dX5_piecesWithout_3 hl (by decide) rfl (fun ls hl => ?_)
  have L5 : ∀ (fu : Nat) (cn q : Nat), (ec : cn = pwM (rsM Al w z k) z q) → (gq9 : q ≤ n) → n - q < fu → ∀ (H : Heap) (locs : List Loc), va_P E.1 vwCl [(mo, .inr (5, [.ref mA, .ref mK, .ref mH, .int hy, .ref mS, .ref mV, .ref mF, .ref mP, .int pl, .int sp, .int nu, .ref mR, .int rm])), (mA, aI E 92 Al)] H → va_D A [(mo, .inr (5, [.ref mA, .ref mK, .ref mH, .int hy, .ref mS, .ref mV, .ref mF, .ref mP, .int pl, .int sp, .int nu, .ref mR, .int rm])), (mA, aI E 92 Al)] → va_S A s.heap H locs → ∀ (ls : Array Slot), lv_has ls 5 [(4, .int (nI q)), (3, .int (nI cn)), (0, .ref mo), (1, .int w), (2, .int z)] → W p l e R s m args below meth c H locs 0 0 Q (F0 m 5 ls []) := by
    intro fu
    induction fu with
    | zero => intro cn q ec gq9 hfu; exact absurd hfu (Nat.not_lt_zero _)
    | succ fu ih5 =>
      intro cn q ec gq9 hfu H locs hP hD hS ls hl
      refine lv_iload hx hb dX5_piecesWithout_5 (lv_at hl 0 rfl) ?_
      refine lv_aload_n hx hb dX5_piecesWithout_7 rfl (lv_at hl 2 rfl) ?_
      refine rk_get (ci := 5) (C := RX5) (T := TX5) (N := 13) hx hb hts iw_X5_piecesWithout_5 hown hK hP 0 rfl rfl 0 (by decide) fl_X5_piecesWithout_7 rfl (v := .ref mA) rfl dX5_piecesWithout_8 ?_
      refine lv_iconst (v := nI 0) hx hb dX5_piecesWithout_11 (by decide) ?_
      refine rk_iald hx hb hK hP 1 rfl (by omega) (by omega) (v := nI n) (by exact gA0) dX5_piecesWithout_12 ?_
      refine rk_geN (tgt := 54) hx hb (by omega) (by omega) dX5_piecesWithout_13 (by decide) (fun zc13 => ?_) (fun zc13 => ?_)
      · refine lv_iload_n hx hb dX5_piecesWithout_54 rfl (lv_at hl 1 rfl) ?_
        exact ret_i hQ hx hb hr hlocks (hP.sub [0, 1] rfl) (hD.sub [0, 1] (by decide) rfl) hS dX5_piecesWithout_55 (by obtain rfl : n = q := (by omega); rw [ec])
      · refine lv_iload_n hx hb dX5_piecesWithout_16 rfl (lv_at hl 1 rfl) ?_
        refine lv_iload hx hb dX5_piecesWithout_17 (lv_at hl 0 rfl) ?_
        refine lv_iload_n hx hb dX5_piecesWithout_19 rfl (lv_at hl 4 rfl) ?_
        refine lv_icmp_eq (tgt := 45) hx hb dX5_piecesWithout_20 (by decide) (fun zc20 => ?_) (fun zc20 => ?_)
        · refine lv_iconst (v := nI 0) hx hb dX5_piecesWithout_45 (by decide) ?_
          refine rk_iaddN hx hb dX5_piecesWithout_46 ?_
          refine lv_istore_n (lv' := [(3, .int (nI (cn + 0))), (4, .int (nI q)), (0, .ref mo), (1, .int w), (2, .int z)]) hx hb dX5_piecesWithout_47 rfl hl (by decide) rfl (fun ls hl => ?_)
          refine lv_iinc (v := nI (q + 1)) (lv' := [(4, .int (nI (q + 1))), (3, .int (nI (cn + 0))), (0, .ref mo), (1, .int w), (2, .int z)]) hx hb dX5_piecesWithout_48 hl (k := 1) rfl (by rw [show Int32.ofInt 1 = nI 1 by decide]; exact nI_add _ _) (by decide) rfl (fun ls hl => ?_)
          refine lv_goto (tgt := 5) hx hb dX5_piecesWithout_51 (by decide) ?_
          exact ih5 (cn + 0) (q + 1) (by subst ec; simp only [pwM]; exact (ifn1 (fun q9 => q9 zc20)).symm) (by first | assumption | omega | rfl) (by omega) _ _ (hP.sub [0, 1] rfl) (hD.sub [0, 1] (by decide) rfl) hS ls (lv_sub hl [0, 1, 2, 3, 4] rfl)
        · refine lv_aload_n hx hb dX5_piecesWithout_23 rfl (lv_at hl 2 rfl) ?_
          refine lv_iload hx hb dX5_piecesWithout_24 (lv_at hl 0 rfl) ?_
          refine lv_iload_n hx hb dX5_piecesWithout_26 rfl (lv_at hl 3 rfl) ?_
          refine lv_iload_n hx hb dX5_piecesWithout_27 rfl (lv_at hl 4 rfl) ?_
          refine kV_i (E := E) (As := [.int (nI q), .int w, .int z]) (rest := [.int (nI cn)]) (wr := []) ⟨hx, hb, hml, hown, hts⟩ (c_X5_reach (l := l) (E := E) (sz := _) (mo := mo) (mA := mA) (mK := mK) (mH := mH) (mS := mS) (mV := mV) (mF := mF) (mP := mP) (mR := mR) (hy := hy) (pl := pl) (sp := sp) (nu := nu) (rm := rm) (n := n) (k := k) (Al := Al) (q := q) (w := w) (z := z) (gA1 := by first | assumption | omega) (gk := by first | assumption | omega) (gok := by first | assumption | omega) (gq := by first | assumption | omega)) (cwV 3 hts gX5_piecesWithout_X5_reach rfl rfl rfl (by decide +kernel) ⟨by rw [hR]; decide, by rw [hR]; decide⟩) hK hN hP hD hS hA [0, 1] [] rfl (by decide) rfl (by decide) (by decide) 0 5 rfl rfl rfl hl.1 rfl (Nat.le_of_ble_eq_true rfl) dX5_piecesWithout_28 ⟨Nat.zero_le _, Nat.zero_le _⟩ (fun H locs hP hD hS => ?_)
          have hP : va_P E.1 vwCl [(mo, .inr (5, [.ref mA, .ref mK, .ref mH, .int hy, .ref mS, .ref mV, .ref mF, .ref mP, .int pl, .int sp, .int nu, .ref mR, .int rm])), (mA, aI E 92 Al)] H := hP
          have hD : va_D A [(mo, .inr (5, [.ref mA, .ref mK, .ref mH, .int hy, .ref mS, .ref mV, .ref mF, .ref mP, .int pl, .int sp, .int nu, .ref mR, .int rm])), (mA, aI E 92 Al)] := hD
          refine lv_iconst (v := nI 1) hx hb dX5_piecesWithout_31 (by decide) ?_
          refine lv_iload hx hb dX5_piecesWithout_32 (lv_at hl 0 rfl) ?_
          refine lv_ishl hx hb dX5_piecesWithout_34 ?_
          refine lv_iconst (v := nI 1) hx hb dX5_piecesWithout_35 (by decide) ?_
          refine lv_isub hx hb dX5_piecesWithout_36 ?_
          refine lv_iand hx hb dX5_piecesWithout_37 ?_
          refine lv_if_ne (tgt := 45) hx hb dX5_piecesWithout_38 (by decide) (fun zc38 => ?_) (fun zc38 => ?_)
          · refine lv_iconst (v := nI 0) hx hb dX5_piecesWithout_45 (by decide) ?_
            refine rk_iaddN hx hb dX5_piecesWithout_46 ?_
            refine lv_istore_n (lv' := [(3, .int (nI (cn + 0))), (4, .int (nI q)), (0, .ref mo), (1, .int w), (2, .int z)]) hx hb dX5_piecesWithout_47 rfl hl (by decide) rfl (fun ls hl => ?_)
            refine lv_iinc (v := nI (q + 1)) (lv' := [(4, .int (nI (q + 1))), (3, .int (nI (cn + 0))), (0, .ref mo), (1, .int w), (2, .int z)]) hx hb dX5_piecesWithout_48 hl (k := 1) rfl (by rw [show Int32.ofInt 1 = nI 1 by decide]; exact nI_add _ _) (by decide) rfl (fun ls hl => ?_)
            refine lv_goto (tgt := 5) hx hb dX5_piecesWithout_51 (by decide) ?_
            exact ih5 (cn + 0) (q + 1) (by subst ec; simp only [pwM]; exact (ifn2 zc38).symm) (by first | assumption | omega | rfl) (by omega) _ _ (hP.sub [0, 1] rfl) (hD.sub [0, 1] (by decide) rfl) hS ls (lv_sub hl [0, 1, 2, 3, 4] rfl)
          · refine lv_iconst (v := nI 1) hx hb dX5_piecesWithout_41 (by decide) ?_
            refine lv_goto (tgt := 46) hx hb dX5_piecesWithout_42 (by decide) ?_
            refine rk_iaddN hx hb dX5_piecesWithout_46 ?_
            refine lv_istore_n (lv' := [(3, .int (nI (cn + 1))), (4, .int (nI q)), (0, .ref mo), (1, .int w), (2, .int z)]) hx hb dX5_piecesWithout_47 rfl hl (by decide) rfl (fun ls hl => ?_)
            refine lv_iinc (v := nI (q + 1)) (lv' := [(4, .int (nI (q + 1))), (3, .int (nI (cn + 1))), (0, .ref mo), (1, .int w), (2, .int z)]) hx hb dX5_piecesWithout_48 hl (k := 1) rfl (by rw [show Int32.ofInt 1 = nI 1 by decide]; exact nI_add _ _) (by decide) rfl (fun ls hl => ?_)
            refine lv_goto (tgt := 5) hx hb dX5_piecesWithout_51 (by decide) ?_
            exact ih5 (cn + 1) (q + 1) (by subst ec; simp only [pwM]; exact (if_pos (And.intro zc20 zc38)).symm) (by first | assumption | omega | rfl) (by omega) _ _ (hP.sub [0, 1] rfl) (hD.sub [0, 1] (by decide) rfl) hS ls (lv_sub hl [0, 1, 2, 3, 4] rfl)
  exact L5 ((n - 0) + 1) 0 0 (rfl) (by first | assumption | omega | rfl) (Nat.lt_succ_self _) _ _ (hP.sub [0, 1] rfl) (hD.sub [0, 1] (by decide) rfl) hS ls (lv_sub hl [0, 1, 2, 3, 4] rfl)
set_option maxHeartbeats 400000 in
set_option maxRecDepth 100000 in
theorem c_X5_pieces (l : Launch) (E : EE) (sz : Nat) (mo mA mK mH mS mV mF mP mR : Nat) (hy pl sp nu rm : Int32) (n k : Nat) (Al : Nat → Int32)  (gA0 : Al 0 = nI n) (gn : n ≤ 16) (gA1 : Al 1 = nI k) (gk : k ≤ 30) (gok : okA Al k) : Ci l yX5_pieces wsX5_pieces 3 73 E [.ref mo] [(mo, .inr (5, [.ref mA, .ref mK, .ref mH, .int hy, .ref mS, .ref mV, .ref mF, .ref mP, .int pl, .int sp, .int nu, .ref mR, .int rm])), (mA, aI E 92 Al)] sz (nI (piM Al k n)) [(mo, .inr (5, [.ref mA, .ref mK, .ref mH, .int hy, .ref mS, .ref mV, .ref mF, .ref mP, .int pl, .int sp, .int nu, .ref mR, .int rm])), (mA, aI E 92 Al)] := by
  refine C_of (QQ := QI E (nI (piM Al k n)) [(mo, .inr (5, [.ref mA, .ref mK, .ref mH, .int hy, .ref mS, .ref mV, .ref mF, .ref mP, .int pl, .int sp, .int nu, .ref mR, .int rm])), (mA, aI E 92 Al)]) (cc := cX5_pieces) (maxL := 1) (ret := (some .int)) (by decide +kernel) rfl (Nat.le_of_ble_eq_true rfl) ?_
  intro p e s m args below meth c A R Q ls hx hb hr hts hown hml hlocks hA hK hN hP hD hS hl hR hQ
  have hown : s.vm.findClass RX5 = some m.cls := hown
  have hl : lv_has ls 1 [(0, .ref mo)] := hl
  refine lv_aload_n hx hb dX5_pieces_0 rfl (lv_at hl 0 rfl) ?_
  refine lv_iconst (v := nI 0) hx hb dX5_pieces_1 (by decide) ?_
  refine lv_bipush (v := (-6)) hx hb dX5_pieces_2 (by decide) ?_
  refine kV_i (E := E) (As := [.int (nI 0), .int ((-6))]) (rest := []) (wr := []) ⟨hx, hb, hml, hown, hts⟩ (c_X5_piecesWithout (l := l) (E := E) (sz := _) (mo := mo) (mA := mA) (mK := mK) (mH := mH) (mS := mS) (mV := mV) (mF := mF) (mP := mP) (mR := mR) (hy := hy) (pl := pl) (sp := sp) (nu := nu) (rm := rm) (n := n) (k := k) (Al := Al) (w := nI 0) (z := (-6)) (gA0 := by first | assumption | omega) (gn := by first | assumption | omega) (gA1 := by first | assumption | omega) (gk := by first | assumption | omega) (gok := by first | assumption | omega)) (cwV 2 hts gX5_pieces_X5_piecesWithout rfl rfl rfl (by decide +kernel) ⟨by rw [hR]; decide, by rw [hR]; decide⟩) hK hN hP hD hS hA [0, 1] [] rfl (by decide) rfl (by decide) (by decide) 0 5 rfl rfl rfl hl.1 rfl (Nat.le_of_ble_eq_true rfl) dX5_pieces_4 ⟨Nat.zero_le _, Nat.zero_le _⟩ (fun H locs hP hD hS => ?_)
  have hP : va_P E.1 vwCl [(mo, .inr (5, [.ref mA, .ref mK, .ref mH, .int hy, .ref mS, .ref mV, .ref mF, .ref mP, .int pl, .int sp, .int nu, .ref mR, .int rm])), (mA, aI E 92 Al)] H := hP
  have hD : va_D A [(mo, .inr (5, [.ref mA, .ref mK, .ref mH, .int hy, .ref mS, .ref mV, .ref mF, .ref mP, .int pl, .int sp, .int nu, .ref mR, .int rm])), (mA, aI E 92 Al)] := hD
  exact ret_i hQ hx hb hr hlocks (hP.sub [0, 1] rfl) (hD.sub [0, 1] (by decide) rfl) hS dX5_pieces_7 (rfl)
theorem iw_X5_parts_5 : ∀ w ∈ u_ws RX5 TX5 13, w ∈ wsX5_parts := by decide +kernel
theorem fl_X5_parts_7 : Cond.fieldLink RX5 7 (TX5 0).1 (TX5 0).2.1 (TX5 0).2.2.1 ∈ wsX5_parts := by decide +kernel
set_option maxHeartbeats 400000 in
set_option maxRecDepth 100000 in
theorem c_X5_parts (l : Launch) (E : EE) (sz : Nat) (mo mA mK mH mS mV mF mP mR : Nat) (hy pl sp nu rm : Int32) (n k : Nat) (Al : Nat → Int32) (r : Nat) (gA1 : Al 1 = nI k) (gk : k ≤ 30) (gok : okA Al k) (gr : r < k) : Ci l yX5_parts wsX5_parts 2 49 E [.ref mo, .int (nI r)] [(mo, .inr (5, [.ref mA, .ref mK, .ref mH, .int hy, .ref mS, .ref mV, .ref mF, .ref mP, .int pl, .int sp, .int nu, .ref mR, .int rm])), (mA, aI E 92 Al)] sz (b2i (ptM Al k r)) [(mo, .inr (5, [.ref mA, .ref mK, .ref mH, .int hy, .ref mS, .ref mV, .ref mF, .ref mP, .int pl, .int sp, .int nu, .ref mR, .int rm])), (mA, aI E 92 Al)] := by
  refine C_of (QQ := QI E (b2i (ptM Al k r)) [(mo, .inr (5, [.ref mA, .ref mK, .ref mH, .int hy, .ref mS, .ref mV, .ref mF, .ref mP, .int pl, .int sp, .int nu, .ref mR, .int rm])), (mA, aI E 92 Al)]) (cc := cX5_parts) (maxL := 2) (ret := (some .boolean)) (by decide +kernel) rfl (Nat.le_of_ble_eq_true rfl) ?_
  intro p e s m args below meth c A R Q ls hx hb hr hts hown hml hlocks hA hK hN hP hD hS hl hR hQ
  have hown : s.vm.findClass RX5 = some m.cls := hown
  have hl : lv_has ls 2 [(0, .ref mo), (1, .int (nI r))] := hl
  refine lv_aload_n hx hb dX5_parts_0 rfl (lv_at hl 0 rfl) ?_
  refine lv_aload_n hx hb dX5_parts_1 rfl (lv_at hl 0 rfl) ?_
  refine rk_get (ci := 5) (C := RX5) (T := TX5) (N := 13) hx hb hts iw_X5_parts_5 hown hK hP 0 rfl rfl 0 (by decide) fl_X5_parts_7 rfl (v := .ref mA) rfl dX5_parts_2 ?_
  refine lv_iconst (v := nI 2) hx hb dX5_parts_5 (by decide) ?_
  refine lv_iload_n hx hb dX5_parts_6 rfl (lv_at hl 1 rfl) ?_
  refine rk_iaddN hx hb dX5_parts_7 ?_
  refine rk_iald hx hb hK hP 1 rfl (by omega) (by omega) (v := nI (mlo Al r)) ((gok r (by omega)).1) dX5_parts_8 ?_
  refine lv_iconst (v := nI 1) hx hb dX5_parts_9 (by decide) ?_
  refine lv_iload_n hx hb dX5_parts_10 rfl (lv_at hl 1 rfl) ?_
  refine lv_ishl hx hb dX5_parts_11 ?_
  refine lv_bipush (v := (-6)) hx hb dX5_parts_12 (by decide) ?_
  refine kV_i (E := E) (As := [.int (nI (mlo Al r)), .int ((nI 1) <<< ((nI r) &&& 31)), .int ((-6))]) (rest := []) (wr := []) ⟨hx, hb, hml, hown, hts⟩ (c_X5_reach (l := l) (E := E) (sz := _) (mo := mo) (mA := mA) (mK := mK) (mH := mH) (mS := mS) (mV := mV) (mF := mF) (mP := mP) (mR := mR) (hy := hy) (pl := pl) (sp := sp) (nu := nu) (rm := rm) (n := n) (k := k) (Al := Al) (q := mlo Al r) (w := (nI 1) <<< ((nI r) &&& 31)) (z := (-6)) (gA1 := by first | assumption | omega) (gk := by first | assumption | omega) (gok := by first | assumption | omega) (gq := (gok r gr).2.1)) (cwV 3 hts gX5_parts_X5_reach rfl rfl rfl (by decide +kernel) ⟨by rw [hR]; decide, by rw [hR]; decide⟩) hK hN hP hD hS hA [0, 1] [] rfl (by decide) rfl (by decide) (by decide) 0 5 rfl rfl rfl hl.1 rfl (Nat.le_of_ble_eq_true rfl) dX5_parts_14 ⟨Nat.zero_le _, Nat.zero_le _⟩ (fun H locs hP hD hS => ?_)
  have hP : va_P E.1 vwCl [(mo, .inr (5, [.ref mA, .ref mK, .ref mH, .int hy, .ref mS, .ref mV, .ref mF, .ref mP, .int pl, .int sp, .int nu, .ref mR, .int rm])), (mA, aI E 92 Al)] H := hP
  have hD : va_D A [(mo, .inr (5, [.ref mA, .ref mK, .ref mH, .int hy, .ref mS, .ref mV, .ref mF, .ref mP, .int pl, .int sp, .int nu, .ref mR, .int rm])), (mA, aI E 92 Al)] := hD
  refine lv_aload_n hx hb dX5_parts_17 rfl (lv_at hl 0 rfl) ?_
  refine rk_get (ci := 5) (C := RX5) (T := TX5) (N := 13) hx hb hts iw_X5_parts_5 hown hK hP 0 rfl rfl 0 (by decide) fl_X5_parts_7 rfl (v := .ref mA) rfl dX5_parts_18 ?_
  refine lv_bipush (v := nI 32) hx hb dX5_parts_21 (by decide) ?_
  refine lv_iload_n hx hb dX5_parts_23 rfl (lv_at hl 1 rfl) ?_
  refine rk_iaddN hx hb dX5_parts_24 ?_
  refine rk_iald hx hb hK hP 1 rfl (by omega) (by omega) (v := nI (mhi Al r)) ((gok r (by omega)).2.2.1) dX5_parts_25 ?_
  refine lv_ishr hx hb dX5_parts_26 ?_
  refine lv_iconst (v := nI 1) hx hb dX5_parts_27 (by decide) ?_
  refine lv_iand hx hb dX5_parts_28 ?_
  refine lv_if_ne (tgt := 36) hx hb dX5_parts_29 (by decide) (fun zc29 => ?_) (fun zc29 => ?_)
  · refine lv_iconst (v := nI 0) hx hb dX5_parts_36 (by decide) ?_
    exact ret_z hQ hx hb hr hlocks (hP.sub [0, 1] rfl) (hD.sub [0, 1] (by decide) rfl) hS dX5_parts_37 (nz_0) (by exact b2i_f (by rw [ptM, cnt_t zc29]; rfl))
  · refine lv_iconst (v := nI 1) hx hb dX5_parts_32 (by decide) ?_
    refine lv_goto (tgt := 37) hx hb dX5_parts_33 (by decide) ?_
    exact ret_z hQ hx hb hr hlocks (hP.sub [0, 1] rfl) (hD.sub [0, 1] (by decide) rfl) hS dX5_parts_37 (nz_1) (by exact b2i_t (by rw [ptM, cnt_f zc29]; rfl))
theorem iw_X5_parting_5 : ∀ w ∈ u_ws RX5 TX5 13, w ∈ wsX5_parting := by decide +kernel
theorem fl_X5_parting_7 : Cond.fieldLink RX5 7 (TX5 0).1 (TX5 0).2.1 (TX5 0).2.2.1 ∈ wsX5_parting := by decide +kernel
set_option maxHeartbeats 400000 in
set_option maxRecDepth 100000 in
theorem c_X5_parting (l : Launch) (E : EE) (sz : Nat) (mo mA mK mH mS mV mF mP mR : Nat) (hy pl sp nu rm : Int32) (n k : Nat) (Al : Nat → Int32)  (gA1 : Al 1 = nI k) (gk : k ≤ 30) (gok : okA Al k) : Ci l yX5_parting wsX5_parting 3 70 E [.ref mo] [(mo, .inr (5, [.ref mA, .ref mK, .ref mH, .int hy, .ref mS, .ref mV, .ref mF, .ref mP, .int pl, .int sp, .int nu, .ref mR, .int rm])), (mA, aI E 92 Al)] sz (pgM Al k k) [(mo, .inr (5, [.ref mA, .ref mK, .ref mH, .int hy, .ref mS, .ref mV, .ref mF, .ref mP, .int pl, .int sp, .int nu, .ref mR, .int rm])), (mA, aI E 92 Al)] := by
  refine C_of (QQ := QI E (pgM Al k k) [(mo, .inr (5, [.ref mA, .ref mK, .ref mH, .int hy, .ref mS, .ref mV, .ref mF, .ref mP, .int pl, .int sp, .int nu, .ref mR, .int rm])), (mA, aI E 92 Al)]) (cc := cX5_parting) (maxL := 3) (ret := (some .int)) (by decide +kernel) rfl (Nat.le_of_ble_eq_true rfl) ?_
  intro p e s m args below meth c A R Q ls hx hb hr hts hown hml hlocks hA hK hN hP hD hS hl hR hQ
  have hown : s.vm.findClass RX5 = some m.cls := hown
  have hl : lv_has ls 3 [(0, .ref mo)] := hl
  refine lv_iconst (v := nI 0) hx hb dX5_parting_0 (by decide) ?_
  refine lv_istore_n (lv' := [(1, .int (nI 0)), (0, .ref mo)]) hx hb dX5_parting_1 rfl hl (by decide) rfl (fun ls hl => ?_)
  refine lv_iconst (v := nI 0) hx hb dX5_parting_2 (by decide) ?_
  refine lv_istore_n (lv' := [(2, .int (nI 0)), (1, .int (nI 0)), (0, .ref mo)]) hx hb dX5_parting_3 rfl hl (by decide) rfl (fun ls hl => ?_)
  have L4 : ∀ (fu : Nat) (y : Int32) (i : Nat), (ey : y = pgM Al k i) → (gi : i ≤ k) → k - i < fu → ∀ (H : Heap) (locs : List Loc), va_P E.1 vwCl [(mo, .inr (5, [.ref mA, .ref mK, .ref mH, .int hy, .ref mS, .ref mV, .ref mF, .ref mP, .int pl, .int sp, .int nu, .ref mR, .int rm])), (mA, aI E 92 Al)] H → va_D A [(mo, .inr (5, [.ref mA, .ref mK, .ref mH, .int hy, .ref mS, .ref mV, .ref mF, .ref mP, .int pl, .int sp, .int nu, .ref mR, .int rm])), (mA, aI E 92 Al)] → va_S A s.heap H locs → ∀ (ls : Array Slot), lv_has ls 3 [(2, .int (nI i)), (1, .int y), (0, .ref mo)] → W p l e R s m args below meth c H locs 0 0 Q (F0 m 4 ls []) := by
    intro fu
    induction fu with
    | zero => intro y i ey gi hfu; exact absurd hfu (Nat.not_lt_zero _)
    | succ fu ih4 =>
      intro y i ey gi hfu H locs hP hD hS ls hl
      refine lv_iload_n hx hb dX5_parting_4 rfl (lv_at hl 0 rfl) ?_
      refine lv_aload_n hx hb dX5_parting_5 rfl (lv_at hl 2 rfl) ?_
      refine rk_get (ci := 5) (C := RX5) (T := TX5) (N := 13) hx hb hts iw_X5_parting_5 hown hK hP 0 rfl rfl 0 (by decide) fl_X5_parting_7 rfl (v := .ref mA) rfl dX5_parting_6 ?_
      refine lv_iconst (v := nI 1) hx hb dX5_parting_9 (by decide) ?_
      refine rk_iald hx hb hK hP 1 rfl (by omega) (by omega) (v := nI k) (by exact gA1) dX5_parting_10 ?_
      refine rk_geN (tgt := 38) hx hb (by omega) (by omega) dX5_parting_11 (by decide) (fun zc11 => ?_) (fun zc11 => ?_)
      · refine lv_iload_n hx hb dX5_parting_38 rfl (lv_at hl 1 rfl) ?_
        exact ret_i hQ hx hb hr hlocks (hP.sub [0, 1] rfl) (hD.sub [0, 1] (by decide) rfl) hS dX5_parting_39 (by obtain rfl : k = i := (by omega); exact ey)
      · refine lv_iload_n hx hb dX5_parting_14 rfl (lv_at hl 1 rfl) ?_
        refine lv_aload_n hx hb dX5_parting_15 rfl (lv_at hl 2 rfl) ?_
        refine lv_iload_n hx hb dX5_parting_16 rfl (lv_at hl 0 rfl) ?_
        refine kV_i (E := E) (As := [.int (nI i)]) (rest := [.int y]) (wr := []) ⟨hx, hb, hml, hown, hts⟩ (c_X5_parts (l := l) (E := E) (sz := _) (mo := mo) (mA := mA) (mK := mK) (mH := mH) (mS := mS) (mV := mV) (mF := mF) (mP := mP) (mR := mR) (hy := hy) (pl := pl) (sp := sp) (nu := nu) (rm := rm) (n := n) (k := k) (Al := Al) (r := i) (gA1 := by first | assumption | omega) (gk := by first | assumption | omega) (gok := by first | assumption | omega) (gr := by first | assumption | omega)) (cwV 1 hts gX5_parting_X5_parts rfl rfl rfl (by decide +kernel) ⟨by rw [hR]; decide, by rw [hR]; decide⟩) hK hN hP hD hS hA [0, 1] [] rfl (by decide) rfl (by decide) (by decide) 0 5 rfl rfl rfl hl.1 rfl (Nat.le_of_ble_eq_true rfl) dX5_parting_17 ⟨Nat.zero_le _, Nat.zero_le _⟩ (fun H locs hP hD hS => ?_)
        have hP : va_P E.1 vwCl [(mo, .inr (5, [.ref mA, .ref mK, .ref mH, .int hy, .ref mS, .ref mV, .ref mF, .ref mP, .int pl, .int sp, .int nu, .ref mR, .int rm])), (mA, aI E 92 Al)] H := hP
        have hD : va_D A [(mo, .inr (5, [.ref mA, .ref mK, .ref mH, .int hy, .ref mS, .ref mV, .ref mF, .ref mP, .int pl, .int sp, .int nu, .ref mR, .int rm])), (mA, aI E 92 Al)] := hD
        refine rk_if_eqB (tgt := 29) hx hb dX5_parting_20 (by decide) (fun zc20 => ?_) (fun zc20 => ?_)
        · refine lv_iconst (v := nI 0) hx hb dX5_parting_29 (by decide) ?_
          refine lv_ior hx hb dX5_parting_30 ?_
          refine lv_istore_n (lv' := [(1, .int (y ||| (nI 0))), (2, .int (nI i)), (0, .ref mo)]) hx hb dX5_parting_31 rfl hl (by decide) rfl (fun ls hl => ?_)
          refine lv_iinc (v := nI (i + 1)) (lv' := [(2, .int (nI (i + 1))), (1, .int (y ||| (nI 0))), (0, .ref mo)]) hx hb dX5_parting_32 hl (k := 1) rfl (by rw [show Int32.ofInt 1 = nI 1 by decide]; exact nI_add _ _) (by decide) rfl (fun ls hl => ?_)
          refine lv_goto (tgt := 4) hx hb dX5_parting_35 (by decide) ?_
          exact ih4 (y ||| (nI 0)) (i + 1) (by subst ey; simp only [pgM, or_z]; exact (if_neg (by rw [zc20]; decide)).symm) (by first | assumption | omega | rfl) (by omega) _ _ (hP.sub [0, 1] rfl) (hD.sub [0, 1] (by decide) rfl) hS ls (lv_sub hl [0, 1, 2] rfl)
        · refine lv_iconst (v := nI 1) hx hb dX5_parting_23 (by decide) ?_
          refine lv_iload_n hx hb dX5_parting_24 rfl (lv_at hl 0 rfl) ?_
          refine lv_ishl hx hb dX5_parting_25 ?_
          refine lv_goto (tgt := 30) hx hb dX5_parting_26 (by decide) ?_
          refine lv_ior hx hb dX5_parting_30 ?_
          refine lv_istore_n (lv' := [(1, .int (y ||| ((nI 1) <<< ((nI i) &&& 31)))), (2, .int (nI i)), (0, .ref mo)]) hx hb dX5_parting_31 rfl hl (by decide) rfl (fun ls hl => ?_)
          refine lv_iinc (v := nI (i + 1)) (lv' := [(2, .int (nI (i + 1))), (1, .int (y ||| ((nI 1) <<< ((nI i) &&& 31)))), (0, .ref mo)]) hx hb dX5_parting_32 hl (k := 1) rfl (by rw [show Int32.ofInt 1 = nI 1 by decide]; exact nI_add _ _) (by decide) rfl (fun ls hl => ?_)
          refine lv_goto (tgt := 4) hx hb dX5_parting_35 (by decide) ?_
          exact ih4 (y ||| ((nI 1) <<< ((nI i) &&& 31))) (i + 1) (by subst ey; simp only [pgM]; exact (if_pos zc20).symm) (by first | assumption | omega | rfl) (by omega) _ _ (hP.sub [0, 1] rfl) (hD.sub [0, 1] (by decide) rfl) hS ls (lv_sub hl [0, 1, 2] rfl)
  exact L4 ((k - 0) + 1) (nI 0) 0 (rfl) (by first | assumption | omega | rfl) (Nat.lt_succ_self _) _ _ (hP.sub [0, 1] rfl) (hD.sub [0, 1] (by decide) rfl) hS ls (lv_sub hl [0, 1, 2] rfl)
