theorem iw_X2_findPieces_2 : ∀ w ∈ u_ws RX2 TX2 9, w ∈ wsX2_findPieces := by decide +kernel
theorem fl_X2_findPieces_43 : Cond.fieldLink RX2 43 (TX2 6).1 (TX2 6).2.1 (TX2 6).2.2.1 ∈ wsX2_findPieces := by decide +kernel
theorem fl_X2_findPieces_27 : Cond.fieldLink RX2 27 (TX2 0).1 (TX2 0).2.1 (TX2 0).2.2.1 ∈ wsX2_findPieces := by decide +kernel
theorem iw_X2_findPieces_3 : ∀ w ∈ u_ws RX3 TX3 6, w ∈ wsX2_findPieces := by decide +kernel
theorem fl_X2_findPieces_47 : Cond.fieldLink RX2 47 (TX3 0).1 (TX3 0).2.1 (TX3 0).2.2.1 ∈ wsX2_findPieces := by decide +kernel
theorem inX4_X2_findPieces : Cond.initialized RX4 ∈ wsX2_findPieces := by decide +kernel
theorem stX4_contains_X2_findPieces : Cond.static yX4_contains ∈ wsX2_findPieces := by decide +kernel
theorem fl_X2_findPieces_9 : Cond.fieldLink RX2 9 (TX2 1).1 (TX2 1).2.1 (TX2 1).2.2.1 ∈ wsX2_findPieces := by decide +kernel
theorem stX4_setForMembers_X2_findPieces : Cond.static yX4_setForMembers ∈ wsX2_findPieces := by decide +kernel
set_option maxHeartbeats 400000 in
set_option maxRecDepth 100000 in
theorem c_X2_findPieces (l : Launch) (E : EE) (sz : Nat) (s0 t0 sP sD sS sL sF q1 q2 q3 q4 : Nat) (k n : Nat) (pc ds pr : Int32) (po en : Nat → Int32) (gk : k ≤ 30) (gn : n ≤ 16) : Cv l yX2_findPieces wsX2_findPieces 2 47 E [.ref s0] [(s0, .inr (2, [.ref t0, .ref sP, .ref sD, .ref sS, .ref sL, .ref sF, .int pc, .int ds, .int pr])), (t0, .inr (3, [.int (nI n), .int (nI k), .ref q1, .ref q2, .ref q3, .ref q4])), (sP, aI E 16 po), (q4, aI E 30 en)] sz [(s0, .inr (2, [.ref t0, .ref sP, .ref sD, .ref sS, .ref sL, .ref sF, .int (nI ((swP (rsC en (allR (nI k)) k) po n).2.1)), .int ds, .int pr])), (t0, .inr (3, [.int (nI n), .int (nI k), .ref q1, .ref q2, .ref q3, .ref q4])), (sP, aI E 16 ((swP (rsC en (allR (nI k)) k) po n).2.2)), (q4, aI E 30 en)] := by
  refine C_of (QQ := QV E [(s0, .inr (2, [.ref t0, .ref sP, .ref sD, .ref sS, .ref sL, .ref sF, .int (nI ((swP (rsC en (allR (nI k)) k) po n).2.1)), .int ds, .int pr])), (t0, .inr (3, [.int (nI n), .int (nI k), .ref q1, .ref q2, .ref q3, .ref q4])), (sP, aI E 16 ((swP (rsC en (allR (nI k)) k) po n).2.2)), (q4, aI E 30 en)]) (cc := cX2_findPieces) (maxL := 4) (ret := none) (by decide +kernel) rfl (Nat.le_of_ble_eq_true rfl) ?_
  intro p e s m args below meth c A R Q ls hx hb hr hts hown hml hlocks hA hK hN hP hD hS hl hR hQ
  have hown : s.vm.findClass RX2 = some m.cls := hown
  have hl : lv_has ls 4 [(0, .ref s0)] := hl
  refine lv_iconst (v := nI 0) hx hb dX2_findPieces_0 (by decide) ?_
  refine lv_istore_n (lv' := [(1, .int (nI 0)), (0, .ref s0)]) hx hb dX2_findPieces_1 rfl hl (by decide) rfl (fun ls hl => ?_)
  refine lv_aload_n hx hb dX2_findPieces_2 rfl (lv_at hl 1 rfl) ?_
  refine lv_iconst (v := nI 0) hx hb dX2_findPieces_3 (by decide) ?_
  refine rk_put (ci := 2) (C := RX2) (T := TX2) (N := 9) hx hb hts iw_X2_findPieces_2 tyX2 tyX2_ok nmX2 hown hK hP hD hS 0 rfl rfl 6 (by decide) fl_X2_findPieces_43 rfl rfl (tyX2_ok 6 (by decide)) rfl rfl (Nat.le_of_ble_eq_true rfl) (ws' := [(s0, .inr (2, [.ref t0, .ref sP, .ref sD, .ref sS, .ref sL, .ref sF, .int (nI 0), .int ds, .int pr])), (t0, .inr (3, [.int (nI n), .int (nI k), .ref q1, .ref q2, .ref q3, .ref q4])), (sP, aI E 16 po), (q4, aI E 30 en)]) rfl dX2_findPieces_4 (fun H locs hP hD hS => ?_)
  refine lv_iconst (v := nI 0) hx hb dX2_findPieces_7 (by decide) ?_
  refine lv_istore_n (lv' := [(2, .int (nI 0)), (1, .int (nI 0)), (0, .ref s0)]) hx hb dX2_findPieces_8 rfl hl (by decide) rfl (fun ls hl => ?_)
  have L9 : ∀ (fu : Nat) (sn : Int32) (q p1 : Nat) (f : Nat → Int32), (e1 : sn = (swP (rsC en (allR (nI k)) k) po q).1) → (e2 : p1 = (swP (rsC en (allR (nI k)) k) po q).2.1) → (e3 : f = (swP (rsC en (allR (nI k)) k) po q).2.2) → (gq : q ≤ n) → n - q < fu → ∀ (H : Heap) (locs : List Loc), va_P E.1 vwCl [(s0, .inr (2, [.ref t0, .ref sP, .ref sD, .ref sS, .ref sL, .ref sF, .int (nI p1), .int ds, .int pr])), (t0, .inr (3, [.int (nI n), .int (nI k), .ref q1, .ref q2, .ref q3, .ref q4])), (sP, aI E 16 f), (q4, aI E 30 en)] H → va_D A [(s0, .inr (2, [.ref t0, .ref sP, .ref sD, .ref sS, .ref sL, .ref sF, .int (nI p1), .int ds, .int pr])), (t0, .inr (3, [.int (nI n), .int (nI k), .ref q1, .ref q2, .ref q3, .ref q4])), (sP, aI E 16 f), (q4, aI E 30 en)] → va_S A s.heap H locs → ∀ (ls : Array Slot), lv_has ls 4 [(2, .int (nI q)), (1, .int sn), (0, .ref s0)] → W p l e R s m args below meth c H locs 0 0 Q (F0 m 9 ls []) := by
    intro fu
    induction fu with
    | zero => intro sn q p1 f e1 e2 e3 gq hfu; exact absurd hfu (Nat.not_lt_zero _)
    | succ fu ih9 =>
      intro sn q p1 f e1 e2 e3 gq hfu H locs hP hD hS ls hl
      refine lv_iload_n hx hb dX2_findPieces_9 rfl (lv_at hl 0 rfl) ?_
      refine lv_aload_n hx hb dX2_findPieces_10 rfl (lv_at hl 2 rfl) ?_
      refine rk_get (ci := 2) (C := RX2) (T := TX2) (N := 9) hx hb hts iw_X2_findPieces_2 hown hK hP 0 rfl rfl 0 (by decide) fl_X2_findPieces_27 rfl (v := .ref t0) rfl dX2_findPieces_11 ?_
      refine rk_get (ci := 3) (C := RX3) (T := TX3) (N := 6) hx hb hts iw_X2_findPieces_3 hown hK hP 1 rfl rfl 0 (by decide) fl_X2_findPieces_47 rfl (v := .int (nI n)) rfl dX2_findPieces_14 ?_
      refine rk_geN (tgt := 73) hx hb (by omega) (by omega) dX2_findPieces_17 (by decide) (fun zc17 => ?_) (fun zc17 => ?_)
      · obtain rfl : n = q := by omega
        subst e1; subst e2; subst e3
        exact ret_v hQ hx hb hr hlocks (hP.sub [0, 1, 2, 3] rfl) (hD.sub [0, 1, 2, 3] (by decide) rfl) hS dX2_findPieces_73
      · refine lv_iload_n hx hb dX2_findPieces_20 rfl (lv_at hl 1 rfl) ?_
        refine lv_iload_n hx hb dX2_findPieces_21 rfl (lv_at hl 0 rfl) ?_
        refine kSN_i (E := E) (As := [.int sn, .int (nI q)]) (rest := []) (wr := [(s0, .inr (2, [.ref t0, .ref sP, .ref sD, .ref sS, .ref sL, .ref sF, .int (nI p1), .int ds, .int pr])), (t0, .inr (3, [.int (nI n), .int (nI k), .ref q1, .ref q2, .ref q3, .ref q4])), (sP, aI E 16 f), (q4, aI E 30 en)]) ⟨hx, hb, hml, hown, hts⟩ (c_X4_contains (l := l) (E := E) (sz := _) (x := sn) (y := nI q) ) ⟨va_cnB 2 hts gX2_findPieces_X4_contains_n52 rfl rfl rfl hN.2.1 (hts _ inX4_X2_findPieces) (by decide +kernel) ⟨by rw [hR]; decide, by rw [hR]; decide⟩, hts _ stX4_contains_X2_findPieces, trivial⟩ hK hN hP hD hS hA [] [0, 1, 2, 3] rfl (by decide) rfl (by decide) (by decide) rfl hl.1 rfl (Nat.le_of_ble_eq_true rfl) dX2_findPieces_22 ⟨Nat.zero_le _, Nat.zero_le _⟩ (fun H locs hP hD hS => ?_)
        have hP : va_P E.1 vwCl [(s0, .inr (2, [.ref t0, .ref sP, .ref sD, .ref sS, .ref sL, .ref sF, .int (nI p1), .int ds, .int pr])), (t0, .inr (3, [.int (nI n), .int (nI k), .ref q1, .ref q2, .ref q3, .ref q4])), (sP, aI E 16 f), (q4, aI E 30 en)] H := hP
        have hD : va_D A [(s0, .inr (2, [.ref t0, .ref sP, .ref sD, .ref sS, .ref sL, .ref sF, .int (nI p1), .int ds, .int pr])), (t0, .inr (3, [.int (nI n), .int (nI k), .ref q1, .ref q2, .ref q3, .ref q4])), (sP, aI E 16 f), (q4, aI E 30 en)] := hD
        refine rk_if_neB (tgt := 67) hx hb dX2_findPieces_25 (by decide) (fun zc25 => ?_) (fun zc25 => ?_)
        · refine lv_iinc (v := nI (q + 1)) (lv' := [(2, .int (nI (q + 1))), (1, .int sn), (0, .ref s0)]) hx hb dX2_findPieces_67 hl (k := 0) rfl (by rw [show Int32.ofInt 1 = nI 1 by decide]; exact nI_add _ _) (by decide) rfl (fun ls hl => ?_)
          refine lv_goto (tgt := 9) hx hb dX2_findPieces_70 (by decide) ?_
          exact ih9 sn (q + 1) p1 f (by subst e1; subst e2; subst e3; rw [swP_t zc25]) (by subst e1; subst e2; subst e3; rw [swP_t zc25]) (by subst e1; subst e2; subst e3; rw [swP_t zc25]) (by first | assumption | omega | rfl) (by omega) _ _ (hP.sub [0, 1, 2, 3] rfl) (hD.sub [0, 1, 2, 3] (by decide) rfl) hS ls (lv_sub hl [0, 1, 2] rfl)
        · refine lv_aload_n hx hb dX2_findPieces_28 rfl (lv_at hl 2 rfl) ?_
          refine rk_get (ci := 2) (C := RX2) (T := TX2) (N := 9) hx hb hts iw_X2_findPieces_2 hown hK hP 0 rfl rfl 0 (by decide) fl_X2_findPieces_27 rfl (v := .ref t0) rfl dX2_findPieces_29 ?_
          refine lv_iload_n hx hb dX2_findPieces_32 rfl (lv_at hl 0 rfl) ?_
          refine lv_aload_n hx hb dX2_findPieces_33 rfl (lv_at hl 2 rfl) ?_
          refine rk_get (ci := 2) (C := RX2) (T := TX2) (N := 9) hx hb hts iw_X2_findPieces_2 hown hK hP 0 rfl rfl 0 (by decide) fl_X2_findPieces_27 rfl (v := .ref t0) rfl dX2_findPieces_34 ?_
          refine kV_i (E := E) (As := []) (rest := [.int (nI q), .ref t0]) (wr := [(s0, .inr (2, [.ref t0, .ref sP, .ref sD, .ref sS, .ref sL, .ref sF, .int (nI p1), .int ds, .int pr])), (sP, aI E 16 f), (q4, aI E 30 en)]) ⟨hx, hb, hml, hown, hts⟩ (c_X3_allRoads (l := l) (E := E) (sz := _) (h0 := t0) (sc := nI n) (f1 := nI k) (q1 := q1) (q2 := q2) (q3 := q3) (q4 := q4) ) (cwV 0 hts gX2_findPieces_X3_allRoads rfl rfl rfl (by decide +kernel) ⟨by rw [hR]; decide, by rw [hR]; decide⟩) hK hN hP hD hS hA [1] [0, 2, 3] rfl (by decide) rfl (by decide) (by decide) 1 3 rfl rfl rfl hl.1 rfl (Nat.le_of_ble_eq_true rfl) dX2_findPieces_37 ⟨Nat.zero_le _, Nat.zero_le _⟩ (fun H locs hP hD hS => ?_)
          have hP : va_P E.1 vwCl [(s0, .inr (2, [.ref t0, .ref sP, .ref sD, .ref sS, .ref sL, .ref sF, .int (nI p1), .int ds, .int pr])), (sP, aI E 16 f), (q4, aI E 30 en), (t0, .inr (3, [.int (nI n), .int (nI k), .ref q1, .ref q2, .ref q3, .ref q4]))] H := hP
          have hD : va_D A [(s0, .inr (2, [.ref t0, .ref sP, .ref sD, .ref sS, .ref sL, .ref sF, .int (nI p1), .int ds, .int pr])), (sP, aI E 16 f), (q4, aI E 30 en), (t0, .inr (3, [.int (nI n), .int (nI k), .ref q1, .ref q2, .ref q3, .ref q4]))] := hD
          refine kV_i (E := E) (As := [.int (nI q), .int (allR (nI k))]) (rest := []) (wr := [(s0, .inr (2, [.ref t0, .ref sP, .ref sD, .ref sS, .ref sL, .ref sF, .int (nI p1), .int ds, .int pr])), (sP, aI E 16 f)]) ⟨hx, hb, hml, hown, hts⟩ (c_X3_reach (l := l) (E := E) (sz := _) (h0 := t0) (q1 := q1) (q2 := q2) (q3 := q3) (q4 := q4) (sc := nI n) (k := k) (en := en) (q := q) (w := allR (nI k)) (hk := by first | assumption | omega) (hq := by first | assumption | omega)) (cwV 2 hts gX2_findPieces_X3_reach rfl rfl rfl (by decide +kernel) ⟨by rw [hR]; decide, by rw [hR]; decide⟩) hK hN hP hD hS hA [3, 2] [0, 1] rfl (by decide) rfl (by decide) (by decide) 3 3 rfl rfl rfl hl.1 rfl (Nat.le_of_ble_eq_true rfl) dX2_findPieces_40 ⟨Nat.zero_le _, Nat.zero_le _⟩ (fun H locs hP hD hS => ?_)
          have hP : va_P E.1 vwCl [(s0, .inr (2, [.ref t0, .ref sP, .ref sD, .ref sS, .ref sL, .ref sF, .int (nI p1), .int ds, .int pr])), (sP, aI E 16 f), (t0, .inr (3, [.int (nI n), .int (nI k), .ref q1, .ref q2, .ref q3, .ref q4])), (q4, aI E 30 en)] H := hP
          have hD : va_D A [(s0, .inr (2, [.ref t0, .ref sP, .ref sD, .ref sS, .ref sL, .ref sF, .int (nI p1), .int ds, .int pr])), (sP, aI E 16 f), (t0, .inr (3, [.int (nI n), .int (nI k), .ref q1, .ref q2, .ref q3, .ref q4])), (q4, aI E 30 en)] := hD
          refine lv_istore_n (lv' := [(3, .int (rsC en (allR (nI k)) k q)), (2, .int (nI q)), (1, .int sn), (0, .ref s0)]) hx hb dX2_findPieces_43 rfl hl (by decide) rfl (fun ls hl => ?_)
          refine lv_aload_n hx hb dX2_findPieces_44 rfl (lv_at hl 3 rfl) ?_
          refine rk_get (ci := 2) (C := RX2) (T := TX2) (N := 9) hx hb hts iw_X2_findPieces_2 hown hK hP 0 rfl rfl 1 (by decide) fl_X2_findPieces_9 rfl (v := .ref sP) rfl dX2_findPieces_45 ?_
          refine lv_iload_n hx hb dX2_findPieces_48 rfl (lv_at hl 0 rfl) ?_
          refine lv_iload_n hx hb dX2_findPieces_49 rfl (lv_at hl 0 rfl) ?_
          refine kSN_v (E := E) (As := [.ref sP, .int (rsC en (allR (nI k)) k q), .int (rsC en (allR (nI k)) k q)]) (rest := []) (wr := [(s0, .inr (2, [.ref t0, .ref sP, .ref sD, .ref sS, .ref sL, .ref sF, .int (nI p1), .int ds, .int pr])), (t0, .inr (3, [.int (nI n), .int (nI k), .ref q1, .ref q2, .ref q3, .ref q4])), (q4, aI E 30 en)]) ⟨hx, hb, hml, hown, hts⟩ (c_X4_setForMembers (l := l) (E := E) (sz := _) (q1 := sP) (f := f) (x := rsC en (allR (nI k)) k q) (v := rsC en (allR (nI k)) k q) ) ⟨va_cnB 3 hts gX2_findPieces_X4_setForMembers_n64 rfl rfl rfl hN.2.2.1 (hts _ inX4_X2_findPieces) (by decide +kernel) ⟨by rw [hR]; decide, by rw [hR]; decide⟩, hts _ stX4_setForMembers_X2_findPieces, trivial⟩ hK hN hP hD hS hA [1] [0, 2, 3] rfl (by decide) rfl (by decide) (by decide) rfl hl.1 rfl (Nat.le_of_ble_eq_true rfl) dX2_findPieces_50 ⟨Nat.zero_le _, Nat.zero_le _⟩ (fun H locs hP hD hS => ?_)
          have hP : va_P E.1 vwCl [(s0, .inr (2, [.ref t0, .ref sP, .ref sD, .ref sS, .ref sL, .ref sF, .int (nI p1), .int ds, .int pr])), (t0, .inr (3, [.int (nI n), .int (nI k), .ref q1, .ref q2, .ref q3, .ref q4])), (q4, aI E 30 en), (sP, aI E 16 (sfm f (rsC en (allR (nI k)) k q) (rsC en (allR (nI k)) k q) 16))] H := hP
          have hD : va_D A [(s0, .inr (2, [.ref t0, .ref sP, .ref sD, .ref sS, .ref sL, .ref sF, .int (nI p1), .int ds, .int pr])), (t0, .inr (3, [.int (nI n), .int (nI k), .ref q1, .ref q2, .ref q3, .ref q4])), (q4, aI E 30 en), (sP, aI E 16 (sfm f (rsC en (allR (nI k)) k q) (rsC en (allR (nI k)) k q) 16))] := hD
          refine lv_iload_n hx hb dX2_findPieces_53 rfl (lv_at hl 2 rfl) ?_
          refine lv_iload_n hx hb dX2_findPieces_54 rfl (lv_at hl 0 rfl) ?_
          refine lv_ior hx hb dX2_findPieces_55 ?_
          refine lv_istore_n (lv' := [(1, .int (sn ||| (rsC en (allR (nI k)) k q))), (3, .int (rsC en (allR (nI k)) k q)), (2, .int (nI q)), (0, .ref s0)]) hx hb dX2_findPieces_56 rfl hl (by decide) rfl (fun ls hl => ?_)
          refine lv_aload_n hx hb dX2_findPieces_57 rfl (lv_at hl 3 rfl) ?_
          refine lv_dup hx hb dX2_findPieces_58 rfl ?_
          refine rk_get (ci := 2) (C := RX2) (T := TX2) (N := 9) hx hb hts iw_X2_findPieces_2 hown hK hP 0 rfl rfl 6 (by decide) fl_X2_findPieces_43 rfl (v := .int (nI p1)) rfl dX2_findPieces_59 ?_
          refine lv_iconst (v := nI 1) hx hb dX2_findPieces_62 (by decide) ?_
          refine rk_iaddN hx hb dX2_findPieces_63 ?_
          refine rk_put (ci := 2) (C := RX2) (T := TX2) (N := 9) hx hb hts iw_X2_findPieces_2 tyX2 tyX2_ok nmX2 hown hK hP hD hS 0 rfl rfl 6 (by decide) fl_X2_findPieces_43 rfl rfl (tyX2_ok 6 (by decide)) rfl rfl (Nat.le_of_ble_eq_true rfl) (ws' := [(s0, .inr (2, [.ref t0, .ref sP, .ref sD, .ref sS, .ref sL, .ref sF, .int (nI (p1 + 1)), .int ds, .int pr])), (t0, .inr (3, [.int (nI n), .int (nI k), .ref q1, .ref q2, .ref q3, .ref q4])), (q4, aI E 30 en), (sP, aI E 16 (sfm f (rsC en (allR (nI k)) k q) (rsC en (allR (nI k)) k q) 16))]) rfl dX2_findPieces_64 (fun H locs hP hD hS => ?_)
          refine lv_iinc (v := nI (q + 1)) (lv' := [(2, .int (nI (q + 1))), (1, .int (sn ||| (rsC en (allR (nI k)) k q))), (3, .int (rsC en (allR (nI k)) k q)), (0, .ref s0)]) hx hb dX2_findPieces_67 hl (k := 2) rfl (by rw [show Int32.ofInt 1 = nI 1 by decide]; exact nI_add _ _) (by decide) rfl (fun ls hl => ?_)
          refine lv_goto (tgt := 9) hx hb dX2_findPieces_70 (by decide) ?_
          exact ih9 (sn ||| (rsC en (allR (nI k)) k q)) (q + 1) (p1 + 1) (sfm f (rsC en (allR (nI k)) k q) (rsC en (allR (nI k)) k q) 16) (by subst e1; subst e2; subst e3; rw [swP_f zc25]) (by subst e1; subst e2; subst e3; rw [swP_f zc25]) (by subst e1; subst e2; subst e3; rw [swP_f zc25]) (by first | assumption | omega | rfl) (by omega) _ _ (hP.sub [0, 1, 3, 2] rfl) (hD.sub [0, 1, 3, 2] (by decide) rfl) hS ls (lv_sub hl [0, 1, 3] rfl)
  exact L9 ((n - 0) + 1) (nI 0) 0 0 po (rfl) (rfl) (rfl) (by first | assumption | omega | rfl) (Nat.lt_succ_self _) _ _ (hP.sub [0, 1, 2, 3] rfl) (hD.sub [0, 1, 2, 3] (by decide) rfl) hS ls (lv_sub hl [0, 1, 2] rfl)
theorem iw_X2_findPartingRoads_2 : ∀ w ∈ u_ws RX2 TX2 9, w ∈ wsX2_findPartingRoads := by decide +kernel
theorem fl_X2_findPartingRoads_68 : Cond.fieldLink RX2 68 (TX2 8).1 (TX2 8).2.1 (TX2 8).2.2.1 ∈ wsX2_findPartingRoads := by decide +kernel
theorem fl_X2_findPartingRoads_27 : Cond.fieldLink RX2 27 (TX2 0).1 (TX2 0).2.1 (TX2 0).2.2.1 ∈ wsX2_findPartingRoads := by decide +kernel
theorem iw_X2_findPartingRoads_3 : ∀ w ∈ u_ws RX3 TX3 6, w ∈ wsX2_findPartingRoads := by decide +kernel
theorem fl_X2_findPartingRoads_71 : Cond.fieldLink RX2 71 (TX3 1).1 (TX3 1).2.1 (TX3 1).2.2.1 ∈ wsX2_findPartingRoads := by decide +kernel
theorem fl_X2_findPartingRoads_21 : Cond.fieldLink RX2 21 (TX2 4).1 (TX2 4).2.1 (TX2 4).2.2.1 ∈ wsX2_findPartingRoads := by decide +kernel
theorem fl_X2_findPartingRoads_74 : Cond.fieldLink RX2 74 (TX3 2).1 (TX3 2).2.1 (TX3 2).2.2.1 ∈ wsX2_findPartingRoads := by decide +kernel
theorem fl_X2_findPartingRoads_77 : Cond.fieldLink RX2 77 (TX3 3).1 (TX3 3).2.1 (TX3 3).2.2.1 ∈ wsX2_findPartingRoads := by decide +kernel
theorem inX4_X2_findPartingRoads : Cond.initialized RX4 ∈ wsX2_findPartingRoads := by decide +kernel
theorem stX4_contains_X2_findPartingRoads : Cond.static yX4_contains ∈ wsX2_findPartingRoads := by decide +kernel
set_option maxHeartbeats 400000 in
set_option maxRecDepth 100000 in
theorem c_X2_findPartingRoads (l : Launch) (E : EE) (sz : Nat) (s0 t0 sP sD sS sL sF q1 q2 q3 q4 : Nat) (sc : Int32) (k : Nat) (pc ds pr : Int32) (lS lo hi en : Nat → Int32) (a : Nat → Nat) (gk : k ≤ 30) (glo : ∀ r, r < k → lo r = nI (a r)) (ga : ∀ r, r < k → a r < 16) : Cv l yX2_findPartingRoads wsX2_findPartingRoads 2 47 E [.ref s0] [(s0, .inr (2, [.ref t0, .ref sP, .ref sD, .ref sS, .ref sL, .ref sF, .int pc, .int ds, .int pr])), (t0, .inr (3, [.int sc, .int (nI k), .ref q1, .ref q2, .ref q3, .ref q4])), (sL, aI E 30 lS), (q1, aI E 30 lo), (q2, aI E 30 hi), (q4, aI E 30 en)] sz [(s0, .inr (2, [.ref t0, .ref sP, .ref sD, .ref sS, .ref sL, .ref sF, .int pc, .int ds, .int (pRs (sdR en k a) hi k)])), (t0, .inr (3, [.int sc, .int (nI k), .ref q1, .ref q2, .ref q3, .ref q4])), (sL, aI E 30 (lsf lS (sdR en k a) k)), (q1, aI E 30 lo), (q2, aI E 30 hi), (q4, aI E 30 en)] := by
  refine C_of (QQ := QV E [(s0, .inr (2, [.ref t0, .ref sP, .ref sD, .ref sS, .ref sL, .ref sF, .int pc, .int ds, .int (pRs (sdR en k a) hi k)])), (t0, .inr (3, [.int sc, .int (nI k), .ref q1, .ref q2, .ref q3, .ref q4])), (sL, aI E 30 (lsf lS (sdR en k a) k)), (q1, aI E 30 lo), (q2, aI E 30 hi), (q4, aI E 30 en)]) (cc := cX2_findPartingRoads) (maxL := 2) (ret := none) (by decide +kernel) rfl (Nat.le_of_ble_eq_true rfl) ?_
  intro p e s m args below meth c A R Q ls hx hb hr hts hown hml hlocks hA hK hN hP hD hS hl hR hQ
  have hown : s.vm.findClass RX2 = some m.cls := hown
  have hl : lv_has ls 2 [(0, .ref s0)] := hl
  refine lv_aload_n hx hb dX2_findPartingRoads_0 rfl (lv_at hl 0 rfl) ?_
  refine lv_iconst (v := nI 0) hx hb dX2_findPartingRoads_1 (by decide) ?_
  refine rk_put (ci := 2) (C := RX2) (T := TX2) (N := 9) hx hb hts iw_X2_findPartingRoads_2 tyX2 tyX2_ok nmX2 hown hK hP hD hS 0 rfl rfl 8 (by decide) fl_X2_findPartingRoads_68 rfl rfl (tyX2_ok 8 (by decide)) rfl rfl (Nat.le_of_ble_eq_true rfl) (ws' := [(s0, .inr (2, [.ref t0, .ref sP, .ref sD, .ref sS, .ref sL, .ref sF, .int pc, .int ds, .int (nI 0)])), (t0, .inr (3, [.int sc, .int (nI k), .ref q1, .ref q2, .ref q3, .ref q4])), (sL, aI E 30 lS), (q1, aI E 30 lo), (q2, aI E 30 hi), (q4, aI E 30 en)]) rfl dX2_findPartingRoads_2 (fun H locs hP hD hS => ?_)
  refine lv_iconst (v := nI 0) hx hb dX2_findPartingRoads_5 (by decide) ?_
  refine lv_istore_n (lv' := [(1, .int (nI 0)), (0, .ref s0)]) hx hb dX2_findPartingRoads_6 rfl hl (by decide) rfl (fun ls hl => ?_)
  have L7 : ∀ (fu : Nat) (p1 : Int32) (r : Nat) (f : Nat → Int32), (e1 : p1 = pRs (sdR en k a) hi r) → (e3 : f = lsf lS (sdR en k a) r) → (gr : r ≤ k) → k - r < fu → ∀ (H : Heap) (locs : List Loc), va_P E.1 vwCl [(s0, .inr (2, [.ref t0, .ref sP, .ref sD, .ref sS, .ref sL, .ref sF, .int pc, .int ds, .int p1])), (t0, .inr (3, [.int sc, .int (nI k), .ref q1, .ref q2, .ref q3, .ref q4])), (sL, aI E 30 f), (q1, aI E 30 lo), (q2, aI E 30 hi), (q4, aI E 30 en)] H → va_D A [(s0, .inr (2, [.ref t0, .ref sP, .ref sD, .ref sS, .ref sL, .ref sF, .int pc, .int ds, .int p1])), (t0, .inr (3, [.int sc, .int (nI k), .ref q1, .ref q2, .ref q3, .ref q4])), (sL, aI E 30 f), (q1, aI E 30 lo), (q2, aI E 30 hi), (q4, aI E 30 en)] → va_S A s.heap H locs → ∀ (ls : Array Slot), lv_has ls 2 [(1, .int (nI r)), (0, .ref s0)] → W p l e R s m args below meth c H locs 0 0 Q (F0 m 7 ls []) := by
    intro fu
    induction fu with
    | zero => intro p1 r f e1 e3 gr hfu; exact absurd hfu (Nat.not_lt_zero _)
    | succ fu ih7 =>
      intro p1 r f e1 e3 gr hfu H locs hP hD hS ls hl
      refine lv_iload_n hx hb dX2_findPartingRoads_7 rfl (lv_at hl 0 rfl) ?_
      refine lv_aload_n hx hb dX2_findPartingRoads_8 rfl (lv_at hl 1 rfl) ?_
      refine rk_get (ci := 2) (C := RX2) (T := TX2) (N := 9) hx hb hts iw_X2_findPartingRoads_2 hown hK hP 0 rfl rfl 0 (by decide) fl_X2_findPartingRoads_27 rfl (v := .ref t0) rfl dX2_findPartingRoads_9 ?_
      refine rk_get (ci := 3) (C := RX3) (T := TX3) (N := 6) hx hb hts iw_X2_findPartingRoads_3 hown hK hP 1 rfl rfl 1 (by decide) fl_X2_findPartingRoads_71 rfl (v := .int (nI k)) rfl dX2_findPartingRoads_12 ?_
      refine rk_geN (tgt := 92) hx hb (by omega) (by omega) dX2_findPartingRoads_15 (by decide) (fun zc15 => ?_) (fun zc15 => ?_)
      · obtain rfl : k = r := by omega
        subst e1; subst e3
        exact ret_v hQ hx hb hr hlocks (hP.sub [0, 1, 2, 3, 4, 5] rfl) (hD.sub [0, 1, 2, 3, 4, 5] (by decide) rfl) hS dX2_findPartingRoads_92
      · refine lv_aload_n hx hb dX2_findPartingRoads_18 rfl (lv_at hl 1 rfl) ?_
        refine rk_get (ci := 2) (C := RX2) (T := TX2) (N := 9) hx hb hts iw_X2_findPartingRoads_2 hown hK hP 0 rfl rfl 4 (by decide) fl_X2_findPartingRoads_21 rfl (v := .ref sL) rfl dX2_findPartingRoads_19 ?_
        refine lv_iload_n hx hb dX2_findPartingRoads_22 rfl (lv_at hl 0 rfl) ?_
        refine lv_aload_n hx hb dX2_findPartingRoads_23 rfl (lv_at hl 1 rfl) ?_
        refine rk_get (ci := 2) (C := RX2) (T := TX2) (N := 9) hx hb hts iw_X2_findPartingRoads_2 hown hK hP 0 rfl rfl 0 (by decide) fl_X2_findPartingRoads_27 rfl (v := .ref t0) rfl dX2_findPartingRoads_24 ?_
        refine lv_aload_n hx hb dX2_findPartingRoads_27 rfl (lv_at hl 1 rfl) ?_
        refine rk_get (ci := 2) (C := RX2) (T := TX2) (N := 9) hx hb hts iw_X2_findPartingRoads_2 hown hK hP 0 rfl rfl 0 (by decide) fl_X2_findPartingRoads_27 rfl (v := .ref t0) rfl dX2_findPartingRoads_28 ?_
        refine rk_get (ci := 3) (C := RX3) (T := TX3) (N := 6) hx hb hts iw_X2_findPartingRoads_3 hown hK hP 1 rfl rfl 2 (by decide) fl_X2_findPartingRoads_74 rfl (v := .ref q1) rfl dX2_findPartingRoads_31 ?_
        refine lv_iload_n hx hb dX2_findPartingRoads_34 rfl (lv_at hl 0 rfl) ?_
        refine rk_iald hx hb hK hP 3 rfl (by omega) (by omega) (v := nI (a r)) (glo r (by omega)) dX2_findPartingRoads_35 ?_
        refine lv_aload_n hx hb dX2_findPartingRoads_36 rfl (lv_at hl 1 rfl) ?_
        refine rk_get (ci := 2) (C := RX2) (T := TX2) (N := 9) hx hb hts iw_X2_findPartingRoads_2 hown hK hP 0 rfl rfl 0 (by decide) fl_X2_findPartingRoads_27 rfl (v := .ref t0) rfl dX2_findPartingRoads_37 ?_
        refine kV_i (E := E) (As := []) (rest := [.int (nI (a r)), .ref t0, .int (nI r), .ref sL]) (wr := [(s0, .inr (2, [.ref t0, .ref sP, .ref sD, .ref sS, .ref sL, .ref sF, .int pc, .int ds, .int p1])), (sL, aI E 30 f), (q1, aI E 30 lo), (q2, aI E 30 hi), (q4, aI E 30 en)]) ⟨hx, hb, hml, hown, hts⟩ (c_X3_allRoads (l := l) (E := E) (sz := _) (h0 := t0) (sc := sc) (f1 := nI k) (q1 := q1) (q2 := q2) (q3 := q3) (q4 := q4) ) (cwV 0 hts gX2_findPartingRoads_X3_allRoads rfl rfl rfl (by decide +kernel) ⟨by rw [hR]; decide, by rw [hR]; decide⟩) hK hN hP hD hS hA [1] [0, 2, 3, 4, 5] rfl (by decide) rfl (by decide) (by decide) 1 3 rfl rfl rfl hl.1 rfl (Nat.le_of_ble_eq_true rfl) dX2_findPartingRoads_40 ⟨Nat.zero_le _, Nat.zero_le _⟩ (fun H locs hP hD hS => ?_)
        have hP : va_P E.1 vwCl [(s0, .inr (2, [.ref t0, .ref sP, .ref sD, .ref sS, .ref sL, .ref sF, .int pc, .int ds, .int p1])), (sL, aI E 30 f), (q1, aI E 30 lo), (q2, aI E 30 hi), (q4, aI E 30 en), (t0, .inr (3, [.int sc, .int (nI k), .ref q1, .ref q2, .ref q3, .ref q4]))] H := hP
        have hD : va_D A [(s0, .inr (2, [.ref t0, .ref sP, .ref sD, .ref sS, .ref sL, .ref sF, .int pc, .int ds, .int p1])), (sL, aI E 30 f), (q1, aI E 30 lo), (q2, aI E 30 hi), (q4, aI E 30 en), (t0, .inr (3, [.int sc, .int (nI k), .ref q1, .ref q2, .ref q3, .ref q4]))] := hD
        refine lv_iconst (v := nI 1) hx hb dX2_findPartingRoads_43 (by decide) ?_
        refine lv_iload_n hx hb dX2_findPartingRoads_44 rfl (lv_at hl 0 rfl) ?_
        refine lv_ishl hx hb dX2_findPartingRoads_45 ?_
        refine lv_iconst (v := (-1)) hx hb dX2_findPartingRoads_46 (by decide) ?_
        refine lv_ixor hx hb dX2_findPartingRoads_47 ?_
        refine lv_iand hx hb dX2_findPartingRoads_48 ?_
        refine kV_i (E := E) (As := [.int (nI (a r)), .int ((allR (nI k)) &&& (((nI 1) <<< ((nI r) &&& 31)) ^^^ ((-1))))]) (rest := [.int (nI r), .ref sL]) (wr := [(s0, .inr (2, [.ref t0, .ref sP, .ref sD, .ref sS, .ref sL, .ref sF, .int pc, .int ds, .int p1])), (sL, aI E 30 f), (q1, aI E 30 lo), (q2, aI E 30 hi)]) ⟨hx, hb, hml, hown, hts⟩ (c_X3_reach (l := l) (E := E) (sz := _) (h0 := t0) (q1 := q1) (q2 := q2) (q3 := q3) (q4 := q4) (sc := sc) (k := k) (en := en) (q := a r) (w := (allR (nI k)) &&& (((nI 1) <<< ((nI r) &&& 31)) ^^^ ((-1)))) (hk := by first | assumption | omega) (hq := ga r (by omega))) (cwV 2 hts gX2_findPartingRoads_X3_reach rfl rfl rfl (by decide +kernel) ⟨by rw [hR]; decide, by rw [hR]; decide⟩) hK hN hP hD hS hA [5, 4] [0, 1, 2, 3] rfl (by decide) rfl (by decide) (by decide) 5 3 rfl rfl rfl hl.1 rfl (Nat.le_of_ble_eq_true rfl) dX2_findPartingRoads_49 ⟨Nat.zero_le _, Nat.zero_le _⟩ (fun H locs hP hD hS => ?_)
        have hP : va_P E.1 vwCl [(s0, .inr (2, [.ref t0, .ref sP, .ref sD, .ref sS, .ref sL, .ref sF, .int pc, .int ds, .int p1])), (sL, aI E 30 f), (q1, aI E 30 lo), (q2, aI E 30 hi), (t0, .inr (3, [.int sc, .int (nI k), .ref q1, .ref q2, .ref q3, .ref q4])), (q4, aI E 30 en)] H := hP
        have hD : va_D A [(s0, .inr (2, [.ref t0, .ref sP, .ref sD, .ref sS, .ref sL, .ref sF, .int pc, .int ds, .int p1])), (sL, aI E 30 f), (q1, aI E 30 lo), (q2, aI E 30 hi), (t0, .inr (3, [.int sc, .int (nI k), .ref q1, .ref q2, .ref q3, .ref q4])), (q4, aI E 30 en)] := hD
        refine rk_ev (show _ = sdR en k a r from rfl) ?_
        refine rk_iast hx hb hK hP hD hS 1 rfl (by omega) (by omega) (ws' := [(s0, .inr (2, [.ref t0, .ref sP, .ref sD, .ref sS, .ref sL, .ref sF, .int pc, .int ds, .int p1])), (sL, aI E 30 (upd f r (sdR en k a r))), (q1, aI E 30 lo), (q2, aI E 30 hi), (t0, .inr (3, [.int sc, .int (nI k), .ref q1, .ref q2, .ref q3, .ref q4])), (q4, aI E 30 en)]) rfl dX2_findPartingRoads_52 (fun H locs hP hD hS => ?_)
        refine lv_aload_n hx hb dX2_findPartingRoads_53 rfl (lv_at hl 1 rfl) ?_
        refine rk_get (ci := 2) (C := RX2) (T := TX2) (N := 9) hx hb hts iw_X2_findPartingRoads_2 hown hK hP 0 rfl rfl 4 (by decide) fl_X2_findPartingRoads_21 rfl (v := .ref sL) rfl dX2_findPartingRoads_54 ?_
        refine lv_iload_n hx hb dX2_findPartingRoads_57 rfl (lv_at hl 0 rfl) ?_
        refine rk_iald hx hb hK hP 1 rfl (by omega) (by omega) (v := sdR en k a r) (pk_us) dX2_findPartingRoads_58 ?_
        refine lv_aload_n hx hb dX2_findPartingRoads_59 rfl (lv_at hl 1 rfl) ?_
        refine rk_get (ci := 2) (C := RX2) (T := TX2) (N := 9) hx hb hts iw_X2_findPartingRoads_2 hown hK hP 0 rfl rfl 0 (by decide) fl_X2_findPartingRoads_27 rfl (v := .ref t0) rfl dX2_findPartingRoads_60 ?_
        refine rk_get (ci := 3) (C := RX3) (T := TX3) (N := 6) hx hb hts iw_X2_findPartingRoads_3 hown hK hP 4 rfl rfl 3 (by decide) fl_X2_findPartingRoads_77 rfl (v := .ref q2) rfl dX2_findPartingRoads_63 ?_
        refine lv_iload_n hx hb dX2_findPartingRoads_66 rfl (lv_at hl 0 rfl) ?_
        refine rk_iald hx hb hK hP 3 rfl (by omega) (by omega) (v := hi r) (rfl) dX2_findPartingRoads_67 ?_
        refine kSN_i (E := E) (As := [.int (sdR en k a r), .int (hi r)]) (rest := []) (wr := [(s0, .inr (2, [.ref t0, .ref sP, .ref sD, .ref sS, .ref sL, .ref sF, .int pc, .int ds, .int p1])), (sL, aI E 30 (upd f r (sdR en k a r))), (q1, aI E 30 lo), (q2, aI E 30 hi), (t0, .inr (3, [.int sc, .int (nI k), .ref q1, .ref q2, .ref q3, .ref q4])), (q4, aI E 30 en)]) ⟨hx, hb, hml, hown, hts⟩ (c_X4_contains (l := l) (E := E) (sz := _) (x := sdR en k a r) (y := hi r) ) ⟨va_cnB 2 hts gX2_findPartingRoads_X4_contains_n52 rfl rfl rfl hN.2.1 (hts _ inX4_X2_findPartingRoads) (by decide +kernel) ⟨by rw [hR]; decide, by rw [hR]; decide⟩, hts _ stX4_contains_X2_findPartingRoads, trivial⟩ hK hN hP hD hS hA [] [0, 1, 2, 3, 4, 5] rfl (by decide) rfl (by decide) (by decide) rfl hl.1 rfl (Nat.le_of_ble_eq_true rfl) dX2_findPartingRoads_68 ⟨Nat.zero_le _, Nat.zero_le _⟩ (fun H locs hP hD hS => ?_)
        have hP : va_P E.1 vwCl [(s0, .inr (2, [.ref t0, .ref sP, .ref sD, .ref sS, .ref sL, .ref sF, .int pc, .int ds, .int p1])), (sL, aI E 30 (upd f r (sdR en k a r))), (q1, aI E 30 lo), (q2, aI E 30 hi), (t0, .inr (3, [.int sc, .int (nI k), .ref q1, .ref q2, .ref q3, .ref q4])), (q4, aI E 30 en)] H := hP
        have hD : va_D A [(s0, .inr (2, [.ref t0, .ref sP, .ref sD, .ref sS, .ref sL, .ref sF, .int pc, .int ds, .int p1])), (sL, aI E 30 (upd f r (sdR en k a r))), (q1, aI E 30 lo), (q2, aI E 30 hi), (t0, .inr (3, [.int sc, .int (nI k), .ref q1, .ref q2, .ref q3, .ref q4])), (q4, aI E 30 en)] := hD
        refine rk_if_neB (tgt := 86) hx hb dX2_findPartingRoads_71 (by decide) (fun zc71 => ?_) (fun zc71 => ?_)
        · refine lv_iinc (v := nI (r + 1)) (lv' := [(1, .int (nI (r + 1))), (0, .ref s0)]) hx hb dX2_findPartingRoads_86 hl (k := 0) rfl (by rw [show Int32.ofInt 1 = nI 1 by decide]; exact nI_add _ _) (by decide) rfl (fun ls hl => ?_)
          refine lv_goto (tgt := 7) hx hb dX2_findPartingRoads_89 (by decide) ?_
          exact ih7 p1 (r + 1) (upd f r (sdR en k a r)) (by subst e1; exact (pRs_t (sd := (sdR en k a)) (hi := hi) (r := r) zc71).symm) (by rw [e3]; exact lsf_1 lS (sdR en k a) r) (by first | assumption | omega | rfl) (by omega) _ _ (hP.sub [0, 4, 1, 2, 3, 5] rfl) (hD.sub [0, 4, 1, 2, 3, 5] (by decide) rfl) hS ls (lv_sub hl [0, 1] rfl)
        · refine lv_aload_n hx hb dX2_findPartingRoads_74 rfl (lv_at hl 1 rfl) ?_
          refine lv_dup hx hb dX2_findPartingRoads_75 rfl ?_
          refine rk_get (ci := 2) (C := RX2) (T := TX2) (N := 9) hx hb hts iw_X2_findPartingRoads_2 hown hK hP 0 rfl rfl 8 (by decide) fl_X2_findPartingRoads_68 rfl (v := .int p1) rfl dX2_findPartingRoads_76 ?_
          refine lv_iconst (v := nI 1) hx hb dX2_findPartingRoads_79 (by decide) ?_
          refine lv_iload_n hx hb dX2_findPartingRoads_80 rfl (lv_at hl 0 rfl) ?_
          refine lv_ishl hx hb dX2_findPartingRoads_81 ?_
          refine lv_ior hx hb dX2_findPartingRoads_82 ?_
          refine rk_put (ci := 2) (C := RX2) (T := TX2) (N := 9) hx hb hts iw_X2_findPartingRoads_2 tyX2 tyX2_ok nmX2 hown hK hP hD hS 0 rfl rfl 8 (by decide) fl_X2_findPartingRoads_68 rfl rfl (tyX2_ok 8 (by decide)) rfl rfl (Nat.le_of_ble_eq_true rfl) (ws' := [(s0, .inr (2, [.ref t0, .ref sP, .ref sD, .ref sS, .ref sL, .ref sF, .int pc, .int ds, .int (p1 ||| ((nI 1) <<< ((nI r) &&& 31)))])), (sL, aI E 30 (upd f r (sdR en k a r))), (q1, aI E 30 lo), (q2, aI E 30 hi), (t0, .inr (3, [.int sc, .int (nI k), .ref q1, .ref q2, .ref q3, .ref q4])), (q4, aI E 30 en)]) rfl dX2_findPartingRoads_83 (fun H locs hP hD hS => ?_)
          refine lv_iinc (v := nI (r + 1)) (lv' := [(1, .int (nI (r + 1))), (0, .ref s0)]) hx hb dX2_findPartingRoads_86 hl (k := 0) rfl (by rw [show Int32.ofInt 1 = nI 1 by decide]; exact nI_add _ _) (by decide) rfl (fun ls hl => ?_)
          refine lv_goto (tgt := 7) hx hb dX2_findPartingRoads_89 (by decide) ?_
          exact ih7 (p1 ||| ((nI 1) <<< ((nI r) &&& 31))) (r + 1) (upd f r (sdR en k a r)) (by subst e1; exact (pRs_f (sd := (sdR en k a)) (hi := hi) (r := r) zc71).symm) (by rw [e3]; exact lsf_1 lS (sdR en k a) r) (by first | assumption | omega | rfl) (by omega) _ _ (hP.sub [0, 4, 1, 2, 3, 5] rfl) (hD.sub [0, 4, 1, 2, 3, 5] (by decide) rfl) hS ls (lv_sub hl [0, 1] rfl)
  exact L7 ((k - 0) + 1) (nI 0) 0 lS (rfl) (by exact (lsf_0 _ _).symm) (by first | assumption | omega | rfl) (Nat.lt_succ_self _) _ _ (hP.sub [0, 1, 2, 3, 4, 5] rfl) (hD.sub [0, 1, 2, 3, 4, 5] (by decide) rfl) hS ls (lv_sub hl [0, 1] rfl)
theorem iw_X2_findDistricts_2 : ∀ w ∈ u_ws RX2 TX2 9, w ∈ wsX2_findDistricts := by decide +kernel
theorem fl_X2_findDistricts_80 : Cond.fieldLink RX2 80 (TX2 7).1 (TX2 7).2.1 (TX2 7).2.2.1 ∈ wsX2_findDistricts := by decide +kernel
theorem fl_X2_findDistricts_27 : Cond.fieldLink RX2 27 (TX2 0).1 (TX2 0).2.1 (TX2 0).2.2.1 ∈ wsX2_findDistricts := by decide +kernel
theorem iw_X2_findDistricts_3 : ∀ w ∈ u_ws RX3 TX3 6, w ∈ wsX2_findDistricts := by decide +kernel
theorem fl_X2_findDistricts_47 : Cond.fieldLink RX2 47 (TX3 0).1 (TX3 0).2.1 (TX3 0).2.2.1 ∈ wsX2_findDistricts := by decide +kernel
theorem inX4_X2_findDistricts : Cond.initialized RX4 ∈ wsX2_findDistricts := by decide +kernel
theorem stX4_contains_X2_findDistricts : Cond.static yX4_contains ∈ wsX2_findDistricts := by decide +kernel
theorem fl_X2_findDistricts_68 : Cond.fieldLink RX2 68 (TX2 8).1 (TX2 8).2.1 (TX2 8).2.2.1 ∈ wsX2_findDistricts := by decide +kernel
theorem fl_X2_findDistricts_15 : Cond.fieldLink RX2 15 (TX2 2).1 (TX2 2).2.1 (TX2 2).2.2.1 ∈ wsX2_findDistricts := by decide +kernel
theorem stX4_setForMembers_X2_findDistricts : Cond.static yX4_setForMembers ∈ wsX2_findDistricts := by decide +kernel
theorem fl_X2_findDistricts_18 : Cond.fieldLink RX2 18 (TX2 3).1 (TX2 3).2.1 (TX2 3).2.2.1 ∈ wsX2_findDistricts := by decide +kernel
set_option maxHeartbeats 400000 in
set_option maxRecDepth 100000 in
theorem c_X2_findDistricts (l : Launch) (E : EE) (sz : Nat) (s0 t0 sP sD sS sL sF q1 q2 q3 q4 : Nat) (k n : Nat) (pc ds pr : Int32) (dO dS en : Nat → Int32) (gk : k ≤ 30) (gn : n ≤ 16) : Cv l yX2_findDistricts wsX2_findDistricts 2 47 E [.ref s0] [(s0, .inr (2, [.ref t0, .ref sP, .ref sD, .ref sS, .ref sL, .ref sF, .int pc, .int ds, .int pr])), (t0, .inr (3, [.int (nI n), .int (nI k), .ref q1, .ref q2, .ref q3, .ref q4])), (sD, aI E 16 dO), (sS, aI E 16 dS), (q4, aI E 30 en)] sz [(s0, .inr (2, [.ref t0, .ref sP, .ref sD, .ref sS, .ref sL, .ref sF, .int pc, .int (nI ((swD (rsC en (allR (nI k) &&& (pr ^^^ (-1))) k) dO dS n).2.1)), .int pr])), (t0, .inr (3, [.int (nI n), .int (nI k), .ref q1, .ref q2, .ref q3, .ref q4])), (sD, aI E 16 ((swD (rsC en (allR (nI k) &&& (pr ^^^ (-1))) k) dO dS n).2.2.1)), (sS, aI E 16 ((swD (rsC en (allR (nI k) &&& (pr ^^^ (-1))) k) dO dS n).2.2.2)), (q4, aI E 30 en)] := by
  refine C_of (QQ := QV E [(s0, .inr (2, [.ref t0, .ref sP, .ref sD, .ref sS, .ref sL, .ref sF, .int pc, .int (nI ((swD (rsC en (allR (nI k) &&& (pr ^^^ (-1))) k) dO dS n).2.1)), .int pr])), (t0, .inr (3, [.int (nI n), .int (nI k), .ref q1, .ref q2, .ref q3, .ref q4])), (sD, aI E 16 ((swD (rsC en (allR (nI k) &&& (pr ^^^ (-1))) k) dO dS n).2.2.1)), (sS, aI E 16 ((swD (rsC en (allR (nI k) &&& (pr ^^^ (-1))) k) dO dS n).2.2.2)), (q4, aI E 30 en)]) (cc := cX2_findDistricts) (maxL := 4) (ret := none) (by decide +kernel) rfl (Nat.le_of_ble_eq_true rfl) ?_
  intro p e s m args below meth c A R Q ls hx hb hr hts hown hml hlocks hA hK hN hP hD hS hl hR hQ
  have hown : s.vm.findClass RX2 = some m.cls := hown
  have hl : lv_has ls 4 [(0, .ref s0)] := hl
  refine lv_iconst (v := nI 0) hx hb dX2_findDistricts_0 (by decide) ?_
  refine lv_istore_n (lv' := [(1, .int (nI 0)), (0, .ref s0)]) hx hb dX2_findDistricts_1 rfl hl (by decide) rfl (fun ls hl => ?_)
  refine lv_aload_n hx hb dX2_findDistricts_2 rfl (lv_at hl 1 rfl) ?_
  refine lv_iconst (v := nI 0) hx hb dX2_findDistricts_3 (by decide) ?_
  refine rk_put (ci := 2) (C := RX2) (T := TX2) (N := 9) hx hb hts iw_X2_findDistricts_2 tyX2 tyX2_ok nmX2 hown hK hP hD hS 0 rfl rfl 7 (by decide) fl_X2_findDistricts_80 rfl rfl (tyX2_ok 7 (by decide)) rfl rfl (Nat.le_of_ble_eq_true rfl) (ws' := [(s0, .inr (2, [.ref t0, .ref sP, .ref sD, .ref sS, .ref sL, .ref sF, .int pc, .int (nI 0), .int pr])), (t0, .inr (3, [.int (nI n), .int (nI k), .ref q1, .ref q2, .ref q3, .ref q4])), (sD, aI E 16 dO), (sS, aI E 16 dS), (q4, aI E 30 en)]) rfl dX2_findDistricts_4 (fun H locs hP hD hS => ?_)
  refine lv_iconst (v := nI 0) hx hb dX2_findDistricts_7 (by decide) ?_
  refine lv_istore_n (lv' := [(2, .int (nI 0)), (1, .int (nI 0)), (0, .ref s0)]) hx hb dX2_findDistricts_8 rfl hl (by decide) rfl (fun ls hl => ?_)
  have L9 : ∀ (fu : Nat) (sn : Int32) (q p1 : Nat) (f f2 : Nat → Int32), (e1 : sn = (swD (rsC en (allR (nI k) &&& (pr ^^^ (-1))) k) dO dS q).1) → (e2 : p1 = (swD (rsC en (allR (nI k) &&& (pr ^^^ (-1))) k) dO dS q).2.1) → (e3 : f = (swD (rsC en (allR (nI k) &&& (pr ^^^ (-1))) k) dO dS q).2.2.1) → (e4 : f2 = (swD (rsC en (allR (nI k) &&& (pr ^^^ (-1))) k) dO dS q).2.2.2) → (gq : q ≤ n) → n - q < fu → ∀ (H : Heap) (locs : List Loc), va_P E.1 vwCl [(s0, .inr (2, [.ref t0, .ref sP, .ref sD, .ref sS, .ref sL, .ref sF, .int pc, .int (nI p1), .int pr])), (t0, .inr (3, [.int (nI n), .int (nI k), .ref q1, .ref q2, .ref q3, .ref q4])), (sD, aI E 16 f), (sS, aI E 16 f2), (q4, aI E 30 en)] H → va_D A [(s0, .inr (2, [.ref t0, .ref sP, .ref sD, .ref sS, .ref sL, .ref sF, .int pc, .int (nI p1), .int pr])), (t0, .inr (3, [.int (nI n), .int (nI k), .ref q1, .ref q2, .ref q3, .ref q4])), (sD, aI E 16 f), (sS, aI E 16 f2), (q4, aI E 30 en)] → va_S A s.heap H locs → ∀ (ls : Array Slot), lv_has ls 4 [(2, .int (nI q)), (1, .int sn), (0, .ref s0)] → W p l e R s m args below meth c H locs 0 0 Q (F0 m 9 ls []) := by
    intro fu
    induction fu with
    | zero => intro sn q p1 f f2 e1 e2 e3 e4 gq hfu; exact absurd hfu (Nat.not_lt_zero _)
    | succ fu ih9 =>
      intro sn q p1 f f2 e1 e2 e3 e4 gq hfu H locs hP hD hS ls hl
      have gp : p1 ≤ q := by rw [e2]; exact swD_le _ _ _ _
      refine lv_iload_n hx hb dX2_findDistricts_9 rfl (lv_at hl 0 rfl) ?_
      refine lv_aload_n hx hb dX2_findDistricts_10 rfl (lv_at hl 2 rfl) ?_
      refine rk_get (ci := 2) (C := RX2) (T := TX2) (N := 9) hx hb hts iw_X2_findDistricts_2 hown hK hP 0 rfl rfl 0 (by decide) fl_X2_findDistricts_27 rfl (v := .ref t0) rfl dX2_findDistricts_11 ?_
      refine rk_get (ci := 3) (C := RX3) (T := TX3) (N := 6) hx hb hts iw_X2_findDistricts_3 hown hK hP 1 rfl rfl 0 (by decide) fl_X2_findDistricts_47 rfl (v := .int (nI n)) rfl dX2_findDistricts_14 ?_
      refine rk_geN (tgt := 93) hx hb (by omega) (by omega) dX2_findDistricts_17 (by decide) (fun zc17 => ?_) (fun zc17 => ?_)
      · obtain rfl : n = q := by omega
        subst e1; subst e2; subst e3; subst e4
        exact ret_v hQ hx hb hr hlocks (hP.sub [0, 1, 2, 3, 4] rfl) (hD.sub [0, 1, 2, 3, 4] (by decide) rfl) hS dX2_findDistricts_93
      · refine lv_iload_n hx hb dX2_findDistricts_20 rfl (lv_at hl 1 rfl) ?_
        refine lv_iload_n hx hb dX2_findDistricts_21 rfl (lv_at hl 0 rfl) ?_
        refine kSN_i (E := E) (As := [.int sn, .int (nI q)]) (rest := []) (wr := [(s0, .inr (2, [.ref t0, .ref sP, .ref sD, .ref sS, .ref sL, .ref sF, .int pc, .int (nI p1), .int pr])), (t0, .inr (3, [.int (nI n), .int (nI k), .ref q1, .ref q2, .ref q3, .ref q4])), (sD, aI E 16 f), (sS, aI E 16 f2), (q4, aI E 30 en)]) ⟨hx, hb, hml, hown, hts⟩ (c_X4_contains (l := l) (E := E) (sz := _) (x := sn) (y := nI q) ) ⟨va_cnB 2 hts gX2_findDistricts_X4_contains_n52 rfl rfl rfl hN.2.1 (hts _ inX4_X2_findDistricts) (by decide +kernel) ⟨by rw [hR]; decide, by rw [hR]; decide⟩, hts _ stX4_contains_X2_findDistricts, trivial⟩ hK hN hP hD hS hA [] [0, 1, 2, 3, 4] rfl (by decide) rfl (by decide) (by decide) rfl hl.1 rfl (Nat.le_of_ble_eq_true rfl) dX2_findDistricts_22 ⟨Nat.zero_le _, Nat.zero_le _⟩ (fun H locs hP hD hS => ?_)
        have hP : va_P E.1 vwCl [(s0, .inr (2, [.ref t0, .ref sP, .ref sD, .ref sS, .ref sL, .ref sF, .int pc, .int (nI p1), .int pr])), (t0, .inr (3, [.int (nI n), .int (nI k), .ref q1, .ref q2, .ref q3, .ref q4])), (sD, aI E 16 f), (sS, aI E 16 f2), (q4, aI E 30 en)] H := hP
        have hD : va_D A [(s0, .inr (2, [.ref t0, .ref sP, .ref sD, .ref sS, .ref sL, .ref sF, .int pc, .int (nI p1), .int pr])), (t0, .inr (3, [.int (nI n), .int (nI k), .ref q1, .ref q2, .ref q3, .ref q4])), (sD, aI E 16 f), (sS, aI E 16 f2), (q4, aI E 30 en)] := hD
        refine rk_if_neB (tgt := 87) hx hb dX2_findDistricts_25 (by decide) (fun zc25 => ?_) (fun zc25 => ?_)
        · refine lv_iinc (v := nI (q + 1)) (lv' := [(2, .int (nI (q + 1))), (1, .int sn), (0, .ref s0)]) hx hb dX2_findDistricts_87 hl (k := 0) rfl (by rw [show Int32.ofInt 1 = nI 1 by decide]; exact nI_add _ _) (by decide) rfl (fun ls hl => ?_)
          refine lv_goto (tgt := 9) hx hb dX2_findDistricts_90 (by decide) ?_
          exact ih9 sn (q + 1) p1 f f2 (by subst e1; subst e2; subst e3; subst e4; rw [swD_t zc25]) (by subst e1; subst e2; subst e3; subst e4; rw [swD_t zc25]) (by subst e1; subst e2; subst e3; subst e4; rw [swD_t zc25]) (by subst e1; subst e2; subst e3; subst e4; rw [swD_t zc25]) (by first | assumption | omega | rfl) (by omega) _ _ (hP.sub [0, 1, 2, 3, 4] rfl) (hD.sub [0, 1, 2, 3, 4] (by decide) rfl) hS ls (lv_sub hl [0, 1, 2] rfl)
        · refine lv_aload_n hx hb dX2_findDistricts_28 rfl (lv_at hl 2 rfl) ?_
          refine rk_get (ci := 2) (C := RX2) (T := TX2) (N := 9) hx hb hts iw_X2_findDistricts_2 hown hK hP 0 rfl rfl 0 (by decide) fl_X2_findDistricts_27 rfl (v := .ref t0) rfl dX2_findDistricts_29 ?_
          refine lv_iload_n hx hb dX2_findDistricts_32 rfl (lv_at hl 0 rfl) ?_
          refine lv_aload_n hx hb dX2_findDistricts_33 rfl (lv_at hl 2 rfl) ?_
          refine rk_get (ci := 2) (C := RX2) (T := TX2) (N := 9) hx hb hts iw_X2_findDistricts_2 hown hK hP 0 rfl rfl 0 (by decide) fl_X2_findDistricts_27 rfl (v := .ref t0) rfl dX2_findDistricts_34 ?_
          refine kV_i (E := E) (As := []) (rest := [.int (nI q), .ref t0]) (wr := [(s0, .inr (2, [.ref t0, .ref sP, .ref sD, .ref sS, .ref sL, .ref sF, .int pc, .int (nI p1), .int pr])), (sD, aI E 16 f), (sS, aI E 16 f2), (q4, aI E 30 en)]) ⟨hx, hb, hml, hown, hts⟩ (c_X3_allRoads (l := l) (E := E) (sz := _) (h0 := t0) (sc := nI n) (f1 := nI k) (q1 := q1) (q2 := q2) (q3 := q3) (q4 := q4) ) (cwV 0 hts gX2_findDistricts_X3_allRoads rfl rfl rfl (by decide +kernel) ⟨by rw [hR]; decide, by rw [hR]; decide⟩) hK hN hP hD hS hA [1] [0, 2, 3, 4] rfl (by decide) rfl (by decide) (by decide) 1 3 rfl rfl rfl hl.1 rfl (Nat.le_of_ble_eq_true rfl) dX2_findDistricts_37 ⟨Nat.zero_le _, Nat.zero_le _⟩ (fun H locs hP hD hS => ?_)
          have hP : va_P E.1 vwCl [(s0, .inr (2, [.ref t0, .ref sP, .ref sD, .ref sS, .ref sL, .ref sF, .int pc, .int (nI p1), .int pr])), (sD, aI E 16 f), (sS, aI E 16 f2), (q4, aI E 30 en), (t0, .inr (3, [.int (nI n), .int (nI k), .ref q1, .ref q2, .ref q3, .ref q4]))] H := hP
          have hD : va_D A [(s0, .inr (2, [.ref t0, .ref sP, .ref sD, .ref sS, .ref sL, .ref sF, .int pc, .int (nI p1), .int pr])), (sD, aI E 16 f), (sS, aI E 16 f2), (q4, aI E 30 en), (t0, .inr (3, [.int (nI n), .int (nI k), .ref q1, .ref q2, .ref q3, .ref q4]))] := hD
          refine lv_aload_n hx hb dX2_findDistricts_40 rfl (lv_at hl 2 rfl) ?_
          refine rk_get (ci := 2) (C := RX2) (T := TX2) (N := 9) hx hb hts iw_X2_findDistricts_2 hown hK hP 0 rfl rfl 8 (by decide) fl_X2_findDistricts_68 rfl (v := .int pr) rfl dX2_findDistricts_41 ?_
          refine lv_iconst (v := (-1)) hx hb dX2_findDistricts_44 (by decide) ?_
          refine lv_ixor hx hb dX2_findDistricts_45 ?_
          refine lv_iand hx hb dX2_findDistricts_46 ?_
          refine kV_i (E := E) (As := [.int (nI q), .int ((allR (nI k)) &&& (pr ^^^ ((-1))))]) (rest := []) (wr := [(s0, .inr (2, [.ref t0, .ref sP, .ref sD, .ref sS, .ref sL, .ref sF, .int pc, .int (nI p1), .int pr])), (sD, aI E 16 f), (sS, aI E 16 f2)]) ⟨hx, hb, hml, hown, hts⟩ (c_X3_reach (l := l) (E := E) (sz := _) (h0 := t0) (q1 := q1) (q2 := q2) (q3 := q3) (q4 := q4) (sc := nI n) (k := k) (en := en) (q := q) (w := (allR (nI k)) &&& (pr ^^^ ((-1)))) (hk := by first | assumption | omega) (hq := by first | assumption | omega)) (cwV 2 hts gX2_findDistricts_X3_reach rfl rfl rfl (by decide +kernel) ⟨by rw [hR]; decide, by rw [hR]; decide⟩) hK hN hP hD hS hA [4, 3] [0, 1, 2] rfl (by decide) rfl (by decide) (by decide) 4 3 rfl rfl rfl hl.1 rfl (Nat.le_of_ble_eq_true rfl) dX2_findDistricts_47 ⟨Nat.zero_le _, Nat.zero_le _⟩ (fun H locs hP hD hS => ?_)
          have hP : va_P E.1 vwCl [(s0, .inr (2, [.ref t0, .ref sP, .ref sD, .ref sS, .ref sL, .ref sF, .int pc, .int (nI p1), .int pr])), (sD, aI E 16 f), (sS, aI E 16 f2), (t0, .inr (3, [.int (nI n), .int (nI k), .ref q1, .ref q2, .ref q3, .ref q4])), (q4, aI E 30 en)] H := hP
          have hD : va_D A [(s0, .inr (2, [.ref t0, .ref sP, .ref sD, .ref sS, .ref sL, .ref sF, .int pc, .int (nI p1), .int pr])), (sD, aI E 16 f), (sS, aI E 16 f2), (t0, .inr (3, [.int (nI n), .int (nI k), .ref q1, .ref q2, .ref q3, .ref q4])), (q4, aI E 30 en)] := hD
          refine lv_istore_n (lv' := [(3, .int (rsC en ((allR (nI k)) &&& (pr ^^^ ((-1)))) k q)), (2, .int (nI q)), (1, .int sn), (0, .ref s0)]) hx hb dX2_findDistricts_50 rfl hl (by decide) rfl (fun ls hl => ?_)
          refine lv_aload_n hx hb dX2_findDistricts_51 rfl (lv_at hl 3 rfl) ?_
          refine rk_get (ci := 2) (C := RX2) (T := TX2) (N := 9) hx hb hts iw_X2_findDistricts_2 hown hK hP 0 rfl rfl 2 (by decide) fl_X2_findDistricts_15 rfl (v := .ref sD) rfl dX2_findDistricts_52 ?_
          refine lv_iload_n hx hb dX2_findDistricts_55 rfl (lv_at hl 0 rfl) ?_
          refine lv_aload_n hx hb dX2_findDistricts_56 rfl (lv_at hl 3 rfl) ?_
          refine rk_get (ci := 2) (C := RX2) (T := TX2) (N := 9) hx hb hts iw_X2_findDistricts_2 hown hK hP 0 rfl rfl 7 (by decide) fl_X2_findDistricts_80 rfl (v := .int (nI p1)) rfl dX2_findDistricts_57 ?_
          refine kSN_v (E := E) (As := [.ref sD, .int (rsC en ((allR (nI k)) &&& (pr ^^^ ((-1)))) k q), .int (nI p1)]) (rest := []) (wr := [(s0, .inr (2, [.ref t0, .ref sP, .ref sD, .ref sS, .ref sL, .ref sF, .int pc, .int (nI p1), .int pr])), (sS, aI E 16 f2), (t0, .inr (3, [.int (nI n), .int (nI k), .ref q1, .ref q2, .ref q3, .ref q4])), (q4, aI E 30 en)]) ⟨hx, hb, hml, hown, hts⟩ (c_X4_setForMembers (l := l) (E := E) (sz := _) (q1 := sD) (f := f) (x := rsC en ((allR (nI k)) &&& (pr ^^^ ((-1)))) k q) (v := nI p1) ) ⟨va_cnB 3 hts gX2_findDistricts_X4_setForMembers_n64 rfl rfl rfl hN.2.2.1 (hts _ inX4_X2_findDistricts) (by decide +kernel) ⟨by rw [hR]; decide, by rw [hR]; decide⟩, hts _ stX4_setForMembers_X2_findDistricts, trivial⟩ hK hN hP hD hS hA [1] [0, 2, 3, 4] rfl (by decide) rfl (by decide) (by decide) rfl hl.1 rfl (Nat.le_of_ble_eq_true rfl) dX2_findDistricts_60 ⟨Nat.zero_le _, Nat.zero_le _⟩ (fun H locs hP hD hS => ?_)
          have hP : va_P E.1 vwCl [(s0, .inr (2, [.ref t0, .ref sP, .ref sD, .ref sS, .ref sL, .ref sF, .int pc, .int (nI p1), .int pr])), (sS, aI E 16 f2), (t0, .inr (3, [.int (nI n), .int (nI k), .ref q1, .ref q2, .ref q3, .ref q4])), (q4, aI E 30 en), (sD, aI E 16 (sfm f (rsC en ((allR (nI k)) &&& (pr ^^^ ((-1)))) k q) (nI p1) 16))] H := hP
          have hD : va_D A [(s0, .inr (2, [.ref t0, .ref sP, .ref sD, .ref sS, .ref sL, .ref sF, .int pc, .int (nI p1), .int pr])), (sS, aI E 16 f2), (t0, .inr (3, [.int (nI n), .int (nI k), .ref q1, .ref q2, .ref q3, .ref q4])), (q4, aI E 30 en), (sD, aI E 16 (sfm f (rsC en ((allR (nI k)) &&& (pr ^^^ ((-1)))) k q) (nI p1) 16))] := hD
          refine lv_aload_n hx hb dX2_findDistricts_63 rfl (lv_at hl 3 rfl) ?_
          refine rk_get (ci := 2) (C := RX2) (T := TX2) (N := 9) hx hb hts iw_X2_findDistricts_2 hown hK hP 0 rfl rfl 3 (by decide) fl_X2_findDistricts_18 rfl (v := .ref sS) rfl dX2_findDistricts_64 ?_
          refine lv_aload_n hx hb dX2_findDistricts_67 rfl (lv_at hl 3 rfl) ?_
          refine rk_get (ci := 2) (C := RX2) (T := TX2) (N := 9) hx hb hts iw_X2_findDistricts_2 hown hK hP 0 rfl rfl 7 (by decide) fl_X2_findDistricts_80 rfl (v := .int (nI p1)) rfl dX2_findDistricts_68 ?_
          refine lv_iload_n hx hb dX2_findDistricts_71 rfl (lv_at hl 0 rfl) ?_
          refine rk_iast hx hb hK hP hD hS 1 rfl (by omega) (by omega) (ws' := [(s0, .inr (2, [.ref t0, .ref sP, .ref sD, .ref sS, .ref sL, .ref sF, .int pc, .int (nI p1), .int pr])), (sS, aI E 16 (upd f2 p1 (rsC en ((allR (nI k)) &&& (pr ^^^ ((-1)))) k q))), (t0, .inr (3, [.int (nI n), .int (nI k), .ref q1, .ref q2, .ref q3, .ref q4])), (q4, aI E 30 en), (sD, aI E 16 (sfm f (rsC en ((allR (nI k)) &&& (pr ^^^ ((-1)))) k q) (nI p1) 16))]) rfl dX2_findDistricts_72 (fun H locs hP hD hS => ?_)
          refine lv_iload_n hx hb dX2_findDistricts_73 rfl (lv_at hl 2 rfl) ?_
          refine lv_iload_n hx hb dX2_findDistricts_74 rfl (lv_at hl 0 rfl) ?_
          refine lv_ior hx hb dX2_findDistricts_75 ?_
          refine lv_istore_n (lv' := [(1, .int (sn ||| (rsC en ((allR (nI k)) &&& (pr ^^^ ((-1)))) k q))), (3, .int (rsC en ((allR (nI k)) &&& (pr ^^^ ((-1)))) k q)), (2, .int (nI q)), (0, .ref s0)]) hx hb dX2_findDistricts_76 rfl hl (by decide) rfl (fun ls hl => ?_)
          refine lv_aload_n hx hb dX2_findDistricts_77 rfl (lv_at hl 3 rfl) ?_
          refine lv_dup hx hb dX2_findDistricts_78 rfl ?_
          refine rk_get (ci := 2) (C := RX2) (T := TX2) (N := 9) hx hb hts iw_X2_findDistricts_2 hown hK hP 0 rfl rfl 7 (by decide) fl_X2_findDistricts_80 rfl (v := .int (nI p1)) rfl dX2_findDistricts_79 ?_
          refine lv_iconst (v := nI 1) hx hb dX2_findDistricts_82 (by decide) ?_
          refine rk_iaddN hx hb dX2_findDistricts_83 ?_
          refine rk_put (ci := 2) (C := RX2) (T := TX2) (N := 9) hx hb hts iw_X2_findDistricts_2 tyX2 tyX2_ok nmX2 hown hK hP hD hS 0 rfl rfl 7 (by decide) fl_X2_findDistricts_80 rfl rfl (tyX2_ok 7 (by decide)) rfl rfl (Nat.le_of_ble_eq_true rfl) (ws' := [(s0, .inr (2, [.ref t0, .ref sP, .ref sD, .ref sS, .ref sL, .ref sF, .int pc, .int (nI (p1 + 1)), .int pr])), (sS, aI E 16 (upd f2 p1 (rsC en ((allR (nI k)) &&& (pr ^^^ ((-1)))) k q))), (t0, .inr (3, [.int (nI n), .int (nI k), .ref q1, .ref q2, .ref q3, .ref q4])), (q4, aI E 30 en), (sD, aI E 16 (sfm f (rsC en ((allR (nI k)) &&& (pr ^^^ ((-1)))) k q) (nI p1) 16))]) rfl dX2_findDistricts_84 (fun H locs hP hD hS => ?_)
          refine lv_iinc (v := nI (q + 1)) (lv' := [(2, .int (nI (q + 1))), (1, .int (sn ||| (rsC en ((allR (nI k)) &&& (pr ^^^ ((-1)))) k q))), (3, .int (rsC en ((allR (nI k)) &&& (pr ^^^ ((-1)))) k q)), (0, .ref s0)]) hx hb dX2_findDistricts_87 hl (k := 2) rfl (by rw [show Int32.ofInt 1 = nI 1 by decide]; exact nI_add _ _) (by decide) rfl (fun ls hl => ?_)
          refine lv_goto (tgt := 9) hx hb dX2_findDistricts_90 (by decide) ?_
          exact ih9 (sn ||| (rsC en ((allR (nI k)) &&& (pr ^^^ ((-1)))) k q)) (q + 1) (p1 + 1) (sfm f (rsC en ((allR (nI k)) &&& (pr ^^^ ((-1)))) k q) (nI p1) 16) (upd f2 p1 (rsC en ((allR (nI k)) &&& (pr ^^^ ((-1)))) k q)) (by subst e1; subst e2; subst e3; subst e4; rw [swD_f zc25]) (by subst e1; subst e2; subst e3; subst e4; rw [swD_f zc25]) (by subst e1; subst e2; subst e3; subst e4; rw [swD_f zc25]) (by subst e1; subst e2; subst e3; subst e4; rw [swD_f zc25]) (by first | assumption | omega | rfl) (by omega) _ _ (hP.sub [0, 2, 4, 1, 3] rfl) (hD.sub [0, 2, 4, 1, 3] (by decide) rfl) hS ls (lv_sub hl [0, 1, 3] rfl)
  exact L9 ((n - 0) + 1) (nI 0) 0 0 dO dS (rfl) (rfl) (rfl) (rfl) (by first | assumption | omega | rfl) (Nat.lt_succ_self _) _ _ (hP.sub [0, 1, 2, 3, 4] rfl) (hD.sub [0, 1, 2, 3, 4] (by decide) rfl) hS ls (lv_sub hl [0, 1, 2] rfl)
set_option maxHeartbeats 400000 in
set_option maxRecDepth 100000 in
theorem c_X2_renew (l : Launch) (E : EE) (sz : Nat) (s0 t0 sP sD sS sL sF q1 q2 q3 q4 : Nat) (k n : Nat) (pc ds pr : Int32) (po dO dS lS lo hi en : Nat → Int32) (a : Nat → Nat) (gk : k ≤ 30) (gn : n ≤ 16) (glo : ∀ r, r < k → lo r = nI (a r)) (ga : ∀ r, r < k → a r < 16) : Cv l yX2_renew wsX2_renew 3 70 E [.ref s0] [(s0, .inr (2, [.ref t0, .ref sP, .ref sD, .ref sS, .ref sL, .ref sF, .int pc, .int ds, .int pr])), (t0, .inr (3, [.int (nI n), .int (nI k), .ref q1, .ref q2, .ref q3, .ref q4])), (sP, aI E 16 po), (sD, aI E 16 dO), (sS, aI E 16 dS), (sL, aI E 30 lS), (q1, aI E 30 lo), (q2, aI E 30 hi), (q4, aI E 30 en)] sz [(s0, .inr (2, [.ref t0, .ref sP, .ref sD, .ref sS, .ref sL, .ref sF, .int (nI ((swP (rsC en (allR (nI k)) k) po n).2.1)), .int (nI ((swD (rsC en (allR (nI k) &&& ((pRs (sdR en k a) hi k) ^^^ (-1))) k) dO dS n).2.1)), .int (pRs (sdR en k a) hi k)])), (t0, .inr (3, [.int (nI n), .int (nI k), .ref q1, .ref q2, .ref q3, .ref q4])), (sP, aI E 16 ((swP (rsC en (allR (nI k)) k) po n).2.2)), (sD, aI E 16 ((swD (rsC en (allR (nI k) &&& ((pRs (sdR en k a) hi k) ^^^ (-1))) k) dO dS n).2.2.1)), (sS, aI E 16 ((swD (rsC en (allR (nI k) &&& ((pRs (sdR en k a) hi k) ^^^ (-1))) k) dO dS n).2.2.2)), (sL, aI E 30 (lsf lS (sdR en k a) k)), (q1, aI E 30 lo), (q2, aI E 30 hi), (q4, aI E 30 en)] := by
  refine C_of (QQ := QV E [(s0, .inr (2, [.ref t0, .ref sP, .ref sD, .ref sS, .ref sL, .ref sF, .int (nI ((swP (rsC en (allR (nI k)) k) po n).2.1)), .int (nI ((swD (rsC en (allR (nI k) &&& ((pRs (sdR en k a) hi k) ^^^ (-1))) k) dO dS n).2.1)), .int (pRs (sdR en k a) hi k)])), (t0, .inr (3, [.int (nI n), .int (nI k), .ref q1, .ref q2, .ref q3, .ref q4])), (sP, aI E 16 ((swP (rsC en (allR (nI k)) k) po n).2.2)), (sD, aI E 16 ((swD (rsC en (allR (nI k) &&& ((pRs (sdR en k a) hi k) ^^^ (-1))) k) dO dS n).2.2.1)), (sS, aI E 16 ((swD (rsC en (allR (nI k) &&& ((pRs (sdR en k a) hi k) ^^^ (-1))) k) dO dS n).2.2.2)), (sL, aI E 30 (lsf lS (sdR en k a) k)), (q1, aI E 30 lo), (q2, aI E 30 hi), (q4, aI E 30 en)]) (cc := cX2_renew) (maxL := 1) (ret := none) (by decide +kernel) rfl (Nat.le_of_ble_eq_true rfl) ?_
  intro p e s m args below meth c A R Q ls hx hb hr hts hown hml hlocks hA hK hN hP hD hS hl hR hQ
  have hown : s.vm.findClass RX2 = some m.cls := hown
  have hl : lv_has ls 1 [(0, .ref s0)] := hl
  refine lv_aload_n hx hb dX2_renew_0 rfl (lv_at hl 0 rfl) ?_
  refine kV_v (E := E) (As := []) (rest := []) (wr := [(sD, aI E 16 dO), (sS, aI E 16 dS), (sL, aI E 30 lS), (q1, aI E 30 lo), (q2, aI E 30 hi)]) ⟨hx, hb, hml, hown, hts⟩ (c_X2_findPieces (l := l) (E := E) (sz := _) (s0 := s0) (t0 := t0) (sP := sP) (sD := sD) (sS := sS) (sL := sL) (sF := sF) (q1 := q1) (q2 := q2) (q3 := q3) (q4 := q4) (k := k) (n := n) (pc := pc) (ds := ds) (pr := pr) (po := po) (en := en) (gk := by first | assumption | omega) (gn := by first | assumption | omega)) (cwV 0 hts gX2_renew_X2_findPieces rfl rfl rfl (by decide +kernel) ⟨by rw [hR]; decide, by rw [hR]; decide⟩) hK hN hP hD hS hA [0, 1, 2, 8] [3, 4, 5, 6, 7] rfl (by decide) rfl (by decide) (by decide) 0 2 rfl rfl rfl hl.1 rfl (Nat.le_of_ble_eq_true rfl) dX2_renew_1 ⟨Nat.zero_le _, Nat.zero_le _⟩ (fun H locs hP hD hS => ?_)
  have hP : va_P E.1 vwCl [(sD, aI E 16 dO), (sS, aI E 16 dS), (sL, aI E 30 lS), (q1, aI E 30 lo), (q2, aI E 30 hi), (s0, .inr (2, [.ref t0, .ref sP, .ref sD, .ref sS, .ref sL, .ref sF, .int (nI ((swP (rsC en (allR (nI k)) k) po n).2.1)), .int ds, .int pr])), (t0, .inr (3, [.int (nI n), .int (nI k), .ref q1, .ref q2, .ref q3, .ref q4])), (sP, aI E 16 ((swP (rsC en (allR (nI k)) k) po n).2.2)), (q4, aI E 30 en)] H := hP
  have hD : va_D A [(sD, aI E 16 dO), (sS, aI E 16 dS), (sL, aI E 30 lS), (q1, aI E 30 lo), (q2, aI E 30 hi), (s0, .inr (2, [.ref t0, .ref sP, .ref sD, .ref sS, .ref sL, .ref sF, .int (nI ((swP (rsC en (allR (nI k)) k) po n).2.1)), .int ds, .int pr])), (t0, .inr (3, [.int (nI n), .int (nI k), .ref q1, .ref q2, .ref q3, .ref q4])), (sP, aI E 16 ((swP (rsC en (allR (nI k)) k) po n).2.2)), (q4, aI E 30 en)] := hD
  refine lv_aload_n hx hb dX2_renew_4 rfl (lv_at hl 0 rfl) ?_
  refine kV_v (E := E) (As := []) (rest := []) (wr := [(sD, aI E 16 dO), (sS, aI E 16 dS), (sP, aI E 16 ((swP (rsC en (allR (nI k)) k) po n).2.2))]) ⟨hx, hb, hml, hown, hts⟩ (c_X2_findPartingRoads (l := l) (E := E) (sz := _) (s0 := s0) (t0 := t0) (sP := sP) (sD := sD) (sS := sS) (sL := sL) (sF := sF) (q1 := q1) (q2 := q2) (q3 := q3) (q4 := q4) (sc := nI n) (k := k) (pc := nI ((swP (rsC en (allR (nI k)) k) po n).2.1)) (ds := ds) (pr := pr) (lS := lS) (lo := lo) (hi := hi) (en := en) (a := a) (gk := by first | assumption | omega) (glo := by first | assumption | omega) (ga := by first | assumption | omega)) (cwV 0 hts gX2_renew_X2_findPartingRoads rfl rfl rfl (by decide +kernel) ⟨by rw [hR]; decide, by rw [hR]; decide⟩) hK hN hP hD hS hA [5, 6, 2, 3, 4, 8] [0, 1, 7] rfl (by decide) rfl (by decide) (by decide) 5 2 rfl rfl rfl hl.1 rfl (Nat.le_of_ble_eq_true rfl) dX2_renew_5 ⟨Nat.zero_le _, Nat.zero_le _⟩ (fun H locs hP hD hS => ?_)
  have hP : va_P E.1 vwCl [(sD, aI E 16 dO), (sS, aI E 16 dS), (sP, aI E 16 ((swP (rsC en (allR (nI k)) k) po n).2.2)), (s0, .inr (2, [.ref t0, .ref sP, .ref sD, .ref sS, .ref sL, .ref sF, .int (nI ((swP (rsC en (allR (nI k)) k) po n).2.1)), .int ds, .int (pRs (sdR en k a) hi k)])), (t0, .inr (3, [.int (nI n), .int (nI k), .ref q1, .ref q2, .ref q3, .ref q4])), (sL, aI E 30 (lsf lS (sdR en k a) k)), (q1, aI E 30 lo), (q2, aI E 30 hi), (q4, aI E 30 en)] H := hP
  have hD : va_D A [(sD, aI E 16 dO), (sS, aI E 16 dS), (sP, aI E 16 ((swP (rsC en (allR (nI k)) k) po n).2.2)), (s0, .inr (2, [.ref t0, .ref sP, .ref sD, .ref sS, .ref sL, .ref sF, .int (nI ((swP (rsC en (allR (nI k)) k) po n).2.1)), .int ds, .int (pRs (sdR en k a) hi k)])), (t0, .inr (3, [.int (nI n), .int (nI k), .ref q1, .ref q2, .ref q3, .ref q4])), (sL, aI E 30 (lsf lS (sdR en k a) k)), (q1, aI E 30 lo), (q2, aI E 30 hi), (q4, aI E 30 en)] := hD
  refine lv_aload_n hx hb dX2_renew_8 rfl (lv_at hl 0 rfl) ?_
  refine kV_v (E := E) (As := []) (rest := []) (wr := [(sP, aI E 16 ((swP (rsC en (allR (nI k)) k) po n).2.2)), (sL, aI E 30 (lsf lS (sdR en k a) k)), (q1, aI E 30 lo), (q2, aI E 30 hi)]) ⟨hx, hb, hml, hown, hts⟩ (c_X2_findDistricts (l := l) (E := E) (sz := _) (s0 := s0) (t0 := t0) (sP := sP) (sD := sD) (sS := sS) (sL := sL) (sF := sF) (q1 := q1) (q2 := q2) (q3 := q3) (q4 := q4) (k := k) (n := n) (pc := nI ((swP (rsC en (allR (nI k)) k) po n).2.1)) (ds := ds) (pr := pRs (sdR en k a) hi k) (dO := dO) (dS := dS) (en := en) (gk := by first | assumption | omega) (gn := by first | assumption | omega)) (cwV 0 hts gX2_renew_X2_findDistricts rfl rfl rfl (by decide +kernel) ⟨by rw [hR]; decide, by rw [hR]; decide⟩) hK hN hP hD hS hA [3, 4, 0, 1, 8] [2, 5, 6, 7] rfl (by decide) rfl (by decide) (by decide) 3 2 rfl rfl rfl hl.1 rfl (Nat.le_of_ble_eq_true rfl) dX2_renew_9 ⟨Nat.zero_le _, Nat.zero_le _⟩ (fun H locs hP hD hS => ?_)
  have hP : va_P E.1 vwCl [(sP, aI E 16 ((swP (rsC en (allR (nI k)) k) po n).2.2)), (sL, aI E 30 (lsf lS (sdR en k a) k)), (q1, aI E 30 lo), (q2, aI E 30 hi), (s0, .inr (2, [.ref t0, .ref sP, .ref sD, .ref sS, .ref sL, .ref sF, .int (nI ((swP (rsC en (allR (nI k)) k) po n).2.1)), .int (nI ((swD (rsC en (allR (nI k) &&& ((pRs (sdR en k a) hi k) ^^^ (-1))) k) dO dS n).2.1)), .int (pRs (sdR en k a) hi k)])), (t0, .inr (3, [.int (nI n), .int (nI k), .ref q1, .ref q2, .ref q3, .ref q4])), (sD, aI E 16 ((swD (rsC en (allR (nI k) &&& ((pRs (sdR en k a) hi k) ^^^ (-1))) k) dO dS n).2.2.1)), (sS, aI E 16 ((swD (rsC en (allR (nI k) &&& ((pRs (sdR en k a) hi k) ^^^ (-1))) k) dO dS n).2.2.2)), (q4, aI E 30 en)] H := hP
  have hD : va_D A [(sP, aI E 16 ((swP (rsC en (allR (nI k)) k) po n).2.2)), (sL, aI E 30 (lsf lS (sdR en k a) k)), (q1, aI E 30 lo), (q2, aI E 30 hi), (s0, .inr (2, [.ref t0, .ref sP, .ref sD, .ref sS, .ref sL, .ref sF, .int (nI ((swP (rsC en (allR (nI k)) k) po n).2.1)), .int (nI ((swD (rsC en (allR (nI k) &&& ((pRs (sdR en k a) hi k) ^^^ (-1))) k) dO dS n).2.1)), .int (pRs (sdR en k a) hi k)])), (t0, .inr (3, [.int (nI n), .int (nI k), .ref q1, .ref q2, .ref q3, .ref q4])), (sD, aI E 16 ((swD (rsC en (allR (nI k) &&& ((pRs (sdR en k a) hi k) ^^^ (-1))) k) dO dS n).2.2.1)), (sS, aI E 16 ((swD (rsC en (allR (nI k) &&& ((pRs (sdR en k a) hi k) ^^^ (-1))) k) dO dS n).2.2.2)), (q4, aI E 30 en)] := hD
  exact ret_v hQ hx hb hr hlocks (hP.sub [4, 5, 0, 6, 7, 1, 2, 3, 8] rfl) (hD.sub [4, 5, 0, 6, 7, 1, 2, 3, 8] (by decide) rfl) hS dX2_renew_12
theorem iw_X2_hangTogether_2 : ∀ w ∈ u_ws RX2 TX2 9, w ∈ wsX2_hangTogether := by decide +kernel
theorem fl_X2_hangTogether_9 : Cond.fieldLink RX2 9 (TX2 1).1 (TX2 1).2.1 (TX2 1).2.2.1 ∈ wsX2_hangTogether := by decide +kernel
theorem inX4_X2_hangTogether : Cond.initialized RX4 ∈ wsX2_hangTogether := by decide +kernel
theorem stX4_contains_X2_hangTogether : Cond.static yX4_contains ∈ wsX2_hangTogether := by decide +kernel
set_option maxHeartbeats 400000 in
set_option maxRecDepth 100000 in
theorem c_X2_hangTogether (l : Launch) (E : EE) (sz : Nat) (s0 t0 sP sD sS sL sF q1 q2 q3 q4 : Nat) (pc ds pr : Int32) (x : Nat) (y : Int32) (po : Nat → Int32) (g1 : x < 16) : Ci l yX2_hangTogether wsX2_hangTogether 1 21 E [.ref s0, .int (nI x), .int y] [(s0, .inr (2, [.ref t0, .ref sP, .ref sD, .ref sS, .ref sL, .ref sF, .int pc, .int ds, .int pr])), (sP, aI E 16 po)] sz (b2i (cnt (po x) y)) [(s0, .inr (2, [.ref t0, .ref sP, .ref sD, .ref sS, .ref sL, .ref sF, .int pc, .int ds, .int pr])), (sP, aI E 16 po)] := by
  refine C_of (QQ := QI E (b2i (cnt (po x) y)) [(s0, .inr (2, [.ref t0, .ref sP, .ref sD, .ref sS, .ref sL, .ref sF, .int pc, .int ds, .int pr])), (sP, aI E 16 po)]) (cc := cX2_hangTogether) (maxL := 3) (ret := (some .boolean)) (by decide +kernel) rfl (Nat.le_of_ble_eq_true rfl) ?_
  intro p e s m args below meth c A R Q ls hx hb hr hts hown hml hlocks hA hK hN hP hD hS hl hR hQ
  have hown : s.vm.findClass RX2 = some m.cls := hown
  have hl : lv_has ls 3 [(0, .ref s0), (1, .int (nI x)), (2, .int y)] := hl
  refine lv_aload_n hx hb dX2_hangTogether_0 rfl (lv_at hl 0 rfl) ?_
  refine rk_get (ci := 2) (C := RX2) (T := TX2) (N := 9) hx hb hts iw_X2_hangTogether_2 hown hK hP 0 rfl rfl 1 (by decide) fl_X2_hangTogether_9 rfl (v := .ref sP) rfl dX2_hangTogether_1 ?_
  refine lv_iload_n hx hb dX2_hangTogether_4 rfl (lv_at hl 1 rfl) ?_
  refine rk_iald hx hb hK hP 1 rfl (by omega) (by omega) (v := po x) (rfl) dX2_hangTogether_5 ?_
  refine lv_iload_n hx hb dX2_hangTogether_6 rfl (lv_at hl 2 rfl) ?_
  refine kSN_i (E := E) (As := [.int (po x), .int y]) (rest := []) (wr := [(s0, .inr (2, [.ref t0, .ref sP, .ref sD, .ref sS, .ref sL, .ref sF, .int pc, .int ds, .int pr])), (sP, aI E 16 po)]) ⟨hx, hb, hml, hown, hts⟩ (c_X4_contains (l := l) (E := E) (sz := _) (x := po x) (y := y) ) ⟨va_cnB 2 hts gX2_hangTogether_X4_contains_n52 rfl rfl rfl hN.2.1 (hts _ inX4_X2_hangTogether) (by decide +kernel) ⟨by rw [hR]; decide, by rw [hR]; decide⟩, hts _ stX4_contains_X2_hangTogether, trivial⟩ hK hN hP hD hS hA [] [0, 1] rfl (by decide) rfl (by decide) (by decide) rfl hl.1 rfl (Nat.le_of_ble_eq_true rfl) dX2_hangTogether_7 ⟨Nat.zero_le _, Nat.zero_le _⟩ (fun H locs hP hD hS => ?_)
  have hP : va_P E.1 vwCl [(s0, .inr (2, [.ref t0, .ref sP, .ref sD, .ref sS, .ref sL, .ref sF, .int pc, .int ds, .int pr])), (sP, aI E 16 po)] H := hP
  have hD : va_D A [(s0, .inr (2, [.ref t0, .ref sP, .ref sD, .ref sS, .ref sL, .ref sF, .int pc, .int ds, .int pr])), (sP, aI E 16 po)] := hD
  exact ret_z hQ hx hb hr hlocks (hP.sub [0, 1] rfl) (hD.sub [0, 1] (by decide) rfl) hS dX2_hangTogether_10 (b2i_nz _) (rfl)
theorem iw_X2_squaresBehind_2 : ∀ w ∈ u_ws RX2 TX2 9, w ∈ wsX2_squaresBehind := by decide +kernel
theorem fl_X2_squaresBehind_21 : Cond.fieldLink RX2 21 (TX2 4).1 (TX2 4).2.1 (TX2 4).2.2.1 ∈ wsX2_squaresBehind := by decide +kernel
theorem fl_X2_squaresBehind_9 : Cond.fieldLink RX2 9 (TX2 1).1 (TX2 1).2.1 (TX2 1).2.2.1 ∈ wsX2_squaresBehind := by decide +kernel
theorem inX4_X2_squaresBehind : Cond.initialized RX4 ∈ wsX2_squaresBehind := by decide +kernel
theorem stX4_contains_X2_squaresBehind : Cond.static yX4_contains ∈ wsX2_squaresBehind := by decide +kernel
set_option maxHeartbeats 400000 in
set_option maxRecDepth 100000 in
theorem c_X2_squaresBehind (l : Launch) (E : EE) (sz : Nat) (s0 t0 sP sD sS sL sF q1 q2 q3 q4 : Nat) (pc ds pr : Int32) (x r : Nat) (po lS : Nat → Int32) (g1 : x < 16) (g2 : r < 30) : Ci l yX2_squaresBehind wsX2_squaresBehind 1 21 E [.ref s0, .int (nI x), .int (nI r)] [(s0, .inr (2, [.ref t0, .ref sP, .ref sD, .ref sS, .ref sL, .ref sF, .int pc, .int ds, .int pr])), (sP, aI E 16 po), (sL, aI E 30 lS)] sz (sqB po lS x r) [(s0, .inr (2, [.ref t0, .ref sP, .ref sD, .ref sS, .ref sL, .ref sF, .int pc, .int ds, .int pr])), (sP, aI E 16 po), (sL, aI E 30 lS)] := by
  refine C_of (QQ := QI E (sqB po lS x r) [(s0, .inr (2, [.ref t0, .ref sP, .ref sD, .ref sS, .ref sL, .ref sF, .int pc, .int ds, .int pr])), (sP, aI E 16 po), (sL, aI E 30 lS)]) (cc := cX2_squaresBehind) (maxL := 4) (ret := (some .int)) (by decide +kernel) rfl (Nat.le_of_ble_eq_true rfl) ?_
  intro p e s m args below meth c A R Q ls hx hb hr hts hown hml hlocks hA hK hN hP hD hS hl hR hQ
  have hown : s.vm.findClass RX2 = some m.cls := hown
  have hl : lv_has ls 4 [(0, .ref s0), (1, .int (nI x)), (2, .int (nI r))] := hl
  refine lv_aload_n hx hb dX2_squaresBehind_0 rfl (lv_at hl 0 rfl) ?_
  refine rk_get (ci := 2) (C := RX2) (T := TX2) (N := 9) hx hb hts iw_X2_squaresBehind_2 hown hK hP 0 rfl rfl 4 (by decide) fl_X2_squaresBehind_21 rfl (v := .ref sL) rfl dX2_squaresBehind_1 ?_
  refine lv_iload_n hx hb dX2_squaresBehind_4 rfl (lv_at hl 2 rfl) ?_
  refine rk_iald hx hb hK hP 2 rfl (by omega) (by omega) (v := lS r) (rfl) dX2_squaresBehind_5 ?_
  refine lv_istore_n (lv' := [(3, .int (lS r)), (0, .ref s0), (1, .int (nI x)), (2, .int (nI r))]) hx hb dX2_squaresBehind_6 rfl hl (by decide) rfl (fun ls hl => ?_)
  refine lv_aload_n hx hb dX2_squaresBehind_7 rfl (lv_at hl 1 rfl) ?_
  refine rk_get (ci := 2) (C := RX2) (T := TX2) (N := 9) hx hb hts iw_X2_squaresBehind_2 hown hK hP 0 rfl rfl 1 (by decide) fl_X2_squaresBehind_9 rfl (v := .ref sP) rfl dX2_squaresBehind_8 ?_
  refine lv_iload_n hx hb dX2_squaresBehind_11 rfl (lv_at hl 2 rfl) ?_
  refine rk_iald hx hb hK hP 1 rfl (by omega) (by omega) (v := po x) (rfl) dX2_squaresBehind_12 ?_
  refine lv_iload_n hx hb dX2_squaresBehind_13 rfl (lv_at hl 0 rfl) ?_
  refine lv_iload_n hx hb dX2_squaresBehind_14 rfl (lv_at hl 2 rfl) ?_
  refine kSN_i (E := E) (As := [.int (lS r), .int (nI x)]) (rest := [.int (po x)]) (wr := [(s0, .inr (2, [.ref t0, .ref sP, .ref sD, .ref sS, .ref sL, .ref sF, .int pc, .int ds, .int pr])), (sP, aI E 16 po), (sL, aI E 30 lS)]) ⟨hx, hb, hml, hown, hts⟩ (c_X4_contains (l := l) (E := E) (sz := _) (x := lS r) (y := nI x) ) ⟨va_cnB 2 hts gX2_squaresBehind_X4_contains_n52 rfl rfl rfl hN.2.1 (hts _ inX4_X2_squaresBehind) (by decide +kernel) ⟨by rw [hR]; decide, by rw [hR]; decide⟩, hts _ stX4_contains_X2_squaresBehind, trivial⟩ hK hN hP hD hS hA [] [0, 1, 2] rfl (by decide) rfl (by decide) (by decide) rfl hl.1 rfl (Nat.le_of_ble_eq_true rfl) dX2_squaresBehind_15 ⟨Nat.zero_le _, Nat.zero_le _⟩ (fun H locs hP hD hS => ?_)
  have hP : va_P E.1 vwCl [(s0, .inr (2, [.ref t0, .ref sP, .ref sD, .ref sS, .ref sL, .ref sF, .int pc, .int ds, .int pr])), (sP, aI E 16 po), (sL, aI E 30 lS)] H := hP
  have hD : va_D A [(s0, .inr (2, [.ref t0, .ref sP, .ref sD, .ref sS, .ref sL, .ref sF, .int pc, .int ds, .int pr])), (sP, aI E 16 po), (sL, aI E 30 lS)] := hD
  refine rk_if_eqB (tgt := 27) hx hb dX2_squaresBehind_18 (by decide) (fun zc18 => ?_) (fun zc18 => ?_)
  · refine lv_iload_n hx hb dX2_squaresBehind_27 rfl (lv_at hl 0 rfl) ?_
    refine lv_iand hx hb dX2_squaresBehind_28 ?_
    exact ret_i hQ hx hb hr hlocks (hP.sub [0, 1, 2] rfl) (hD.sub [0, 1, 2] (by decide) rfl) hS dX2_squaresBehind_29 (by exact (sqB_f zc18).symm)
  · refine lv_iload_n hx hb dX2_squaresBehind_21 rfl (lv_at hl 0 rfl) ?_
    refine lv_iconst (v := (-1)) hx hb dX2_squaresBehind_22 (by decide) ?_
    refine lv_ixor hx hb dX2_squaresBehind_23 ?_
    refine lv_goto (tgt := 28) hx hb dX2_squaresBehind_24 (by decide) ?_
    refine lv_iand hx hb dX2_squaresBehind_28 ?_
    exact ret_i hQ hx hb hr hlocks (hP.sub [0, 1, 2] rfl) (hD.sub [0, 1, 2] (by decide) rfl) hS dX2_squaresBehind_29 (by exact (sqB_t zc18).symm)
theorem iw_X2_pairsParted_2 : ∀ w ∈ u_ws RX2 TX2 9, w ∈ wsX2_pairsParted := by decide +kernel
theorem fl_X2_pairsParted_27 : Cond.fieldLink RX2 27 (TX2 0).1 (TX2 0).2.1 (TX2 0).2.2.1 ∈ wsX2_pairsParted := by decide +kernel
theorem iw_X2_pairsParted_3 : ∀ w ∈ u_ws RX3 TX3 6, w ∈ wsX2_pairsParted := by decide +kernel
theorem fl_X2_pairsParted_74 : Cond.fieldLink RX2 74 (TX3 2).1 (TX3 2).2.1 (TX3 2).2.2.1 ∈ wsX2_pairsParted := by decide +kernel
theorem inJ6_X2_pairsParted : Cond.initialized RJ6 ∈ wsX2_pairsParted := by decide +kernel
theorem ml86_X2_pairsParted : Cond.methodLink RX2 86 yJ6_bitCount_0f7a4 ∈ wsX2_pairsParted := by decide +kernel
theorem stJ6_X2_pairsParted : Cond.static yJ6_bitCount_0f7a4 ∈ wsX2_pairsParted := by decide +kernel
theorem fl_X2_pairsParted_9 : Cond.fieldLink RX2 9 (TX2 1).1 (TX2 1).2.1 (TX2 1).2.2.1 ∈ wsX2_pairsParted := by decide +kernel
set_option maxHeartbeats 400000 in
set_option maxRecDepth 100000 in
theorem c_X2_pairsParted (l : Launch) (E : EE) (sz : Nat) (s0 t0 sP sD sS sL sF q1 q2 q3 q4 : Nat) (sc : Int32) (k : Nat) (pc ds pr : Int32) (r : Nat) (po lS lo : Nat → Int32) (a : Nat → Nat) (gr : r < k) (gk : k ≤ 30) (glo : ∀ r, r < k → lo r = nI (a r)) (ga : ∀ r, r < k → a r < 16) : Ci l yX2_pairsParted wsX2_pairsParted 2 44 E [.ref s0, .int (nI r)] [(s0, .inr (2, [.ref t0, .ref sP, .ref sD, .ref sS, .ref sL, .ref sF, .int pc, .int ds, .int pr])), (t0, .inr (3, [.int sc, .int (nI k), .ref q1, .ref q2, .ref q3, .ref q4])), (sP, aI E 16 po), (sL, aI E 30 lS), (q1, aI E 30 lo)] sz (nI (popc (sqB po lS (a r) r)) * (nI (popc (po (a r))) - nI (popc (sqB po lS (a r) r)))) [(s0, .inr (2, [.ref t0, .ref sP, .ref sD, .ref sS, .ref sL, .ref sF, .int pc, .int ds, .int pr])), (t0, .inr (3, [.int sc, .int (nI k), .ref q1, .ref q2, .ref q3, .ref q4])), (sP, aI E 16 po), (sL, aI E 30 lS), (q1, aI E 30 lo)] := by
  refine C_of (QQ := QI E (nI (popc (sqB po lS (a r) r)) * (nI (popc (po (a r))) - nI (popc (sqB po lS (a r) r)))) [(s0, .inr (2, [.ref t0, .ref sP, .ref sD, .ref sS, .ref sL, .ref sF, .int pc, .int ds, .int pr])), (t0, .inr (3, [.int sc, .int (nI k), .ref q1, .ref q2, .ref q3, .ref q4])), (sP, aI E 16 po), (sL, aI E 30 lS), (q1, aI E 30 lo)]) (cc := cX2_pairsParted) (maxL := 4) (ret := (some .int)) (by decide +kernel) rfl (Nat.le_of_ble_eq_true rfl) ?_
  intro p e s m args below meth c A R Q ls hx hb hr hts hown hml hlocks hA hK hN hP hD hS hl hR hQ
  have hown : s.vm.findClass RX2 = some m.cls := hown
  have hl : lv_has ls 4 [(0, .ref s0), (1, .int (nI r))] := hl
  refine lv_aload_n hx hb dX2_pairsParted_0 rfl (lv_at hl 0 rfl) ?_
  refine rk_get (ci := 2) (C := RX2) (T := TX2) (N := 9) hx hb hts iw_X2_pairsParted_2 hown hK hP 0 rfl rfl 0 (by decide) fl_X2_pairsParted_27 rfl (v := .ref t0) rfl dX2_pairsParted_1 ?_
  refine rk_get (ci := 3) (C := RX3) (T := TX3) (N := 6) hx hb hts iw_X2_pairsParted_3 hown hK hP 1 rfl rfl 2 (by decide) fl_X2_pairsParted_74 rfl (v := .ref q1) rfl dX2_pairsParted_4 ?_
  refine lv_iload_n hx hb dX2_pairsParted_7 rfl (lv_at hl 1 rfl) ?_
  refine rk_iald hx hb hK hP 4 rfl (by omega) (by omega) (v := nI (a r)) (glo r (by omega)) dX2_pairsParted_8 ?_
  refine lv_istore_n (lv' := [(2, .int (nI (a r))), (0, .ref s0), (1, .int (nI r))]) hx hb dX2_pairsParted_9 rfl hl (by decide) rfl (fun ls hl => ?_)
  refine lv_aload_n hx hb dX2_pairsParted_10 rfl (lv_at hl 1 rfl) ?_
  refine lv_iload_n hx hb dX2_pairsParted_11 rfl (lv_at hl 0 rfl) ?_
  refine lv_iload_n hx hb dX2_pairsParted_12 rfl (lv_at hl 2 rfl) ?_
  refine kV_i (E := E) (As := [.int (nI (a r)), .int (nI r)]) (rest := []) (wr := [(t0, .inr (3, [.int sc, .int (nI k), .ref q1, .ref q2, .ref q3, .ref q4])), (q1, aI E 30 lo)]) ⟨hx, hb, hml, hown, hts⟩ (c_X2_squaresBehind (l := l) (E := E) (sz := _) (s0 := s0) (t0 := t0) (sP := sP) (sD := sD) (sS := sS) (sL := sL) (sF := sF) (q1 := 0) (q2 := 0) (q3 := 0) (q4 := 0) (pc := pc) (ds := ds) (pr := pr) (x := a r) (r := r) (po := po) (lS := lS) (g1 := ga r gr) (g2 := by first | assumption | omega)) (cwV 2 hts gX2_pairsParted_X2_squaresBehind rfl rfl rfl (by decide +kernel) ⟨by rw [hR]; decide, by rw [hR]; decide⟩) hK hN hP hD hS hA [0, 2, 3] [1, 4] rfl (by decide) rfl (by decide) (by decide) 0 2 rfl rfl rfl hl.1 rfl (Nat.le_of_ble_eq_true rfl) dX2_pairsParted_13 ⟨Nat.zero_le _, Nat.zero_le _⟩ (fun H locs hP hD hS => ?_)
  have hP : va_P E.1 vwCl [(t0, .inr (3, [.int sc, .int (nI k), .ref q1, .ref q2, .ref q3, .ref q4])), (q1, aI E 30 lo), (s0, .inr (2, [.ref t0, .ref sP, .ref sD, .ref sS, .ref sL, .ref sF, .int pc, .int ds, .int pr])), (sP, aI E 16 po), (sL, aI E 30 lS)] H := hP
  have hD : va_D A [(t0, .inr (3, [.int sc, .int (nI k), .ref q1, .ref q2, .ref q3, .ref q4])), (q1, aI E 30 lo), (s0, .inr (2, [.ref t0, .ref sP, .ref sD, .ref sS, .ref sL, .ref sF, .int pc, .int ds, .int pr])), (sP, aI E 16 po), (sL, aI E 30 lS)] := hD
  refine kS_i (E := E) (As := [.int (sqB po lS (a r) r)]) (rest := []) (wr := [(t0, .inr (3, [.int sc, .int (nI k), .ref q1, .ref q2, .ref q3, .ref q4])), (q1, aI E 30 lo), (s0, .inr (2, [.ref t0, .ref sP, .ref sD, .ref sS, .ref sL, .ref sF, .int pc, .int ds, .int pr])), (sP, aI E 16 po), (sL, aI E 30 lS)]) ⟨hx, hb, hml, hown, hts⟩ (c_J6_bitCount_0f7a4 (l := l) (E := E) (sz := _) (x := sqB po lS (a r) r)) ⟨callB_of 1 hts ggX2_pairsParted_J6_bitCount_0f7a4 rfl rfl rfl (hts _ inJ6_X2_pairsParted) (hts _ ml86_X2_pairsParted) (by decide +kernel) ⟨by rw [hR]; decide, by rw [hR]; decide⟩, hts _ stJ6_X2_pairsParted⟩ hK hN hP hD hS hA [] [0, 1, 2, 3, 4] rfl (by decide) rfl (by decide) (by decide) rfl hl.1 rfl (Nat.le_of_ble_eq_true rfl) dX2_pairsParted_16 ⟨Nat.zero_le _, Nat.zero_le _⟩ (fun H locs hP hD hS => ?_)
  have hP : va_P E.1 vwCl [(t0, .inr (3, [.int sc, .int (nI k), .ref q1, .ref q2, .ref q3, .ref q4])), (q1, aI E 30 lo), (s0, .inr (2, [.ref t0, .ref sP, .ref sD, .ref sS, .ref sL, .ref sF, .int pc, .int ds, .int pr])), (sP, aI E 16 po), (sL, aI E 30 lS)] H := hP
  have hD : va_D A [(t0, .inr (3, [.int sc, .int (nI k), .ref q1, .ref q2, .ref q3, .ref q4])), (q1, aI E 30 lo), (s0, .inr (2, [.ref t0, .ref sP, .ref sD, .ref sS, .ref sL, .ref sF, .int pc, .int ds, .int pr])), (sP, aI E 16 po), (sL, aI E 30 lS)] := hD
  refine lv_istore_n (lv' := [(3, .int (nI (popc (sqB po lS (a r) r)))), (2, .int (nI (a r))), (0, .ref s0), (1, .int (nI r))]) hx hb dX2_pairsParted_19 rfl hl (by decide) rfl (fun ls hl => ?_)
  refine lv_iload_n hx hb dX2_pairsParted_20 rfl (lv_at hl 0 rfl) ?_
  refine lv_aload_n hx hb dX2_pairsParted_21 rfl (lv_at hl 2 rfl) ?_
  refine rk_get (ci := 2) (C := RX2) (T := TX2) (N := 9) hx hb hts iw_X2_pairsParted_2 hown hK hP 2 rfl rfl 1 (by decide) fl_X2_pairsParted_9 rfl (v := .ref sP) rfl dX2_pairsParted_22 ?_
  refine lv_iload_n hx hb dX2_pairsParted_25 rfl (lv_at hl 1 rfl) ?_
  refine rk_iald hx hb hK hP 3 rfl (ga r gr) (by omega) (v := po (a r)) (rfl) dX2_pairsParted_26 ?_
  refine kS_i (E := E) (As := [.int (po (a r))]) (rest := [.int (nI (popc (sqB po lS (a r) r)))]) (wr := [(t0, .inr (3, [.int sc, .int (nI k), .ref q1, .ref q2, .ref q3, .ref q4])), (q1, aI E 30 lo), (s0, .inr (2, [.ref t0, .ref sP, .ref sD, .ref sS, .ref sL, .ref sF, .int pc, .int ds, .int pr])), (sP, aI E 16 po), (sL, aI E 30 lS)]) ⟨hx, hb, hml, hown, hts⟩ (c_J6_bitCount_0f7a4 (l := l) (E := E) (sz := _) (x := po (a r))) ⟨callB_of 1 hts ggX2_pairsParted_J6_bitCount_0f7a4 rfl rfl rfl (hts _ inJ6_X2_pairsParted) (hts _ ml86_X2_pairsParted) (by decide +kernel) ⟨by rw [hR]; decide, by rw [hR]; decide⟩, hts _ stJ6_X2_pairsParted⟩ hK hN hP hD hS hA [] [0, 1, 2, 3, 4] rfl (by decide) rfl (by decide) (by decide) rfl hl.1 rfl (Nat.le_of_ble_eq_true rfl) dX2_pairsParted_27 ⟨Nat.zero_le _, Nat.zero_le _⟩ (fun H locs hP hD hS => ?_)
  have hP : va_P E.1 vwCl [(t0, .inr (3, [.int sc, .int (nI k), .ref q1, .ref q2, .ref q3, .ref q4])), (q1, aI E 30 lo), (s0, .inr (2, [.ref t0, .ref sP, .ref sD, .ref sS, .ref sL, .ref sF, .int pc, .int ds, .int pr])), (sP, aI E 16 po), (sL, aI E 30 lS)] H := hP
  have hD : va_D A [(t0, .inr (3, [.int sc, .int (nI k), .ref q1, .ref q2, .ref q3, .ref q4])), (q1, aI E 30 lo), (s0, .inr (2, [.ref t0, .ref sP, .ref sD, .ref sS, .ref sL, .ref sF, .int pc, .int ds, .int pr])), (sP, aI E 16 po), (sL, aI E 30 lS)] := hD
  refine lv_iload_n hx hb dX2_pairsParted_30 rfl (lv_at hl 0 rfl) ?_
  refine lv_isub hx hb dX2_pairsParted_31 ?_
  refine lv_imul hx hb dX2_pairsParted_32 ?_
  exact ret_i hQ hx hb hr hlocks (hP.sub [2, 0, 3, 4, 1] rfl) (hD.sub [2, 0, 3, 4, 1] (by decide) rfl) hS dX2_pairsParted_33 (rfl)
theorem iw_X2_roadsBetween_2 : ∀ w ∈ u_ws RX2 TX2 9, w ∈ wsX2_roadsBetween := by decide +kernel
theorem fl_X2_roadsBetween_27 : Cond.fieldLink RX2 27 (TX2 0).1 (TX2 0).2.1 (TX2 0).2.2.1 ∈ wsX2_roadsBetween := by decide +kernel
theorem iw_X2_roadsBetween_3 : ∀ w ∈ u_ws RX3 TX3 6, w ∈ wsX2_roadsBetween := by decide +kernel
theorem fl_X2_roadsBetween_71 : Cond.fieldLink RX2 71 (TX3 1).1 (TX3 1).2.1 (TX3 1).2.2.1 ∈ wsX2_roadsBetween := by decide +kernel
theorem inX4_X2_roadsBetween : Cond.initialized RX4 ∈ wsX2_roadsBetween := by decide +kernel
theorem stX4_contains_X2_roadsBetween : Cond.static yX4_contains ∈ wsX2_roadsBetween := by decide +kernel
set_option maxHeartbeats 400000 in
set_option maxRecDepth 100000 in
theorem c_X2_roadsBetween (l : Launch) (E : EE) (sz : Nat) (s0 t0 sP sD sS sL sF q1 q2 q3 q4 : Nat) (sc : Int32) (k : Nat) (pc ds pr : Int32) (x : Nat) (y : Int32) (po lS : Nat → Int32) (g1 : x < 16) (gk : k ≤ 30) : Ci l yX2_roadsBetween wsX2_roadsBetween 2 44 E [.ref s0, .int (nI x), .int y] [(s0, .inr (2, [.ref t0, .ref sP, .ref sD, .ref sS, .ref sL, .ref sF, .int pc, .int ds, .int pr])), (t0, .inr (3, [.int sc, .int (nI k), .ref q1, .ref q2, .ref q3, .ref q4])), (sP, aI E 16 po), (sL, aI E 30 lS)] sz (rBt po lS x y k) [(s0, .inr (2, [.ref t0, .ref sP, .ref sD, .ref sS, .ref sL, .ref sF, .int pc, .int ds, .int pr])), (t0, .inr (3, [.int sc, .int (nI k), .ref q1, .ref q2, .ref q3, .ref q4])), (sP, aI E 16 po), (sL, aI E 30 lS)] := by
  refine C_of (QQ := QI E (rBt po lS x y k) [(s0, .inr (2, [.ref t0, .ref sP, .ref sD, .ref sS, .ref sL, .ref sF, .int pc, .int ds, .int pr])), (t0, .inr (3, [.int sc, .int (nI k), .ref q1, .ref q2, .ref q3, .ref q4])), (sP, aI E 16 po), (sL, aI E 30 lS)]) (cc := cX2_roadsBetween) (maxL := 5) (ret := (some .int)) (by decide +kernel) rfl (Nat.le_of_ble_eq_true rfl) ?_
  intro p e s m args below meth c A R Q ls hx hb hr hts hown hml hlocks hA hK hN hP hD hS hl hR hQ
  have hown : s.vm.findClass RX2 = some m.cls := hown
  have hl : lv_has ls 5 [(0, .ref s0), (1, .int (nI x)), (2, .int y)] := hl
  refine lv_iconst (v := nI 0) hx hb dX2_roadsBetween_0 (by decide) ?_
  refine lv_istore_n (lv' := [(3, .int (nI 0)), (0, .ref s0), (1, .int (nI x)), (2, .int y)]) hx hb dX2_roadsBetween_1 rfl hl (by decide) rfl (fun ls hl => ?_)
  refine lv_iconst (v := nI 0) hx hb dX2_roadsBetween_2 (by decide) ?_
  refine lv_istore (lv' := [(4, .int (nI 0)), (3, .int (nI 0)), (0, .ref s0), (1, .int (nI x)), (2, .int y)]) hx hb dX2_roadsBetween_3 hl (by decide) rfl (fun ls hl => ?_)
  have L5 : ∀ (fu : Nat) (z : Int32) (i : Nat), (ez : z = rBt po lS x y i) → (gi : i ≤ k) → k - i < fu → ∀ (H : Heap) (locs : List Loc), va_P E.1 vwCl [(s0, .inr (2, [.ref t0, .ref sP, .ref sD, .ref sS, .ref sL, .ref sF, .int pc, .int ds, .int pr])), (t0, .inr (3, [.int sc, .int (nI k), .ref q1, .ref q2, .ref q3, .ref q4])), (sP, aI E 16 po), (sL, aI E 30 lS)] H → va_D A [(s0, .inr (2, [.ref t0, .ref sP, .ref sD, .ref sS, .ref sL, .ref sF, .int pc, .int ds, .int pr])), (t0, .inr (3, [.int sc, .int (nI k), .ref q1, .ref q2, .ref q3, .ref q4])), (sP, aI E 16 po), (sL, aI E 30 lS)] → va_S A s.heap H locs → ∀ (ls : Array Slot), lv_has ls 5 [(4, .int (nI i)), (3, .int z), (0, .ref s0), (1, .int (nI x)), (2, .int y)] → W p l e R s m args below meth c H locs 0 0 Q (F0 m 5 ls []) := by
    intro fu
    induction fu with
    | zero => intro z i ez gi hfu; exact absurd hfu (Nat.not_lt_zero _)
    | succ fu ih5 =>
      intro z i ez gi hfu H locs hP hD hS ls hl
      refine lv_iload hx hb dX2_roadsBetween_5 (lv_at hl 0 rfl) ?_
      refine lv_aload_n hx hb dX2_roadsBetween_7 rfl (lv_at hl 2 rfl) ?_
      refine rk_get (ci := 2) (C := RX2) (T := TX2) (N := 9) hx hb hts iw_X2_roadsBetween_2 hown hK hP 0 rfl rfl 0 (by decide) fl_X2_roadsBetween_27 rfl (v := .ref t0) rfl dX2_roadsBetween_8 ?_
      refine rk_get (ci := 3) (C := RX3) (T := TX3) (N := 6) hx hb hts iw_X2_roadsBetween_3 hown hK hP 1 rfl rfl 1 (by decide) fl_X2_roadsBetween_71 rfl (v := .int (nI k)) rfl dX2_roadsBetween_11 ?_
      refine rk_geN (tgt := 44) hx hb (by omega) (by omega) dX2_roadsBetween_14 (by decide) (fun zc14 => ?_) (fun zc14 => ?_)
      · refine lv_iload_n hx hb dX2_roadsBetween_44 rfl (lv_at hl 1 rfl) ?_
        exact ret_i hQ hx hb hr hlocks (hP.sub [0, 1, 2, 3] rfl) (hD.sub [0, 1, 2, 3] (by decide) rfl) hS dX2_roadsBetween_45 (by obtain rfl : k = i := (by omega); exact ez)
      · refine lv_aload_n hx hb dX2_roadsBetween_17 rfl (lv_at hl 2 rfl) ?_
        refine lv_iload_n hx hb dX2_roadsBetween_18 rfl (lv_at hl 3 rfl) ?_
        refine lv_iload hx hb dX2_roadsBetween_19 (lv_at hl 0 rfl) ?_
        refine kV_i (E := E) (As := [.int (nI x), .int (nI i)]) (rest := []) (wr := [(t0, .inr (3, [.int sc, .int (nI k), .ref q1, .ref q2, .ref q3, .ref q4]))]) ⟨hx, hb, hml, hown, hts⟩ (c_X2_squaresBehind (l := l) (E := E) (sz := _) (s0 := s0) (t0 := t0) (sP := sP) (sD := sD) (sS := sS) (sL := sL) (sF := sF) (q1 := 0) (q2 := 0) (q3 := 0) (q4 := 0) (pc := pc) (ds := ds) (pr := pr) (x := x) (r := i) (po := po) (lS := lS) (g1 := by first | assumption | omega) (g2 := by first | assumption | omega)) (cwV 2 hts gX2_roadsBetween_X2_squaresBehind rfl rfl rfl (by decide +kernel) ⟨by rw [hR]; decide, by rw [hR]; decide⟩) hK hN hP hD hS hA [0, 2, 3] [1] rfl (by decide) rfl (by decide) (by decide) 0 2 rfl rfl rfl hl.1 rfl (Nat.le_of_ble_eq_true rfl) dX2_roadsBetween_21 ⟨Nat.zero_le _, Nat.zero_le _⟩ (fun H locs hP hD hS => ?_)
        have hP : va_P E.1 vwCl [(t0, .inr (3, [.int sc, .int (nI k), .ref q1, .ref q2, .ref q3, .ref q4])), (s0, .inr (2, [.ref t0, .ref sP, .ref sD, .ref sS, .ref sL, .ref sF, .int pc, .int ds, .int pr])), (sP, aI E 16 po), (sL, aI E 30 lS)] H := hP
        have hD : va_D A [(t0, .inr (3, [.int sc, .int (nI k), .ref q1, .ref q2, .ref q3, .ref q4])), (s0, .inr (2, [.ref t0, .ref sP, .ref sD, .ref sS, .ref sL, .ref sF, .int pc, .int ds, .int pr])), (sP, aI E 16 po), (sL, aI E 30 lS)] := hD
        refine lv_iload_n hx hb dX2_roadsBetween_24 rfl (lv_at hl 4 rfl) ?_
        refine kSN_i (E := E) (As := [.int (sqB po lS x i), .int y]) (rest := []) (wr := [(t0, .inr (3, [.int sc, .int (nI k), .ref q1, .ref q2, .ref q3, .ref q4])), (s0, .inr (2, [.ref t0, .ref sP, .ref sD, .ref sS, .ref sL, .ref sF, .int pc, .int ds, .int pr])), (sP, aI E 16 po), (sL, aI E 30 lS)]) ⟨hx, hb, hml, hown, hts⟩ (c_X4_contains (l := l) (E := E) (sz := _) (x := sqB po lS x i) (y := y) ) ⟨va_cnB 2 hts gX2_roadsBetween_X4_contains_n52 rfl rfl rfl hN.2.1 (hts _ inX4_X2_roadsBetween) (by decide +kernel) ⟨by rw [hR]; decide, by rw [hR]; decide⟩, hts _ stX4_contains_X2_roadsBetween, trivial⟩ hK hN hP hD hS hA [] [0, 1, 2, 3] rfl (by decide) rfl (by decide) (by decide) rfl hl.1 rfl (Nat.le_of_ble_eq_true rfl) dX2_roadsBetween_25 ⟨Nat.zero_le _, Nat.zero_le _⟩ (fun H locs hP hD hS => ?_)
        have hP : va_P E.1 vwCl [(t0, .inr (3, [.int sc, .int (nI k), .ref q1, .ref q2, .ref q3, .ref q4])), (s0, .inr (2, [.ref t0, .ref sP, .ref sD, .ref sS, .ref sL, .ref sF, .int pc, .int ds, .int pr])), (sP, aI E 16 po), (sL, aI E 30 lS)] H := hP
        have hD : va_D A [(t0, .inr (3, [.int sc, .int (nI k), .ref q1, .ref q2, .ref q3, .ref q4])), (s0, .inr (2, [.ref t0, .ref sP, .ref sD, .ref sS, .ref sL, .ref sF, .int pc, .int ds, .int pr])), (sP, aI E 16 po), (sL, aI E 30 lS)] := hD
        refine rk_if_eqB (tgt := 38) hx hb dX2_roadsBetween_28 (by decide) (fun zc28 => ?_) (fun zc28 => ?_)
        · refine lv_iinc (v := nI (i + 1)) (lv' := [(4, .int (nI (i + 1))), (3, .int z), (0, .ref s0), (1, .int (nI x)), (2, .int y)]) hx hb dX2_roadsBetween_38 hl (k := 0) rfl (by rw [show Int32.ofInt 1 = nI 1 by decide]; exact nI_add _ _) (by decide) rfl (fun ls hl => ?_)
          refine lv_goto (tgt := 5) hx hb dX2_roadsBetween_41 (by decide) ?_
          exact ih5 z (i + 1) (by subst ez; simp only [rBt]; exact (if_neg (by rw [zc28]; decide)).symm) (by first | assumption | omega | rfl) (by omega) _ _ (hP.sub [1, 0, 2, 3] rfl) (hD.sub [1, 0, 2, 3] (by decide) rfl) hS ls (lv_sub hl [0, 1, 2, 3, 4] rfl)
        · refine lv_iload_n hx hb dX2_roadsBetween_31 rfl (lv_at hl 1 rfl) ?_
          refine lv_iconst (v := nI 1) hx hb dX2_roadsBetween_32 (by decide) ?_
          refine lv_iload hx hb dX2_roadsBetween_33 (lv_at hl 0 rfl) ?_
          refine lv_ishl hx hb dX2_roadsBetween_35 ?_
          refine lv_ior hx hb dX2_roadsBetween_36 ?_
          refine lv_istore_n (lv' := [(3, .int (z ||| ((nI 1) <<< ((nI i) &&& 31)))), (4, .int (nI i)), (0, .ref s0), (1, .int (nI x)), (2, .int y)]) hx hb dX2_roadsBetween_37 rfl hl (by decide) rfl (fun ls hl => ?_)
          refine lv_iinc (v := nI (i + 1)) (lv' := [(4, .int (nI (i + 1))), (3, .int (z ||| ((nI 1) <<< ((nI i) &&& 31)))), (0, .ref s0), (1, .int (nI x)), (2, .int y)]) hx hb dX2_roadsBetween_38 hl (k := 1) rfl (by rw [show Int32.ofInt 1 = nI 1 by decide]; exact nI_add _ _) (by decide) rfl (fun ls hl => ?_)
          refine lv_goto (tgt := 5) hx hb dX2_roadsBetween_41 (by decide) ?_
          exact ih5 (z ||| ((nI 1) <<< ((nI i) &&& 31))) (i + 1) (by subst ez; simp only [rBt]; exact (if_pos zc28).symm) (by first | assumption | omega | rfl) (by omega) _ _ (hP.sub [1, 0, 2, 3] rfl) (hD.sub [1, 0, 2, 3] (by decide) rfl) hS ls (lv_sub hl [0, 1, 2, 3, 4] rfl)
  exact L5 ((k - 0) + 1) (nI 0) 0 (rfl) (by first | assumption | omega | rfl) (Nat.lt_succ_self _) _ _ (hP.sub [0, 1, 2, 3] rfl) (hD.sub [0, 1, 2, 3] (by decide) rfl) hS ls (lv_sub hl [0, 1, 2, 3, 4] rfl)
