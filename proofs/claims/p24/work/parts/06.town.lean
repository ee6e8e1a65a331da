set_option maxHeartbeats 400000 in
set_option maxRecDepth 100000 in
theorem c_X4_contains (l : Launch) (E : EE) (sz : Nat) (x y : Int32) : Ci l yX4_contains wsX4_contains 0 0 E [.int x, .int y] [] sz (b2i (cnt x y)) [] := by
  refine C_of (QQ := QI E (b2i (cnt x y)) []) (cc := cX4_contains) (maxL := 2) (ret := (some .boolean)) (by decide +kernel) rfl (Nat.le_of_ble_eq_true rfl) ?_
  intro p e s m args below meth c A R Q ls hx hb hr hts hown hml hlocks hA hK hN hP hD hS hl hR hQ
  have hown : s.vm.findClass RX4 = some m.cls := hown
  have hl : lv_has ls 2 [(0, .int x), (1, .int y)] := hl
  refine lv_iload_n hx hb dX4_contains_0 rfl (lv_at hl 0 rfl) ?_
  refine lv_iload_n hx hb dX4_contains_1 rfl (lv_at hl 1 rfl) ?_
  refine lv_ishr hx hb dX4_contains_2 ?_
  refine lv_iconst (v := nI 1) hx hb dX4_contains_3 (by decide) ?_
  refine lv_iand hx hb dX4_contains_4 ?_
  refine lv_if_eq (tgt := 12) hx hb dX4_contains_5 (by decide) (fun zc5 => ?_) (fun zc5 => ?_)
  · refine lv_iconst (v := nI 0) hx hb dX4_contains_12 (by decide) ?_
    exact ret_z hQ hx hb hr hlocks (hP.sub [] rfl) (hD.sub [] (by decide) rfl) hS dX4_contains_13 (nz_0) (by exact b2i_f (cnt_f zc5))
  · refine lv_iconst (v := nI 1) hx hb dX4_contains_8 (by decide) ?_
    refine lv_goto (tgt := 13) hx hb dX4_contains_9 (by decide) ?_
    exact ret_z hQ hx hb hr hlocks (hP.sub [] rfl) (hD.sub [] (by decide) rfl) hS dX4_contains_13 (nz_1) (by exact b2i_t (cnt_t zc5))
set_option maxHeartbeats 400000 in
set_option maxRecDepth 100000 in
theorem c_X4_setForMembers (l : Launch) (E : EE) (sz : Nat) (q1 : Nat) (f : Nat → Int32) (x v : Int32) : Cv l yX4_setForMembers wsX4_setForMembers 1 21 E [.ref q1, .int x, .int v] [(q1, aI E 16 f)] sz [(q1, aI E 16 (sfm f x v 16))] := by
  refine C_of (QQ := QV E [(q1, aI E 16 (sfm f x v 16))]) (cc := cX4_setForMembers) (maxL := 4) (ret := none) (by decide +kernel) rfl (Nat.le_of_ble_eq_true rfl) ?_
  intro p e s m args below meth c A R Q ls hx hb hr hts hown hml hlocks hA hK hN hP hD hS hl hR hQ
  have hown : s.vm.findClass RX4 = some m.cls := hown
  have hl : lv_has ls 4 [(0, .ref q1), (1, .int x), (2, .int v)] := hl
  refine lv_iconst (v := nI 0) hx hb dX4_setForMembers_0 (by decide) ?_
  refine lv_istore_n (lv' := [(3, .int (nI 0)), (0, .ref q1), (1, .int x), (2, .int v)]) hx hb dX4_setForMembers_1 rfl hl (by decide) rfl (fun ls hl => ?_)
  have L2 : ∀ (fu : Nat) (i : Nat) (g : Nat → Int32), (eg : g = sfm f x v i) → (hi : i ≤ 16) → 16 - i < fu → ∀ (H : Heap) (locs : List Loc), va_P E.1 vwCl [(q1, aI E 16 g)] H → va_D A [(q1, aI E 16 g)] → va_S A s.heap H locs → ∀ (ls : Array Slot), lv_has ls 4 [(3, .int (nI i)), (0, .ref q1), (1, .int x), (2, .int v)] → W p l e R s m args below meth c H locs 0 0 Q (F0 m 2 ls []) := by
    intro fu
    induction fu with
    | zero => intro i g eg hi hfu; exact absurd hfu (Nat.not_lt_zero _)
    | succ fu ih2 =>
      intro i g eg hi hfu H locs hP hD hS ls hl
      refine lv_iload_n hx hb dX4_setForMembers_2 rfl (lv_at hl 0 rfl) ?_
      refine lv_aload_n hx hb dX4_setForMembers_3 rfl (lv_at hl 1 rfl) ?_
      refine va_alen (D := E.1) (cl := vwCl) (tys := tyE E) hx hb hK hP 0 0 rfl rfl (v := nI 16) rfl dX4_setForMembers_4 ?_
      refine rk_geN (tgt := 26) hx hb (by omega) (by omega) dX4_setForMembers_5 (by decide) (fun zc5 => ?_) (fun zc5 => ?_)
      · obtain rfl : i = 16 := by omega
        subst eg
        exact ret_v hQ hx hb hr hlocks (hP.sub [0] rfl) (hD.sub [0] (by decide) rfl) hS dX4_setForMembers_26
      · refine lv_iload_n hx hb dX4_setForMembers_8 rfl (lv_at hl 2 rfl) ?_
        refine lv_iload_n hx hb dX4_setForMembers_9 rfl (lv_at hl 0 rfl) ?_
        refine kS_i (E := E) (As := [.int x, .int (nI i)]) (rest := []) (wr := [(q1, aI E 16 g)]) ⟨hx, hb, hml, hown, hts⟩ (c_X4_contains (l := l) (E := E) (sz := _) (x := x) (y := nI i) ) (cwS 2 hts gX4_setForMembers_X4_contains rfl rfl rfl (by decide +kernel) ⟨by rw [hR]; decide, by rw [hR]; decide⟩) hK hN hP hD hS hA [] [0] rfl (by decide) rfl (by decide) (by decide) rfl hl.1 rfl (Nat.le_of_ble_eq_true rfl) dX4_setForMembers_10 ⟨Nat.zero_le _, Nat.zero_le _⟩ (fun H locs hP hD hS => ?_)
        have hP : va_P E.1 vwCl [(q1, aI E 16 g)] H := hP
        have hD : va_D A [(q1, aI E 16 g)] := hD
        refine rk_if_eqB (tgt := 20) hx hb dX4_setForMembers_13 (by decide) (fun zc13 => ?_) (fun zc13 => ?_)
        · refine lv_iinc (v := nI (i + 1)) (lv' := [(3, .int (nI (i + 1))), (0, .ref q1), (1, .int x), (2, .int v)]) hx hb dX4_setForMembers_20 hl (k := 0) rfl (by rw [show Int32.ofInt 1 = nI 1 by decide]; exact nI_add _ _) (by decide) rfl (fun ls hl => ?_)
          refine lv_goto (tgt := 2) hx hb dX4_setForMembers_23 (by decide) ?_
          exact ih2 (i + 1) g (by rw [eg, sfm_1]; exact (if_neg (by rw [zc13]; decide)).symm) (by first | assumption | omega | rfl) (by omega) _ _ (hP.sub [0] rfl) (hD.sub [0] (by decide) rfl) hS ls (lv_sub hl [0, 1, 2, 3] rfl)
        · refine lv_aload_n hx hb dX4_setForMembers_16 rfl (lv_at hl 1 rfl) ?_
          refine lv_iload_n hx hb dX4_setForMembers_17 rfl (lv_at hl 0 rfl) ?_
          refine lv_iload_n hx hb dX4_setForMembers_18 rfl (lv_at hl 3 rfl) ?_
          refine rk_iast hx hb hK hP hD hS 0 rfl (by omega) (by omega) (ws' := [(q1, aI E 16 (upd g i v))]) rfl dX4_setForMembers_19 (fun H locs hP hD hS => ?_)
          refine lv_iinc (v := nI (i + 1)) (lv' := [(3, .int (nI (i + 1))), (0, .ref q1), (1, .int x), (2, .int v)]) hx hb dX4_setForMembers_20 hl (k := 0) rfl (by rw [show Int32.ofInt 1 = nI 1 by decide]; exact nI_add _ _) (by decide) rfl (fun ls hl => ?_)
          refine lv_goto (tgt := 2) hx hb dX4_setForMembers_23 (by decide) ?_
          exact ih2 (i + 1) (upd g i v) (by rw [eg, sfm_1]; exact (if_pos zc13).symm) (by first | assumption | omega | rfl) (by omega) _ _ (hP.sub [0] rfl) (hD.sub [0] (by decide) rfl) hS ls (lv_sub hl [0, 1, 2, 3] rfl)
  exact L2 ((16 - 0) + 1) 0 f (by exact (sfm_0 f x v).symm) (by first | assumption | omega | rfl) (Nat.lt_succ_self _) _ _ (hP.sub [0] rfl) (hD.sub [0] (by decide) rfl) hS ls (lv_sub hl [0, 1, 2, 3] rfl)
theorem iw_X3_hasSquare_3 : ∀ w ∈ u_ws RX3 TX3 6, w ∈ wsX3_hasSquare := by decide +kernel
theorem fl_X3_hasSquare_9 : Cond.fieldLink RX3 9 (TX3 0).1 (TX3 0).2.1 (TX3 0).2.2.1 ∈ wsX3_hasSquare := by decide +kernel
set_option maxHeartbeats 400000 in
set_option maxRecDepth 100000 in
theorem c_X3_hasSquare (l : Launch) (E : EE) (sz : Nat) (h0 : Nat) (sc f1 : Int32) (q1 q2 q3 q4 : Nat) (x : Int32) : Ci l yX3_hasSquare wsX3_hasSquare 0 0 E [.ref h0, .int x] [(h0, .inr (3, [.int sc, .int f1, .ref q1, .ref q2, .ref q3, .ref q4]))] sz (b2i (inR x sc)) [(h0, .inr (3, [.int sc, .int f1, .ref q1, .ref q2, .ref q3, .ref q4]))] := by
  refine C_of (QQ := QI E (b2i (inR x sc)) [(h0, .inr (3, [.int sc, .int f1, .ref q1, .ref q2, .ref q3, .ref q4]))]) (cc := cX3_hasSquare) (maxL := 2) (ret := (some .boolean)) (by decide +kernel) rfl (Nat.le_of_ble_eq_true rfl) ?_
  intro p e s m args below meth c A R Q ls hx hb hr hts hown hml hlocks hA hK hN hP hD hS hl hR hQ
  have hown : s.vm.findClass RX3 = some m.cls := hown
  have hl : lv_has ls 2 [(0, .ref h0), (1, .int x)] := hl
  refine lv_iload_n hx hb dX3_hasSquare_0 rfl (lv_at hl 1 rfl) ?_
  refine lv_if_lt (tgt := 16) hx hb dX3_hasSquare_1 (by decide) (fun zc1 => ?_) (fun zc1 => ?_)
  · refine lv_iconst (v := nI 0) hx hb dX3_hasSquare_16 (by decide) ?_
    exact ret_z hQ hx hb hr hlocks (hP.sub [0] rfl) (hD.sub [0] (by decide) rfl) hS dX3_hasSquare_17 (nz_0) (by exact b2i_f (inR_f1 zc1))
  · refine lv_iload_n hx hb dX3_hasSquare_4 rfl (lv_at hl 1 rfl) ?_
    refine lv_aload_n hx hb dX3_hasSquare_5 rfl (lv_at hl 0 rfl) ?_
    refine rk_get (ci := 3) (C := RX3) (T := TX3) (N := 6) hx hb hts iw_X3_hasSquare_3 hown hK hP 0 rfl rfl 0 (by decide) fl_X3_hasSquare_9 rfl (v := .int sc) rfl dX3_hasSquare_6 ?_
    refine lv_icmp_ge (tgt := 16) hx hb dX3_hasSquare_9 (by decide) (fun zc9 => ?_) (fun zc9 => ?_)
    · refine lv_iconst (v := nI 0) hx hb dX3_hasSquare_16 (by decide) ?_
      exact ret_z hQ hx hb hr hlocks (hP.sub [0] rfl) (hD.sub [0] (by decide) rfl) hS dX3_hasSquare_17 (nz_0) (by exact b2i_f (inR_f2 zc9))
    · refine lv_iconst (v := nI 1) hx hb dX3_hasSquare_12 (by decide) ?_
      refine lv_goto (tgt := 17) hx hb dX3_hasSquare_13 (by decide) ?_
      exact ret_z hQ hx hb hr hlocks (hP.sub [0] rfl) (hD.sub [0] (by decide) rfl) hS dX3_hasSquare_17 (nz_1) (by exact b2i_t (inR_t zc1 zc9))
theorem iw_X3_hasRoad_3 : ∀ w ∈ u_ws RX3 TX3 6, w ∈ wsX3_hasRoad := by decide +kernel
theorem fl_X3_hasRoad_15 : Cond.fieldLink RX3 15 (TX3 1).1 (TX3 1).2.1 (TX3 1).2.2.1 ∈ wsX3_hasRoad := by decide +kernel
set_option maxHeartbeats 400000 in
set_option maxRecDepth 100000 in
theorem c_X3_hasRoad (l : Launch) (E : EE) (sz : Nat) (h0 : Nat) (sc f1 : Int32) (q1 q2 q3 q4 : Nat) (x : Int32) : Ci l yX3_hasRoad wsX3_hasRoad 0 0 E [.ref h0, .int x] [(h0, .inr (3, [.int sc, .int f1, .ref q1, .ref q2, .ref q3, .ref q4]))] sz (b2i (inR x f1)) [(h0, .inr (3, [.int sc, .int f1, .ref q1, .ref q2, .ref q3, .ref q4]))] := by
  refine C_of (QQ := QI E (b2i (inR x f1)) [(h0, .inr (3, [.int sc, .int f1, .ref q1, .ref q2, .ref q3, .ref q4]))]) (cc := cX3_hasRoad) (maxL := 2) (ret := (some .boolean)) (by decide +kernel) rfl (Nat.le_of_ble_eq_true rfl) ?_
  intro p e s m args below meth c A R Q ls hx hb hr hts hown hml hlocks hA hK hN hP hD hS hl hR hQ
  have hown : s.vm.findClass RX3 = some m.cls := hown
  have hl : lv_has ls 2 [(0, .ref h0), (1, .int x)] := hl
  refine lv_iload_n hx hb dX3_hasRoad_0 rfl (lv_at hl 1 rfl) ?_
  refine lv_if_lt (tgt := 16) hx hb dX3_hasRoad_1 (by decide) (fun zc1 => ?_) (fun zc1 => ?_)
  · refine lv_iconst (v := nI 0) hx hb dX3_hasRoad_16 (by decide) ?_
    exact ret_z hQ hx hb hr hlocks (hP.sub [0] rfl) (hD.sub [0] (by decide) rfl) hS dX3_hasRoad_17 (nz_0) (by exact b2i_f (inR_f1 zc1))
  · refine lv_iload_n hx hb dX3_hasRoad_4 rfl (lv_at hl 1 rfl) ?_
    refine lv_aload_n hx hb dX3_hasRoad_5 rfl (lv_at hl 0 rfl) ?_
    refine rk_get (ci := 3) (C := RX3) (T := TX3) (N := 6) hx hb hts iw_X3_hasRoad_3 hown hK hP 0 rfl rfl 1 (by decide) fl_X3_hasRoad_15 rfl (v := .int f1) rfl dX3_hasRoad_6 ?_
    refine lv_icmp_ge (tgt := 16) hx hb dX3_hasRoad_9 (by decide) (fun zc9 => ?_) (fun zc9 => ?_)
    · refine lv_iconst (v := nI 0) hx hb dX3_hasRoad_16 (by decide) ?_
      exact ret_z hQ hx hb hr hlocks (hP.sub [0] rfl) (hD.sub [0] (by decide) rfl) hS dX3_hasRoad_17 (nz_0) (by exact b2i_f (inR_f2 zc9))
    · refine lv_iconst (v := nI 1) hx hb dX3_hasRoad_12 (by decide) ?_
      refine lv_goto (tgt := 17) hx hb dX3_hasRoad_13 (by decide) ?_
      exact ret_z hQ hx hb hr hlocks (hP.sub [0] rfl) (hD.sub [0] (by decide) rfl) hS dX3_hasRoad_17 (nz_1) (by exact b2i_t (inR_t zc1 zc9))
theorem iw_X3_allRoads_3 : ∀ w ∈ u_ws RX3 TX3 6, w ∈ wsX3_allRoads := by decide +kernel
theorem fl_X3_allRoads_15 : Cond.fieldLink RX3 15 (TX3 1).1 (TX3 1).2.1 (TX3 1).2.2.1 ∈ wsX3_allRoads := by decide +kernel
set_option maxHeartbeats 400000 in
set_option maxRecDepth 100000 in
theorem c_X3_allRoads (l : Launch) (E : EE) (sz : Nat) (h0 : Nat) (sc f1 : Int32) (q1 q2 q3 q4 : Nat) : Ci l yX3_allRoads wsX3_allRoads 0 0 E [.ref h0] [(h0, .inr (3, [.int sc, .int f1, .ref q1, .ref q2, .ref q3, .ref q4]))] sz (allR f1) [(h0, .inr (3, [.int sc, .int f1, .ref q1, .ref q2, .ref q3, .ref q4]))] := by
  refine C_of (QQ := QI E (allR f1) [(h0, .inr (3, [.int sc, .int f1, .ref q1, .ref q2, .ref q3, .ref q4]))]) (cc := cX3_allRoads) (maxL := 1) (ret := (some .int)) (by decide +kernel) rfl (Nat.le_of_ble_eq_true rfl) ?_
  intro p e s m args below meth c A R Q ls hx hb hr hts hown hml hlocks hA hK hN hP hD hS hl hR hQ
  have hown : s.vm.findClass RX3 = some m.cls := hown
  have hl : lv_has ls 1 [(0, .ref h0)] := hl
  refine lv_iconst (v := nI 1) hx hb dX3_allRoads_0 (by decide) ?_
  refine lv_aload_n hx hb dX3_allRoads_1 rfl (lv_at hl 0 rfl) ?_
  refine rk_get (ci := 3) (C := RX3) (T := TX3) (N := 6) hx hb hts iw_X3_allRoads_3 hown hK hP 0 rfl rfl 1 (by decide) fl_X3_allRoads_15 rfl (v := .int f1) rfl dX3_allRoads_2 ?_
  refine lv_ishl hx hb dX3_allRoads_5 ?_
  refine lv_iconst (v := nI 1) hx hb dX3_allRoads_6 (by decide) ?_
  refine lv_isub hx hb dX3_allRoads_7 ?_
  exact ret_i hQ hx hb hr hlocks (hP.sub [0] rfl) (hD.sub [0] (by decide) rfl) hS dX3_allRoads_8 (rfl)
theorem iw_X3_fitsInto_3 : ∀ w ∈ u_ws RX3 TX3 6, w ∈ wsX3_fitsInto := by decide +kernel
theorem fl_X3_fitsInto_15 : Cond.fieldLink RX3 15 (TX3 1).1 (TX3 1).2.1 (TX3 1).2.2.1 ∈ wsX3_fitsInto := by decide +kernel
theorem fl_X3_fitsInto_22 : Cond.fieldLink RX3 22 (TX3 3).1 (TX3 3).2.1 (TX3 3).2.2.1 ∈ wsX3_fitsInto := by decide +kernel
set_option maxHeartbeats 400000 in
set_option maxRecDepth 100000 in
theorem c_X3_fitsInto (l : Launch) (E : EE) (sz : Nat) (h0 q1 q2 q3 q4 : Nat) (sc : Int32) (k : Nat) (hi : Nat → Int32) (x : Int32) (hk : k ≤ 30) : Ci l yX3_fitsInto wsX3_fitsInto 0 0 E [.ref h0, .int x] [(h0, .inr (3, [.int sc, .int (nI k), .ref q1, .ref q2, .ref q3, .ref q4])), (q2, aI E 30 hi)] sz (b2i (fitsB hi k x)) [(h0, .inr (3, [.int sc, .int (nI k), .ref q1, .ref q2, .ref q3, .ref q4])), (q2, aI E 30 hi)] := by
  refine C_of (QQ := QI E (b2i (fitsB hi k x)) [(h0, .inr (3, [.int sc, .int (nI k), .ref q1, .ref q2, .ref q3, .ref q4])), (q2, aI E 30 hi)]) (cc := cX3_fitsInto) (maxL := 3) (ret := (some .boolean)) (by decide +kernel) rfl (Nat.le_of_ble_eq_true rfl) ?_
  intro p e s m args below meth c A R Q ls hx hb hr hts hown hml hlocks hA hK hN hP hD hS hl hR hQ
  have hown : s.vm.findClass RX3 = some m.cls := hown
  have hl : lv_has ls 3 [(0, .ref h0), (1, .int x)] := hl
  refine lv_iconst (v := nI 0) hx hb dX3_fitsInto_0 (by decide) ?_
  refine lv_istore_n (lv' := [(2, .int (nI 0)), (0, .ref h0), (1, .int x)]) hx hb dX3_fitsInto_1 rfl hl (by decide) rfl (fun ls hl => ?_)
  have L2 : ∀ (fu : Nat) (i : Nat), (hy : ∀ r, r < i → hi r < x) → (hi2 : i ≤ k) → k - i < fu → ∀ (H : Heap) (locs : List Loc), va_P E.1 vwCl [(h0, .inr (3, [.int sc, .int (nI k), .ref q1, .ref q2, .ref q3, .ref q4])), (q2, aI E 30 hi)] H → va_D A [(h0, .inr (3, [.int sc, .int (nI k), .ref q1, .ref q2, .ref q3, .ref q4])), (q2, aI E 30 hi)] → va_S A s.heap H locs → ∀ (ls : Array Slot), lv_has ls 3 [(2, .int (nI i)), (0, .ref h0), (1, .int x)] → W p l e R s m args below meth c H locs 0 0 Q (F0 m 2 ls []) := by
    intro fu
    induction fu with
    | zero => intro i hy hi2 hfu; exact absurd hfu (Nat.not_lt_zero _)
    | succ fu ih2 =>
      intro i hy hi2 hfu H locs hP hD hS ls hl
      refine lv_iload_n hx hb dX3_fitsInto_2 rfl (lv_at hl 0 rfl) ?_
      refine lv_aload_n hx hb dX3_fitsInto_3 rfl (lv_at hl 1 rfl) ?_
      refine rk_get (ci := 3) (C := RX3) (T := TX3) (N := 6) hx hb hts iw_X3_fitsInto_3 hown hK hP 0 rfl rfl 1 (by decide) fl_X3_fitsInto_15 rfl (v := .int (nI k)) rfl dX3_fitsInto_4 ?_
      refine rk_geN (tgt := 28) hx hb (by omega) (by omega) dX3_fitsInto_7 (by decide) (fun zc7 => ?_) (fun zc7 => ?_)
      · refine lv_iconst (v := nI 1) hx hb dX3_fitsInto_28 (by decide) ?_
        exact ret_z hQ hx hb hr hlocks (hP.sub [0, 1] rfl) (hD.sub [0, 1] (by decide) rfl) hS dX3_fitsInto_29 (nz_1) (by exact b2i_t (fitsB_t (by omega) hy))
      · refine lv_aload_n hx hb dX3_fitsInto_10 rfl (lv_at hl 1 rfl) ?_
        refine rk_get (ci := 3) (C := RX3) (T := TX3) (N := 6) hx hb hts iw_X3_fitsInto_3 hown hK hP 0 rfl rfl 3 (by decide) fl_X3_fitsInto_22 rfl (v := .ref q2) rfl dX3_fitsInto_11 ?_
        refine lv_iload_n hx hb dX3_fitsInto_14 rfl (lv_at hl 0 rfl) ?_
        refine rk_iald hx hb hK hP 1 rfl (by omega) (by omega) (v := hi i) (rfl) dX3_fitsInto_15 ?_
        refine lv_iload_n hx hb dX3_fitsInto_16 rfl (lv_at hl 2 rfl) ?_
        refine lv_icmp_lt (tgt := 22) hx hb dX3_fitsInto_17 (by decide) (fun zc17 => ?_) (fun zc17 => ?_)
        · refine lv_iinc (v := nI (i + 1)) (lv' := [(2, .int (nI (i + 1))), (0, .ref h0), (1, .int x)]) hx hb dX3_fitsInto_22 hl (k := 0) rfl (by rw [show Int32.ofInt 1 = nI 1 by decide]; exact nI_add _ _) (by decide) rfl (fun ls hl => ?_)
          refine lv_goto (tgt := 2) hx hb dX3_fitsInto_25 (by decide) ?_
          exact ih2 (i + 1) (by intro r hr; rcases Nat.lt_succ_iff_lt_or_eq.mp hr with z | z; exact hy r z; subst z; assumption) (by first | assumption | omega | rfl) (by omega) _ _ (hP.sub [0, 1] rfl) (hD.sub [0, 1] (by decide) rfl) hS ls (lv_sub hl [0, 1, 2] rfl)
        · refine lv_iconst (v := nI 0) hx hb dX3_fitsInto_20 (by decide) ?_
          exact ret_z hQ hx hb hr hlocks (hP.sub [0, 1] rfl) (hD.sub [0, 1] (by decide) rfl) hS dX3_fitsInto_21 (nz_0) (by exact b2i_f (fitsB_f (by omega) (by assumption)))
  exact L2 ((k - 0) + 1) 0 (fun r hr => absurd hr (Nat.not_lt_zero r)) (by first | assumption | omega | rfl) (Nat.lt_succ_self _) _ _ (hP.sub [0, 1] rfl) (hD.sub [0, 1] (by decide) rfl) hS ls (lv_sub hl [0, 1, 2] rfl)
theorem iw_X3_addRoad_3 : ∀ w ∈ u_ws RX3 TX3 6, w ∈ wsX3_addRoad := by decide +kernel
theorem fl_X3_addRoad_15 : Cond.fieldLink RX3 15 (TX3 1).1 (TX3 1).2.1 (TX3 1).2.2.1 ∈ wsX3_addRoad := by decide +kernel
theorem fl_X3_addRoad_18 : Cond.fieldLink RX3 18 (TX3 2).1 (TX3 2).2.1 (TX3 2).2.2.1 ∈ wsX3_addRoad := by decide +kernel
theorem ml37_X3_addRoad : Cond.methodLink RX3 37 Lib.Math.min.name ∈ wsX3_addRoad := by decide +kernel
theorem stmin_X3_addRoad : Cond.static Lib.Math.min.name ∈ wsX3_addRoad := by decide +kernel
theorem inJ9_X3_addRoad : Cond.initialized "java/lang/Math" ∈ wsX3_addRoad := by decide +kernel
theorem cdmin_X3_addRoad : Cond.code Lib.Math.min.name Lib.Math.min.code 2 (some .int) ∈ wsX3_addRoad := by decide +kernel
theorem fl_X3_addRoad_22 : Cond.fieldLink RX3 22 (TX3 3).1 (TX3 3).2.1 (TX3 3).2.2.1 ∈ wsX3_addRoad := by decide +kernel
theorem ml43_X3_addRoad : Cond.methodLink RX3 43 Lib.Math.max.name ∈ wsX3_addRoad := by decide +kernel
theorem stmax_X3_addRoad : Cond.static Lib.Math.max.name ∈ wsX3_addRoad := by decide +kernel
theorem cdmax_X3_addRoad : Cond.code Lib.Math.max.name Lib.Math.max.code 2 (some .int) ∈ wsX3_addRoad := by decide +kernel
theorem fl_X3_addRoad_25 : Cond.fieldLink RX3 25 (TX3 4).1 (TX3 4).2.1 (TX3 4).2.2.1 ∈ wsX3_addRoad := by decide +kernel
theorem fl_X3_addRoad_28 : Cond.fieldLink RX3 28 (TX3 5).1 (TX3 5).2.1 (TX3 5).2.2.1 ∈ wsX3_addRoad := by decide +kernel
set_option maxHeartbeats 400000 in
set_option maxRecDepth 100000 in
theorem c_X3_addRoad (l : Launch) (E : EE) (sz : Nat) (h0 q1 q2 q3 q4 : Nat) (sc : Int32) (k : Nat) (lo hi le en : Nat → Int32) (x y z : Int32) (hk : k < 30) : Cv l yX3_addRoad wsX3_addRoad 1 15 E [.ref h0, .int x, .int y, .int z] [(h0, .inr (3, [.int sc, .int (nI k), .ref q1, .ref q2, .ref q3, .ref q4])), (q1, aI E 30 lo), (q2, aI E 30 hi), (q3, aI E 30 le), (q4, aI E 30 en)] sz [(h0, .inr (3, [.int sc, .int (nI (k + 1)), .ref q1, .ref q2, .ref q3, .ref q4])), (q1, aI E 30 (upd lo k (if y < x then y else x))), (q2, aI E 30 (upd hi k (if x < y then y else x))), (q3, aI E 30 (upd le k z)), (q4, aI E 30 (upd en k ((nI 1 <<< (x &&& 31)) ||| (nI 1 <<< (y &&& 31)))))] := by
  refine C_of (QQ := QV E [(h0, .inr (3, [.int sc, .int (nI (k + 1)), .ref q1, .ref q2, .ref q3, .ref q4])), (q1, aI E 30 (upd lo k (if y < x then y else x))), (q2, aI E 30 (upd hi k (if x < y then y else x))), (q3, aI E 30 (upd le k z)), (q4, aI E 30 (upd en k ((nI 1 <<< (x &&& 31)) ||| (nI 1 <<< (y &&& 31)))))]) (cc := cX3_addRoad) (maxL := 4) (ret := none) (by decide +kernel) rfl (Nat.le_of_ble_eq_true rfl) ?_
  intro p e s m args below meth c A R Q ls hx hb hr hts hown hml hlocks hA hK hN hP hD hS hl hR hQ
  have hown : s.vm.findClass RX3 = some m.cls := hown
  have hl : lv_has ls 4 [(0, .ref h0), (1, .int x), (2, .int y), (3, .int z)] := hl
  refine lv_aload_n hx hb dX3_addRoad_0 rfl (lv_at hl 0 rfl) ?_
  refine rk_get (ci := 3) (C := RX3) (T := TX3) (N := 6) hx hb hts iw_X3_addRoad_3 hown hK hP 0 rfl rfl 1 (by decide) fl_X3_addRoad_15 rfl (v := .int (nI k)) rfl dX3_addRoad_1 ?_
  refine lv_bipush (v := nI 30) hx hb dX3_addRoad_4 (by decide) ?_
  refine rk_ltN (tgt := 10) hx hb (by omega) (by omega) dX3_addRoad_6 (by decide) (fun zc6 => ?_) (fun q => absurd q (by omega))
  refine lv_aload_n hx hb dX3_addRoad_10 rfl (lv_at hl 0 rfl) ?_
  refine rk_get (ci := 3) (C := RX3) (T := TX3) (N := 6) hx hb hts iw_X3_addRoad_3 hown hK hP 0 rfl rfl 2 (by decide) fl_X3_addRoad_18 rfl (v := .ref q1) rfl dX3_addRoad_11 ?_
  refine lv_aload_n hx hb dX3_addRoad_14 rfl (lv_at hl 0 rfl) ?_
  refine rk_get (ci := 3) (C := RX3) (T := TX3) (N := 6) hx hb hts iw_X3_addRoad_3 hown hK hP 0 rfl rfl 1 (by decide) fl_X3_addRoad_15 rfl (v := .int (nI k)) rfl dX3_addRoad_15 ?_
  refine lv_iload_n hx hb dX3_addRoad_18 rfl (lv_at hl 1 rfl) ?_
  refine lv_iload_n hx hb dX3_addRoad_19 rfl (lv_at hl 2 rfl) ?_
  refine va_mmin hx hb (hml.trans hl.1.symm) hown (hts _ ml37_X3_addRoad) (hts _ stmin_X3_addRoad) (hts _ inJ9_X3_addRoad) (hts _ cdmin_X3_addRoad) (by rw [hR]; decide) (by rw [hR]; exact Nat.le_of_ble_eq_true rfl) (Nat.zero_le _) (Nat.zero_le _) dX3_addRoad_20 ?_
  refine rk_iast hx hb hK hP hD hS 1 rfl (by omega) (by omega) (ws' := [(h0, .inr (3, [.int sc, .int (nI k), .ref q1, .ref q2, .ref q3, .ref q4])), (q1, aI E 30 (upd lo k (if y < x then y else x))), (q2, aI E 30 hi), (q3, aI E 30 le), (q4, aI E 30 en)]) rfl dX3_addRoad_23 (fun H locs hP hD hS => ?_)
  refine lv_aload_n hx hb dX3_addRoad_24 rfl (lv_at hl 0 rfl) ?_
  refine rk_get (ci := 3) (C := RX3) (T := TX3) (N := 6) hx hb hts iw_X3_addRoad_3 hown hK hP 0 rfl rfl 3 (by decide) fl_X3_addRoad_22 rfl (v := .ref q2) rfl dX3_addRoad_25 ?_
  refine lv_aload_n hx hb dX3_addRoad_28 rfl (lv_at hl 0 rfl) ?_
  refine rk_get (ci := 3) (C := RX3) (T := TX3) (N := 6) hx hb hts iw_X3_addRoad_3 hown hK hP 0 rfl rfl 1 (by decide) fl_X3_addRoad_15 rfl (v := .int (nI k)) rfl dX3_addRoad_29 ?_
  refine lv_iload_n hx hb dX3_addRoad_32 rfl (lv_at hl 1 rfl) ?_
  refine lv_iload_n hx hb dX3_addRoad_33 rfl (lv_at hl 2 rfl) ?_
  refine va_mmax hx hb (hml.trans hl.1.symm) hown (hts _ ml43_X3_addRoad) (hts _ stmax_X3_addRoad) (hts _ inJ9_X3_addRoad) (hts _ cdmax_X3_addRoad) (by rw [hR]; decide) (by rw [hR]; exact Nat.le_of_ble_eq_true rfl) (Nat.zero_le _) (Nat.zero_le _) dX3_addRoad_34 ?_
  refine rk_iast hx hb hK hP hD hS 2 rfl (by omega) (by omega) (ws' := [(h0, .inr (3, [.int sc, .int (nI k), .ref q1, .ref q2, .ref q3, .ref q4])), (q1, aI E 30 (upd lo k (if y < x then y else x))), (q2, aI E 30 (upd hi k (if x < y then y else x))), (q3, aI E 30 le), (q4, aI E 30 en)]) rfl dX3_addRoad_37 (fun H locs hP hD hS => ?_)
  refine lv_aload_n hx hb dX3_addRoad_38 rfl (lv_at hl 0 rfl) ?_
  refine rk_get (ci := 3) (C := RX3) (T := TX3) (N := 6) hx hb hts iw_X3_addRoad_3 hown hK hP 0 rfl rfl 4 (by decide) fl_X3_addRoad_25 rfl (v := .ref q3) rfl dX3_addRoad_39 ?_
  refine lv_aload_n hx hb dX3_addRoad_42 rfl (lv_at hl 0 rfl) ?_
  refine rk_get (ci := 3) (C := RX3) (T := TX3) (N := 6) hx hb hts iw_X3_addRoad_3 hown hK hP 0 rfl rfl 1 (by decide) fl_X3_addRoad_15 rfl (v := .int (nI k)) rfl dX3_addRoad_43 ?_
  refine lv_iload_n hx hb dX3_addRoad_46 rfl (lv_at hl 3 rfl) ?_
  refine rk_iast hx hb hK hP hD hS 3 rfl (by omega) (by omega) (ws' := [(h0, .inr (3, [.int sc, .int (nI k), .ref q1, .ref q2, .ref q3, .ref q4])), (q1, aI E 30 (upd lo k (if y < x then y else x))), (q2, aI E 30 (upd hi k (if x < y then y else x))), (q3, aI E 30 (upd le k z)), (q4, aI E 30 en)]) rfl dX3_addRoad_47 (fun H locs hP hD hS => ?_)
  refine lv_aload_n hx hb dX3_addRoad_48 rfl (lv_at hl 0 rfl) ?_
  refine rk_get (ci := 3) (C := RX3) (T := TX3) (N := 6) hx hb hts iw_X3_addRoad_3 hown hK hP 0 rfl rfl 5 (by decide) fl_X3_addRoad_28 rfl (v := .ref q4) rfl dX3_addRoad_49 ?_
  refine lv_aload_n hx hb dX3_addRoad_52 rfl (lv_at hl 0 rfl) ?_
  refine rk_get (ci := 3) (C := RX3) (T := TX3) (N := 6) hx hb hts iw_X3_addRoad_3 hown hK hP 0 rfl rfl 1 (by decide) fl_X3_addRoad_15 rfl (v := .int (nI k)) rfl dX3_addRoad_53 ?_
  refine lv_iconst (v := nI 1) hx hb dX3_addRoad_56 (by decide) ?_
  refine lv_iload_n hx hb dX3_addRoad_57 rfl (lv_at hl 1 rfl) ?_
  refine lv_ishl hx hb dX3_addRoad_58 ?_
  refine lv_iconst (v := nI 1) hx hb dX3_addRoad_59 (by decide) ?_
  refine lv_iload_n hx hb dX3_addRoad_60 rfl (lv_at hl 2 rfl) ?_
  refine lv_ishl hx hb dX3_addRoad_61 ?_
  refine lv_ior hx hb dX3_addRoad_62 ?_
  refine rk_iast hx hb hK hP hD hS 4 rfl (by omega) (by omega) (ws' := [(h0, .inr (3, [.int sc, .int (nI k), .ref q1, .ref q2, .ref q3, .ref q4])), (q1, aI E 30 (upd lo k (if y < x then y else x))), (q2, aI E 30 (upd hi k (if x < y then y else x))), (q3, aI E 30 (upd le k z)), (q4, aI E 30 (upd en k (((nI 1) <<< (x &&& 31)) ||| ((nI 1) <<< (y &&& 31)))))]) rfl dX3_addRoad_63 (fun H locs hP hD hS => ?_)
  refine lv_aload_n hx hb dX3_addRoad_64 rfl (lv_at hl 0 rfl) ?_
  refine lv_dup hx hb dX3_addRoad_65 rfl ?_
  refine rk_get (ci := 3) (C := RX3) (T := TX3) (N := 6) hx hb hts iw_X3_addRoad_3 hown hK hP 0 rfl rfl 1 (by decide) fl_X3_addRoad_15 rfl (v := .int (nI k)) rfl dX3_addRoad_66 ?_
  refine lv_iconst (v := nI 1) hx hb dX3_addRoad_69 (by decide) ?_
  refine rk_iaddN hx hb dX3_addRoad_70 ?_
  refine rk_put (ci := 3) (C := RX3) (T := TX3) (N := 6) hx hb hts iw_X3_addRoad_3 tyX3 tyX3_ok nmX3 hown hK hP hD hS 0 rfl rfl 1 (by decide) fl_X3_addRoad_15 rfl rfl (tyX3_ok 1 (by decide)) rfl rfl (Nat.le_of_ble_eq_true rfl) (ws' := [(h0, .inr (3, [.int sc, .int (nI (k + 1)), .ref q1, .ref q2, .ref q3, .ref q4])), (q1, aI E 30 (upd lo k (if y < x then y else x))), (q2, aI E 30 (upd hi k (if x < y then y else x))), (q3, aI E 30 (upd le k z)), (q4, aI E 30 (upd en k (((nI 1) <<< (x &&& 31)) ||| ((nI 1) <<< (y &&& 31)))))]) rfl dX3_addRoad_71 (fun H locs hP hD hS => ?_)
  exact ret_v hQ hx hb hr hlocks (hP.sub [0, 1, 2, 3, 4] rfl) (hD.sub [0, 1, 2, 3, 4] (by decide) rfl) hS dX3_addRoad_74
theorem iw_X3_removeRoad_3 : ∀ w ∈ u_ws RX3 TX3 6, w ∈ wsX3_removeRoad := by decide +kernel
theorem fl_X3_removeRoad_15 : Cond.fieldLink RX3 15 (TX3 1).1 (TX3 1).2.1 (TX3 1).2.2.1 ∈ wsX3_removeRoad := by decide +kernel
theorem fl_X3_removeRoad_18 : Cond.fieldLink RX3 18 (TX3 2).1 (TX3 2).2.1 (TX3 2).2.2.1 ∈ wsX3_removeRoad := by decide +kernel
theorem fl_X3_removeRoad_22 : Cond.fieldLink RX3 22 (TX3 3).1 (TX3 3).2.1 (TX3 3).2.2.1 ∈ wsX3_removeRoad := by decide +kernel
theorem fl_X3_removeRoad_25 : Cond.fieldLink RX3 25 (TX3 4).1 (TX3 4).2.1 (TX3 4).2.2.1 ∈ wsX3_removeRoad := by decide +kernel
theorem fl_X3_removeRoad_28 : Cond.fieldLink RX3 28 (TX3 5).1 (TX3 5).2.1 (TX3 5).2.2.1 ∈ wsX3_removeRoad := by decide +kernel
set_option maxHeartbeats 400000 in
set_option maxRecDepth 100000 in
theorem c_X3_removeRoad (l : Launch) (E : EE) (sz : Nat) (h0 q1 q2 q3 q4 : Nat) (sc : Int32) (k : Nat) (lo hi le en : Nat → Int32) (r : Nat) (hk : k ≤ 30) (hr9 : r < k) : Cv l yX3_removeRoad wsX3_removeRoad 0 0 E [.ref h0, .int (nI r)] [(h0, .inr (3, [.int sc, .int (nI k), .ref q1, .ref q2, .ref q3, .ref q4])), (q1, aI E 30 lo), (q2, aI E 30 hi), (q3, aI E 30 le), (q4, aI E 30 en)] sz [(h0, .inr (3, [.int sc, .int (nI (k - 1)), .ref q1, .ref q2, .ref q3, .ref q4])), (q1, aI E 30 (shl1 lo r k)), (q2, aI E 30 (shl1 hi r k)), (q3, aI E 30 (shl1 le r k)), (q4, aI E 30 (shl1 en r k))] := by
  refine C_of (QQ := QV E [(h0, .inr (3, [.int sc, .int (nI (k - 1)), .ref q1, .ref q2, .ref q3, .ref q4])), (q1, aI E 30 (shl1 lo r k)), (q2, aI E 30 (shl1 hi r k)), (q3, aI E 30 (shl1 le r k)), (q4, aI E 30 (shl1 en r k))]) (cc := cX3_removeRoad) (maxL := 3) (ret := none) (by decide +kernel) rfl (Nat.le_of_ble_eq_true rfl) ?_
  intro p e s m args below meth c A R Q ls hx hb hr hts hown hml hlocks hA hK hN hP hD hS hl hR hQ
  have hown : s.vm.findClass RX3 = some m.cls := hown
  have hl : lv_has ls 3 [(0, .ref h0), (1, .int (nI r))] := hl
  refine lv_iload_n hx hb dX3_removeRoad_0 rfl (lv_at hl 1 rfl) ?_
  refine lv_iconst (v := nI 1) hx hb dX3_removeRoad_1 (by decide) ?_
  refine rk_iaddN hx hb dX3_removeRoad_2 ?_
  refine lv_istore_n (lv' := [(2, .int (nI (r + 1))), (0, .ref h0), (1, .int (nI r))]) hx hb dX3_removeRoad_3 rfl hl (by decide) rfl (fun ls hl => ?_)
  have L4 : ∀ (fu : Nat) (i : Nat) (a1 a2 a3 a4 : Nat → Int32), (e1 : a1 = shl1 lo r i) → (e2 : a2 = shl1 hi r i) → (e3 : a3 = shl1 le r i) → (e4 : a4 = shl1 en r i) → (hi1 : r + 1 ≤ i) → (hi2 : i ≤ k) → k - i < fu → ∀ (H : Heap) (locs : List Loc), va_P E.1 vwCl [(h0, .inr (3, [.int sc, .int (nI k), .ref q1, .ref q2, .ref q3, .ref q4])), (q1, aI E 30 a1), (q2, aI E 30 a2), (q3, aI E 30 a3), (q4, aI E 30 a4)] H → va_D A [(h0, .inr (3, [.int sc, .int (nI k), .ref q1, .ref q2, .ref q3, .ref q4])), (q1, aI E 30 a1), (q2, aI E 30 a2), (q3, aI E 30 a3), (q4, aI E 30 a4)] → va_S A s.heap H locs → ∀ (ls : Array Slot), lv_has ls 3 [(2, .int (nI i)), (0, .ref h0), (1, .int (nI r))] → W p l e R s m args below meth c H locs 0 0 Q (F0 m 4 ls []) := by
    intro fu
    induction fu with
    | zero => intro i a1 a2 a3 a4 e1 e2 e3 e4 hi1 hi2 hfu; exact absurd hfu (Nat.not_lt_zero _)
    | succ fu ih4 =>
      intro i a1 a2 a3 a4 e1 e2 e3 e4 hi1 hi2 hfu H locs hP hD hS ls hl
      refine lv_iload_n hx hb dX3_removeRoad_4 rfl (lv_at hl 0 rfl) ?_
      refine lv_aload_n hx hb dX3_removeRoad_5 rfl (lv_at hl 1 rfl) ?_
      refine rk_get (ci := 3) (C := RX3) (T := TX3) (N := 6) hx hb hts iw_X3_removeRoad_3 hown hK hP 0 rfl rfl 1 (by decide) fl_X3_removeRoad_15 rfl (v := .int (nI k)) rfl dX3_removeRoad_6 ?_
      refine rk_geN (tgt := 74) hx hb (by omega) (by omega) dX3_removeRoad_9 (by decide) (fun zc9 => ?_) (fun zc9 => ?_)
      · obtain rfl : k = i := by omega
        subst e1; subst e2; subst e3; subst e4
        refine lv_aload_n hx hb dX3_removeRoad_74 rfl (lv_at hl 1 rfl) ?_
        refine lv_dup hx hb dX3_removeRoad_75 rfl ?_
        refine rk_get (ci := 3) (C := RX3) (T := TX3) (N := 6) hx hb hts iw_X3_removeRoad_3 hown hK hP 0 rfl rfl 1 (by decide) fl_X3_removeRoad_15 rfl (v := .int (nI k)) rfl dX3_removeRoad_76 ?_
        refine lv_iconst (v := nI 1) hx hb dX3_removeRoad_79 (by decide) ?_
        refine rk_isubN hx hb (by omega) dX3_removeRoad_80 ?_
        refine rk_put (ci := 3) (C := RX3) (T := TX3) (N := 6) hx hb hts iw_X3_removeRoad_3 tyX3 tyX3_ok nmX3 hown hK hP hD hS 0 rfl rfl 1 (by decide) fl_X3_removeRoad_15 rfl rfl (tyX3_ok 1 (by decide)) rfl rfl (Nat.le_of_ble_eq_true rfl) (ws' := [(h0, .inr (3, [.int sc, .int (nI (k - 1)), .ref q1, .ref q2, .ref q3, .ref q4])), (q1, aI E 30 ((shl1 lo r k))), (q2, aI E 30 ((shl1 hi r k))), (q3, aI E 30 ((shl1 le r k))), (q4, aI E 30 ((shl1 en r k)))]) rfl dX3_removeRoad_81 (fun H locs hP hD hS => ?_)
        exact ret_v hQ hx hb hr hlocks (hP.sub [0, 1, 2, 3, 4] rfl) (hD.sub [0, 1, 2, 3, 4] (by decide) rfl) hS dX3_removeRoad_84
      · refine lv_aload_n hx hb dX3_removeRoad_12 rfl (lv_at hl 1 rfl) ?_
        refine rk_get (ci := 3) (C := RX3) (T := TX3) (N := 6) hx hb hts iw_X3_removeRoad_3 hown hK hP 0 rfl rfl 2 (by decide) fl_X3_removeRoad_18 rfl (v := .ref q1) rfl dX3_removeRoad_13 ?_
        refine lv_iload_n hx hb dX3_removeRoad_16 rfl (lv_at hl 0 rfl) ?_
        refine lv_iconst (v := nI 1) hx hb dX3_removeRoad_17 (by decide) ?_
        refine rk_isubN hx hb (by omega) dX3_removeRoad_18 ?_
        refine lv_aload_n hx hb dX3_removeRoad_19 rfl (lv_at hl 1 rfl) ?_
        refine rk_get (ci := 3) (C := RX3) (T := TX3) (N := 6) hx hb hts iw_X3_removeRoad_3 hown hK hP 0 rfl rfl 2 (by decide) fl_X3_removeRoad_18 rfl (v := .ref q1) rfl dX3_removeRoad_20 ?_
        refine lv_iload_n hx hb dX3_removeRoad_23 rfl (lv_at hl 0 rfl) ?_
        refine rk_iald hx hb hK hP 1 rfl (by omega) (by omega) (v := a1 i) (rfl) dX3_removeRoad_24 ?_
        refine rk_iast hx hb hK hP hD hS 1 rfl (by omega) (by omega) (ws' := [(h0, .inr (3, [.int sc, .int (nI k), .ref q1, .ref q2, .ref q3, .ref q4])), (q1, aI E 30 (upd a1 (i - 1) (a1 i))), (q2, aI E 30 a2), (q3, aI E 30 a3), (q4, aI E 30 a4)]) rfl dX3_removeRoad_25 (fun H locs hP hD hS => ?_)
        refine lv_aload_n hx hb dX3_removeRoad_26 rfl (lv_at hl 1 rfl) ?_
        refine rk_get (ci := 3) (C := RX3) (T := TX3) (N := 6) hx hb hts iw_X3_removeRoad_3 hown hK hP 0 rfl rfl 3 (by decide) fl_X3_removeRoad_22 rfl (v := .ref q2) rfl dX3_removeRoad_27 ?_
        refine lv_iload_n hx hb dX3_removeRoad_30 rfl (lv_at hl 0 rfl) ?_
        refine lv_iconst (v := nI 1) hx hb dX3_removeRoad_31 (by decide) ?_
        refine rk_isubN hx hb (by omega) dX3_removeRoad_32 ?_
        refine lv_aload_n hx hb dX3_removeRoad_33 rfl (lv_at hl 1 rfl) ?_
        refine rk_get (ci := 3) (C := RX3) (T := TX3) (N := 6) hx hb hts iw_X3_removeRoad_3 hown hK hP 0 rfl rfl 3 (by decide) fl_X3_removeRoad_22 rfl (v := .ref q2) rfl dX3_removeRoad_34 ?_
        refine lv_iload_n hx hb dX3_removeRoad_37 rfl (lv_at hl 0 rfl) ?_
        refine rk_iald hx hb hK hP 2 rfl (by omega) (by omega) (v := a2 i) (rfl) dX3_removeRoad_38 ?_
        refine rk_iast hx hb hK hP hD hS 2 rfl (by omega) (by omega) (ws' := [(h0, .inr (3, [.int sc, .int (nI k), .ref q1, .ref q2, .ref q3, .ref q4])), (q1, aI E 30 (upd a1 (i - 1) (a1 i))), (q2, aI E 30 (upd a2 (i - 1) (a2 i))), (q3, aI E 30 a3), (q4, aI E 30 a4)]) rfl dX3_removeRoad_39 (fun H locs hP hD hS => ?_)
        refine lv_aload_n hx hb dX3_removeRoad_40 rfl (lv_at hl 1 rfl) ?_
        refine rk_get (ci := 3) (C := RX3) (T := TX3) (N := 6) hx hb hts iw_X3_removeRoad_3 hown hK hP 0 rfl rfl 4 (by decide) fl_X3_removeRoad_25 rfl (v := .ref q3) rfl dX3_removeRoad_41 ?_
        refine lv_iload_n hx hb dX3_removeRoad_44 rfl (lv_at hl 0 rfl) ?_
        refine lv_iconst (v := nI 1) hx hb dX3_removeRoad_45 (by decide) ?_
        refine rk_isubN hx hb (by omega) dX3_removeRoad_46 ?_
        refine lv_aload_n hx hb dX3_removeRoad_47 rfl (lv_at hl 1 rfl) ?_
        refine rk_get (ci := 3) (C := RX3) (T := TX3) (N := 6) hx hb hts iw_X3_removeRoad_3 hown hK hP 0 rfl rfl 4 (by decide) fl_X3_removeRoad_25 rfl (v := .ref q3) rfl dX3_removeRoad_48 ?_
        refine lv_iload_n hx hb dX3_removeRoad_51 rfl (lv_at hl 0 rfl) ?_
        refine rk_iald hx hb hK hP 3 rfl (by omega) (by omega) (v := a3 i) (rfl) dX3_removeRoad_52 ?_
        refine rk_iast hx hb hK hP hD hS 3 rfl (by omega) (by omega) (ws' := [(h0, .inr (3, [.int sc, .int (nI k), .ref q1, .ref q2, .ref q3, .ref q4])), (q1, aI E 30 (upd a1 (i - 1) (a1 i))), (q2, aI E 30 (upd a2 (i - 1) (a2 i))), (q3, aI E 30 (upd a3 (i - 1) (a3 i))), (q4, aI E 30 a4)]) rfl dX3_removeRoad_53 (fun H locs hP hD hS => ?_)
        refine lv_aload_n hx hb dX3_removeRoad_54 rfl (lv_at hl 1 rfl) ?_
        refine rk_get (ci := 3) (C := RX3) (T := TX3) (N := 6) hx hb hts iw_X3_removeRoad_3 hown hK hP 0 rfl rfl 5 (by decide) fl_X3_removeRoad_28 rfl (v := .ref q4) rfl dX3_removeRoad_55 ?_
        refine lv_iload_n hx hb dX3_removeRoad_58 rfl (lv_at hl 0 rfl) ?_
        refine lv_iconst (v := nI 1) hx hb dX3_removeRoad_59 (by decide) ?_
        refine rk_isubN hx hb (by omega) dX3_removeRoad_60 ?_
        refine lv_aload_n hx hb dX3_removeRoad_61 rfl (lv_at hl 1 rfl) ?_
        refine rk_get (ci := 3) (C := RX3) (T := TX3) (N := 6) hx hb hts iw_X3_removeRoad_3 hown hK hP 0 rfl rfl 5 (by decide) fl_X3_removeRoad_28 rfl (v := .ref q4) rfl dX3_removeRoad_62 ?_
        refine lv_iload_n hx hb dX3_removeRoad_65 rfl (lv_at hl 0 rfl) ?_
        refine rk_iald hx hb hK hP 4 rfl (by omega) (by omega) (v := a4 i) (rfl) dX3_removeRoad_66 ?_
        refine rk_iast hx hb hK hP hD hS 4 rfl (by omega) (by omega) (ws' := [(h0, .inr (3, [.int sc, .int (nI k), .ref q1, .ref q2, .ref q3, .ref q4])), (q1, aI E 30 (upd a1 (i - 1) (a1 i))), (q2, aI E 30 (upd a2 (i - 1) (a2 i))), (q3, aI E 30 (upd a3 (i - 1) (a3 i))), (q4, aI E 30 (upd a4 (i - 1) (a4 i)))]) rfl dX3_removeRoad_67 (fun H locs hP hD hS => ?_)
        refine lv_iinc (v := nI (i + 1)) (lv' := [(2, .int (nI (i + 1))), (0, .ref h0), (1, .int (nI r))]) hx hb dX3_removeRoad_68 hl (k := 0) rfl (by rw [show Int32.ofInt 1 = nI 1 by decide]; exact nI_add _ _) (by decide) rfl (fun ls hl => ?_)
        refine lv_goto (tgt := 4) hx hb dX3_removeRoad_71 (by decide) ?_
        exact ih4 (i + 1) (upd a1 (i - 1) (a1 i)) (upd a2 (i - 1) (a2 i)) (upd a3 (i - 1) (a3 i)) (upd a4 (i - 1) (a4 i)) (by rw [e1]; exact shl1_1 (by omega)) (by rw [e2]; exact shl1_1 (by omega)) (by rw [e3]; exact shl1_1 (by omega)) (by rw [e4]; exact shl1_1 (by omega)) (by first | assumption | omega | rfl) (by first | assumption | omega | rfl) (by omega) _ _ (hP.sub [0, 1, 2, 3, 4] rfl) (hD.sub [0, 1, 2, 3, 4] (by decide) rfl) hS ls (lv_sub hl [0, 1, 2] rfl)
  exact L4 ((k - (r + 1)) + 1) (r + 1) lo hi le en (by exact (shl1_0 _ _).symm) (by exact (shl1_0 _ _).symm) (by exact (shl1_0 _ _).symm) (by exact (shl1_0 _ _).symm) (by first | assumption | omega | rfl) (by first | assumption | omega | rfl) (Nat.lt_succ_self _) _ _ (hP.sub [0, 1, 2, 3, 4] rfl) (hD.sub [0, 1, 2, 3, 4] (by decide) rfl) hS ls (lv_sub hl [0, 1, 2] rfl)
theorem iw_X3_roadsAt_3 : ∀ w ∈ u_ws RX3 TX3 6, w ∈ wsX3_roadsAt := by decide +kernel
theorem fl_X3_roadsAt_15 : Cond.fieldLink RX3 15 (TX3 1).1 (TX3 1).2.1 (TX3 1).2.2.1 ∈ wsX3_roadsAt := by decide +kernel
theorem fl_X3_roadsAt_28 : Cond.fieldLink RX3 28 (TX3 5).1 (TX3 5).2.1 (TX3 5).2.2.1 ∈ wsX3_roadsAt := by decide +kernel
theorem inX4_X3_roadsAt : Cond.initialized RX4 ∈ wsX3_roadsAt := by decide +kernel
theorem stX4_contains_X3_roadsAt : Cond.static yX4_contains ∈ wsX3_roadsAt := by decide +kernel
set_option maxHeartbeats 400000 in
set_option maxRecDepth 100000 in
theorem c_X3_roadsAt (l : Launch) (E : EE) (sz : Nat) (h0 q1 q2 q3 q4 : Nat) (sc : Int32) (k : Nat) (en : Nat → Int32) (x : Int32) (hk : k ≤ 30) : Ci l yX3_roadsAt wsX3_roadsAt 1 21 E [.ref h0, .int x] [(h0, .inr (3, [.int sc, .int (nI k), .ref q1, .ref q2, .ref q3, .ref q4])), (q4, aI E 30 en)] sz (rAt en x k) [(h0, .inr (3, [.int sc, .int (nI k), .ref q1, .ref q2, .ref q3, .ref q4])), (q4, aI E 30 en)] := by
  refine C_of (QQ := QI E (rAt en x k) [(h0, .inr (3, [.int sc, .int (nI k), .ref q1, .ref q2, .ref q3, .ref q4])), (q4, aI E 30 en)]) (cc := cX3_roadsAt) (maxL := 4) (ret := (some .int)) (by decide +kernel) rfl (Nat.le_of_ble_eq_true rfl) ?_
  intro p e s m args below meth c A R Q ls hx hb hr hts hown hml hlocks hA hK hN hP hD hS hl hR hQ
  have hown : s.vm.findClass RX3 = some m.cls := hown
  have hl : lv_has ls 4 [(0, .ref h0), (1, .int x)] := hl
  refine lv_iconst (v := nI 0) hx hb dX3_roadsAt_0 (by decide) ?_
  refine lv_istore_n (lv' := [(2, .int (nI 0)), (0, .ref h0), (1, .int x)]) hx hb dX3_roadsAt_1 rfl hl (by decide) rfl (fun ls hl => ?_)
  refine lv_iconst (v := nI 0) hx hb dX3_roadsAt_2 (by decide) ?_
  refine lv_istore_n (lv' := [(3, .int (nI 0)), (2, .int (nI 0)), (0, .ref h0), (1, .int x)]) hx hb dX3_roadsAt_3 rfl hl (by decide) rfl (fun ls hl => ?_)
  have L4 : ∀ (fu : Nat) (y : Int32) (i : Nat), (ey : y = rAt en x i) → (hi2 : i ≤ k) → k - i < fu → ∀ (H : Heap) (locs : List Loc), va_P E.1 vwCl [(h0, .inr (3, [.int sc, .int (nI k), .ref q1, .ref q2, .ref q3, .ref q4])), (q4, aI E 30 en)] H → va_D A [(h0, .inr (3, [.int sc, .int (nI k), .ref q1, .ref q2, .ref q3, .ref q4])), (q4, aI E 30 en)] → va_S A s.heap H locs → ∀ (ls : Array Slot), lv_has ls 4 [(3, .int (nI i)), (2, .int y), (0, .ref h0), (1, .int x)] → W p l e R s m args below meth c H locs 0 0 Q (F0 m 4 ls []) := by
    intro fu
    induction fu with
    | zero => intro y i ey hi2 hfu; exact absurd hfu (Nat.not_lt_zero _)
    | succ fu ih4 =>
      intro y i ey hi2 hfu H locs hP hD hS ls hl
      refine lv_iload_n hx hb dX3_roadsAt_4 rfl (lv_at hl 0 rfl) ?_
      refine lv_aload_n hx hb dX3_roadsAt_5 rfl (lv_at hl 2 rfl) ?_
      refine rk_get (ci := 3) (C := RX3) (T := TX3) (N := 6) hx hb hts iw_X3_roadsAt_3 hown hK hP 0 rfl rfl 1 (by decide) fl_X3_roadsAt_15 rfl (v := .int (nI k)) rfl dX3_roadsAt_6 ?_
      refine rk_geN (tgt := 37) hx hb (by omega) (by omega) dX3_roadsAt_9 (by decide) (fun zc9 => ?_) (fun zc9 => ?_)
      · refine lv_iload_n hx hb dX3_roadsAt_37 rfl (lv_at hl 1 rfl) ?_
        exact ret_i hQ hx hb hr hlocks (hP.sub [0, 1] rfl) (hD.sub [0, 1] (by decide) rfl) hS dX3_roadsAt_38 (by obtain rfl : k = i := (by omega); exact ey)
      · refine lv_aload_n hx hb dX3_roadsAt_12 rfl (lv_at hl 2 rfl) ?_
        refine rk_get (ci := 3) (C := RX3) (T := TX3) (N := 6) hx hb hts iw_X3_roadsAt_3 hown hK hP 0 rfl rfl 5 (by decide) fl_X3_roadsAt_28 rfl (v := .ref q4) rfl dX3_roadsAt_13 ?_
        refine lv_iload_n hx hb dX3_roadsAt_16 rfl (lv_at hl 0 rfl) ?_
        refine rk_iald hx hb hK hP 1 rfl (by omega) (by omega) (v := en i) (rfl) dX3_roadsAt_17 ?_
        refine lv_iload_n hx hb dX3_roadsAt_18 rfl (lv_at hl 3 rfl) ?_
        refine kSN_i (E := E) (As := [.int (en i), .int x]) (rest := []) (wr := [(h0, .inr (3, [.int sc, .int (nI k), .ref q1, .ref q2, .ref q3, .ref q4])), (q4, aI E 30 en)]) ⟨hx, hb, hml, hown, hts⟩ (c_X4_contains (l := l) (E := E) (sz := _) (x := en i) (y := x) ) ⟨va_cnB 2 hts gX3_roadsAt_X4_contains_n46 rfl rfl rfl hN.2.2.2.1 (hts _ inX4_X3_roadsAt) (by decide +kernel) ⟨by rw [hR]; decide, by rw [hR]; decide⟩, hts _ stX4_contains_X3_roadsAt, trivial⟩ hK hN hP hD hS hA [] [0, 1] rfl (by decide) rfl (by decide) (by decide) rfl hl.1 rfl (Nat.le_of_ble_eq_true rfl) dX3_roadsAt_19 ⟨Nat.zero_le _, Nat.zero_le _⟩ (fun H locs hP hD hS => ?_)
        have hP : va_P E.1 vwCl [(h0, .inr (3, [.int sc, .int (nI k), .ref q1, .ref q2, .ref q3, .ref q4])), (q4, aI E 30 en)] H := hP
        have hD : va_D A [(h0, .inr (3, [.int sc, .int (nI k), .ref q1, .ref q2, .ref q3, .ref q4])), (q4, aI E 30 en)] := hD
        refine rk_if_eqB (tgt := 31) hx hb dX3_roadsAt_22 (by decide) (fun zc22 => ?_) (fun zc22 => ?_)
        · refine lv_iinc (v := nI (i + 1)) (lv' := [(3, .int (nI (i + 1))), (2, .int y), (0, .ref h0), (1, .int x)]) hx hb dX3_roadsAt_31 hl (k := 0) rfl (by rw [show Int32.ofInt 1 = nI 1 by decide]; exact nI_add _ _) (by decide) rfl (fun ls hl => ?_)
          refine lv_goto (tgt := 4) hx hb dX3_roadsAt_34 (by decide) ?_
          exact ih4 y (i + 1) (by subst ey; simp only [rAt]; exact (if_neg (by rw [zc22]; decide)).symm) (by first | assumption | omega | rfl) (by omega) _ _ (hP.sub [0, 1] rfl) (hD.sub [0, 1] (by decide) rfl) hS ls (lv_sub hl [0, 1, 2, 3] rfl)
        · refine lv_iload_n hx hb dX3_roadsAt_25 rfl (lv_at hl 1 rfl) ?_
          refine lv_iconst (v := nI 1) hx hb dX3_roadsAt_26 (by decide) ?_
          refine lv_iload_n hx hb dX3_roadsAt_27 rfl (lv_at hl 0 rfl) ?_
          refine lv_ishl hx hb dX3_roadsAt_28 ?_
          refine lv_ior hx hb dX3_roadsAt_29 ?_
          refine lv_istore_n (lv' := [(2, .int (y ||| ((nI 1) <<< ((nI i) &&& 31)))), (3, .int (nI i)), (0, .ref h0), (1, .int x)]) hx hb dX3_roadsAt_30 rfl hl (by decide) rfl (fun ls hl => ?_)
          refine lv_iinc (v := nI (i + 1)) (lv' := [(3, .int (nI (i + 1))), (2, .int (y ||| ((nI 1) <<< ((nI i) &&& 31)))), (0, .ref h0), (1, .int x)]) hx hb dX3_roadsAt_31 hl (k := 1) rfl (by rw [show Int32.ofInt 1 = nI 1 by decide]; exact nI_add _ _) (by decide) rfl (fun ls hl => ?_)
          refine lv_goto (tgt := 4) hx hb dX3_roadsAt_34 (by decide) ?_
          exact ih4 (y ||| ((nI 1) <<< ((nI i) &&& 31))) (i + 1) (by subst ey; simp only [rAt]; exact (if_pos zc22).symm) (by first | assumption | omega | rfl) (by omega) _ _ (hP.sub [0, 1] rfl) (hD.sub [0, 1] (by decide) rfl) hS ls (lv_sub hl [0, 1, 2, 3] rfl)
  exact L4 ((k - 0) + 1) (nI 0) 0 (rfl) (by first | assumption | omega | rfl) (Nat.lt_succ_self _) _ _ (hP.sub [0, 1] rfl) (hD.sub [0, 1] (by decide) rfl) hS ls (lv_sub hl [0, 1, 2, 3] rfl)
theorem iw_X3_roadsWithin_3 : ∀ w ∈ u_ws RX3 TX3 6, w ∈ wsX3_roadsWithin := by decide +kernel
theorem fl_X3_roadsWithin_15 : Cond.fieldLink RX3 15 (TX3 1).1 (TX3 1).2.1 (TX3 1).2.2.1 ∈ wsX3_roadsWithin := by decide +kernel
theorem fl_X3_roadsWithin_28 : Cond.fieldLink RX3 28 (TX3 5).1 (TX3 5).2.1 (TX3 5).2.2.1 ∈ wsX3_roadsWithin := by decide +kernel
set_option maxHeartbeats 400000 in
set_option maxRecDepth 100000 in
theorem c_X3_roadsWithin (l : Launch) (E : EE) (sz : Nat) (h0 q1 q2 q3 q4 : Nat) (sc : Int32) (k : Nat) (en : Nat → Int32) (x : Int32) (hk : k ≤ 30) : Ci l yX3_roadsWithin wsX3_roadsWithin 0 0 E [.ref h0, .int x] [(h0, .inr (3, [.int sc, .int (nI k), .ref q1, .ref q2, .ref q3, .ref q4])), (q4, aI E 30 en)] sz (rWi en x k) [(h0, .inr (3, [.int sc, .int (nI k), .ref q1, .ref q2, .ref q3, .ref q4])), (q4, aI E 30 en)] := by
  refine C_of (QQ := QI E (rWi en x k) [(h0, .inr (3, [.int sc, .int (nI k), .ref q1, .ref q2, .ref q3, .ref q4])), (q4, aI E 30 en)]) (cc := cX3_roadsWithin) (maxL := 4) (ret := (some .int)) (by decide +kernel) rfl (Nat.le_of_ble_eq_true rfl) ?_
  intro p e s m args below meth c A R Q ls hx hb hr hts hown hml hlocks hA hK hN hP hD hS hl hR hQ
  have hown : s.vm.findClass RX3 = some m.cls := hown
  have hl : lv_has ls 4 [(0, .ref h0), (1, .int x)] := hl
  refine lv_iconst (v := nI 0) hx hb dX3_roadsWithin_0 (by decide) ?_
  refine lv_istore_n (lv' := [(2, .int (nI 0)), (0, .ref h0), (1, .int x)]) hx hb dX3_roadsWithin_1 rfl hl (by decide) rfl (fun ls hl => ?_)
  refine lv_iconst (v := nI 0) hx hb dX3_roadsWithin_2 (by decide) ?_
  refine lv_istore_n (lv' := [(3, .int (nI 0)), (2, .int (nI 0)), (0, .ref h0), (1, .int x)]) hx hb dX3_roadsWithin_3 rfl hl (by decide) rfl (fun ls hl => ?_)
  have L4 : ∀ (fu : Nat) (y : Int32) (i : Nat), (ey : y = rWi en x i) → (hi2 : i ≤ k) → k - i < fu → ∀ (H : Heap) (locs : List Loc), va_P E.1 vwCl [(h0, .inr (3, [.int sc, .int (nI k), .ref q1, .ref q2, .ref q3, .ref q4])), (q4, aI E 30 en)] H → va_D A [(h0, .inr (3, [.int sc, .int (nI k), .ref q1, .ref q2, .ref q3, .ref q4])), (q4, aI E 30 en)] → va_S A s.heap H locs → ∀ (ls : Array Slot), lv_has ls 4 [(3, .int (nI i)), (2, .int y), (0, .ref h0), (1, .int x)] → W p l e R s m args below meth c H locs 0 0 Q (F0 m 4 ls []) := by
    intro fu
    induction fu with
    | zero => intro y i ey hi2 hfu; exact absurd hfu (Nat.not_lt_zero _)
    | succ fu ih4 =>
      intro y i ey hi2 hfu H locs hP hD hS ls hl
      refine lv_iload_n hx hb dX3_roadsWithin_4 rfl (lv_at hl 0 rfl) ?_
      refine lv_aload_n hx hb dX3_roadsWithin_5 rfl (lv_at hl 2 rfl) ?_
      refine rk_get (ci := 3) (C := RX3) (T := TX3) (N := 6) hx hb hts iw_X3_roadsWithin_3 hown hK hP 0 rfl rfl 1 (by decide) fl_X3_roadsWithin_15 rfl (v := .int (nI k)) rfl dX3_roadsWithin_6 ?_
      refine rk_geN (tgt := 37) hx hb (by omega) (by omega) dX3_roadsWithin_9 (by decide) (fun zc9 => ?_) (fun zc9 => ?_)
      · refine lv_iload_n hx hb dX3_roadsWithin_37 rfl (lv_at hl 1 rfl) ?_
        exact ret_i hQ hx hb hr hlocks (hP.sub [0, 1] rfl) (hD.sub [0, 1] (by decide) rfl) hS dX3_roadsWithin_38 (by obtain rfl : k = i := (by omega); exact ey)
      · refine lv_aload_n hx hb dX3_roadsWithin_12 rfl (lv_at hl 2 rfl) ?_
        refine rk_get (ci := 3) (C := RX3) (T := TX3) (N := 6) hx hb hts iw_X3_roadsWithin_3 hown hK hP 0 rfl rfl 5 (by decide) fl_X3_roadsWithin_28 rfl (v := .ref q4) rfl dX3_roadsWithin_13 ?_
        refine lv_iload_n hx hb dX3_roadsWithin_16 rfl (lv_at hl 0 rfl) ?_
        refine rk_iald hx hb hK hP 1 rfl (by omega) (by omega) (v := en i) (rfl) dX3_roadsWithin_17 ?_
        refine lv_iload_n hx hb dX3_roadsWithin_18 rfl (lv_at hl 3 rfl) ?_
        refine lv_iconst (v := (-1)) hx hb dX3_roadsWithin_19 (by decide) ?_
        refine lv_ixor hx hb dX3_roadsWithin_20 ?_
        refine lv_iand hx hb dX3_roadsWithin_21 ?_
        refine lv_if_ne (tgt := 31) hx hb dX3_roadsWithin_22 (by decide) (fun zc22 => ?_) (fun zc22 => ?_)
        · refine lv_iinc (v := nI (i + 1)) (lv' := [(3, .int (nI (i + 1))), (2, .int y), (0, .ref h0), (1, .int x)]) hx hb dX3_roadsWithin_31 hl (k := 0) rfl (by rw [show Int32.ofInt 1 = nI 1 by decide]; exact nI_add _ _) (by decide) rfl (fun ls hl => ?_)
          refine lv_goto (tgt := 4) hx hb dX3_roadsWithin_34 (by decide) ?_
          exact ih4 y (i + 1) (by subst ey; simp only [rWi]; exact (if_neg zc22).symm) (by first | assumption | omega | rfl) (by omega) _ _ (hP.sub [0, 1] rfl) (hD.sub [0, 1] (by decide) rfl) hS ls (lv_sub hl [0, 1, 2, 3] rfl)
        · refine lv_iload_n hx hb dX3_roadsWithin_25 rfl (lv_at hl 1 rfl) ?_
          refine lv_iconst (v := nI 1) hx hb dX3_roadsWithin_26 (by decide) ?_
          refine lv_iload_n hx hb dX3_roadsWithin_27 rfl (lv_at hl 0 rfl) ?_
          refine lv_ishl hx hb dX3_roadsWithin_28 ?_
          refine lv_ior hx hb dX3_roadsWithin_29 ?_
          refine lv_istore_n (lv' := [(2, .int (y ||| ((nI 1) <<< ((nI i) &&& 31)))), (3, .int (nI i)), (0, .ref h0), (1, .int x)]) hx hb dX3_roadsWithin_30 rfl hl (by decide) rfl (fun ls hl => ?_)
          refine lv_iinc (v := nI (i + 1)) (lv' := [(3, .int (nI (i + 1))), (2, .int (y ||| ((nI 1) <<< ((nI i) &&& 31)))), (0, .ref h0), (1, .int x)]) hx hb dX3_roadsWithin_31 hl (k := 1) rfl (by rw [show Int32.ofInt 1 = nI 1 by decide]; exact nI_add _ _) (by decide) rfl (fun ls hl => ?_)
          refine lv_goto (tgt := 4) hx hb dX3_roadsWithin_34 (by decide) ?_
          exact ih4 (y ||| ((nI 1) <<< ((nI i) &&& 31))) (i + 1) (by subst ey; simp only [rWi]; exact (if_pos zc22).symm) (by first | assumption | omega | rfl) (by omega) _ _ (hP.sub [0, 1] rfl) (hD.sub [0, 1] (by decide) rfl) hS ls (lv_sub hl [0, 1, 2, 3] rfl)
  exact L4 ((k - 0) + 1) (nI 0) 0 (rfl) (by first | assumption | omega | rfl) (Nat.lt_succ_self _) _ _ (hP.sub [0, 1] rfl) (hD.sub [0, 1] (by decide) rfl) hS ls (lv_sub hl [0, 1, 2, 3] rfl)
theorem iw_X3_lengthOf_3 : ∀ w ∈ u_ws RX3 TX3 6, w ∈ wsX3_lengthOf := by decide +kernel
theorem fl_X3_lengthOf_15 : Cond.fieldLink RX3 15 (TX3 1).1 (TX3 1).2.1 (TX3 1).2.2.1 ∈ wsX3_lengthOf := by decide +kernel
theorem inX4_X3_lengthOf : Cond.initialized RX4 ∈ wsX3_lengthOf := by decide +kernel
theorem stX4_contains_X3_lengthOf : Cond.static yX4_contains ∈ wsX3_lengthOf := by decide +kernel
theorem fl_X3_lengthOf_25 : Cond.fieldLink RX3 25 (TX3 4).1 (TX3 4).2.1 (TX3 4).2.2.1 ∈ wsX3_lengthOf := by decide +kernel
set_option maxHeartbeats 400000 in
set_option maxRecDepth 100000 in
theorem c_X3_lengthOf (l : Launch) (E : EE) (sz : Nat) (h0 q1 q2 q3 q4 : Nat) (sc : Int32) (k : Nat) (le : Nat → Int32) (x : Int32) (hk : k ≤ 30) : Ci l yX3_lengthOf wsX3_lengthOf 1 21 E [.ref h0, .int x] [(h0, .inr (3, [.int sc, .int (nI k), .ref q1, .ref q2, .ref q3, .ref q4])), (q3, aI E 30 le)] sz (lnO le x k) [(h0, .inr (3, [.int sc, .int (nI k), .ref q1, .ref q2, .ref q3, .ref q4])), (q3, aI E 30 le)] := by
  refine C_of (QQ := QI E (lnO le x k) [(h0, .inr (3, [.int sc, .int (nI k), .ref q1, .ref q2, .ref q3, .ref q4])), (q3, aI E 30 le)]) (cc := cX3_lengthOf) (maxL := 4) (ret := (some .int)) (by decide +kernel) rfl (Nat.le_of_ble_eq_true rfl) ?_
  intro p e s m args below meth c A R Q ls hx hb hr hts hown hml hlocks hA hK hN hP hD hS hl hR hQ
  have hown : s.vm.findClass RX3 = some m.cls := hown
  have hl : lv_has ls 4 [(0, .ref h0), (1, .int x)] := hl
  refine lv_iconst (v := nI 0) hx hb dX3_lengthOf_0 (by decide) ?_
  refine lv_istore_n (lv' := [(2, .int (nI 0)), (0, .ref h0), (1, .int x)]) hx hb dX3_lengthOf_1 rfl hl (by decide) rfl (fun ls hl => ?_)
  refine lv_iconst (v := nI 0) hx hb dX3_lengthOf_2 (by decide) ?_
  refine lv_istore_n (lv' := [(3, .int (nI 0)), (2, .int (nI 0)), (0, .ref h0), (1, .int x)]) hx hb dX3_lengthOf_3 rfl hl (by decide) rfl (fun ls hl => ?_)
  have L4 : ∀ (fu : Nat) (y : Int32) (i : Nat), (ey : y = lnO le x i) → (hi2 : i ≤ k) → k - i < fu → ∀ (H : Heap) (locs : List Loc), va_P E.1 vwCl [(h0, .inr (3, [.int sc, .int (nI k), .ref q1, .ref q2, .ref q3, .ref q4])), (q3, aI E 30 le)] H → va_D A [(h0, .inr (3, [.int sc, .int (nI k), .ref q1, .ref q2, .ref q3, .ref q4])), (q3, aI E 30 le)] → va_S A s.heap H locs → ∀ (ls : Array Slot), lv_has ls 4 [(3, .int (nI i)), (2, .int y), (0, .ref h0), (1, .int x)] → W p l e R s m args below meth c H locs 0 0 Q (F0 m 4 ls []) := by
    intro fu
    induction fu with
    | zero => intro y i ey hi2 hfu; exact absurd hfu (Nat.not_lt_zero _)
    | succ fu ih4 =>
      intro y i ey hi2 hfu H locs hP hD hS ls hl
      refine lv_iload_n hx hb dX3_lengthOf_4 rfl (lv_at hl 0 rfl) ?_
      refine lv_aload_n hx hb dX3_lengthOf_5 rfl (lv_at hl 2 rfl) ?_
      refine rk_get (ci := 3) (C := RX3) (T := TX3) (N := 6) hx hb hts iw_X3_lengthOf_3 hown hK hP 0 rfl rfl 1 (by decide) fl_X3_lengthOf_15 rfl (v := .int (nI k)) rfl dX3_lengthOf_6 ?_
      refine rk_geN (tgt := 35) hx hb (by omega) (by omega) dX3_lengthOf_9 (by decide) (fun zc9 => ?_) (fun zc9 => ?_)
      · refine lv_iload_n hx hb dX3_lengthOf_35 rfl (lv_at hl 1 rfl) ?_
        exact ret_i hQ hx hb hr hlocks (hP.sub [0, 1] rfl) (hD.sub [0, 1] (by decide) rfl) hS dX3_lengthOf_36 (by obtain rfl : k = i := (by omega); exact ey)
      · refine lv_iload_n hx hb dX3_lengthOf_12 rfl (lv_at hl 3 rfl) ?_
        refine lv_iload_n hx hb dX3_lengthOf_13 rfl (lv_at hl 0 rfl) ?_
        refine kSN_i (E := E) (As := [.int x, .int (nI i)]) (rest := []) (wr := [(h0, .inr (3, [.int sc, .int (nI k), .ref q1, .ref q2, .ref q3, .ref q4])), (q3, aI E 30 le)]) ⟨hx, hb, hml, hown, hts⟩ (c_X4_contains (l := l) (E := E) (sz := _) (x := x) (y := nI i) ) ⟨va_cnB 2 hts gX3_lengthOf_X4_contains_n46 rfl rfl rfl hN.2.2.2.1 (hts _ inX4_X3_lengthOf) (by decide +kernel) ⟨by rw [hR]; decide, by rw [hR]; decide⟩, hts _ stX4_contains_X3_lengthOf, trivial⟩ hK hN hP hD hS hA [] [0, 1] rfl (by decide) rfl (by decide) (by decide) rfl hl.1 rfl (Nat.le_of_ble_eq_true rfl) dX3_lengthOf_14 ⟨Nat.zero_le _, Nat.zero_le _⟩ (fun H locs hP hD hS => ?_)
        have hP : va_P E.1 vwCl [(h0, .inr (3, [.int sc, .int (nI k), .ref q1, .ref q2, .ref q3, .ref q4])), (q3, aI E 30 le)] H := hP
        have hD : va_D A [(h0, .inr (3, [.int sc, .int (nI k), .ref q1, .ref q2, .ref q3, .ref q4])), (q3, aI E 30 le)] := hD
        refine rk_if_eqB (tgt := 29) hx hb dX3_lengthOf_17 (by decide) (fun zc17 => ?_) (fun zc17 => ?_)
        · refine lv_iinc (v := nI (i + 1)) (lv' := [(3, .int (nI (i + 1))), (2, .int y), (0, .ref h0), (1, .int x)]) hx hb dX3_lengthOf_29 hl (k := 0) rfl (by rw [show Int32.ofInt 1 = nI 1 by decide]; exact nI_add _ _) (by decide) rfl (fun ls hl => ?_)
          refine lv_goto (tgt := 4) hx hb dX3_lengthOf_32 (by decide) ?_
          exact ih4 y (i + 1) (by subst ey; simp only [lnO]; exact (if_neg (by rw [zc17]; decide)).symm) (by first | assumption | omega | rfl) (by omega) _ _ (hP.sub [0, 1] rfl) (hD.sub [0, 1] (by decide) rfl) hS ls (lv_sub hl [0, 1, 2, 3] rfl)
        · refine lv_iload_n hx hb dX3_lengthOf_20 rfl (lv_at hl 1 rfl) ?_
          refine lv_aload_n hx hb dX3_lengthOf_21 rfl (lv_at hl 2 rfl) ?_
          refine rk_get (ci := 3) (C := RX3) (T := TX3) (N := 6) hx hb hts iw_X3_lengthOf_3 hown hK hP 0 rfl rfl 4 (by decide) fl_X3_lengthOf_25 rfl (v := .ref q3) rfl dX3_lengthOf_22 ?_
          refine lv_iload_n hx hb dX3_lengthOf_25 rfl (lv_at hl 0 rfl) ?_
          refine rk_iald hx hb hK hP 1 rfl (by omega) (by omega) (v := le i) (rfl) dX3_lengthOf_26 ?_
          refine lv_iadd hx hb dX3_lengthOf_27 ?_
          refine lv_istore_n (lv' := [(2, .int (y + (le i))), (3, .int (nI i)), (0, .ref h0), (1, .int x)]) hx hb dX3_lengthOf_28 rfl hl (by decide) rfl (fun ls hl => ?_)
          refine lv_iinc (v := nI (i + 1)) (lv' := [(3, .int (nI (i + 1))), (2, .int (y + (le i))), (0, .ref h0), (1, .int x)]) hx hb dX3_lengthOf_29 hl (k := 1) rfl (by rw [show Int32.ofInt 1 = nI 1 by decide]; exact nI_add _ _) (by decide) rfl (fun ls hl => ?_)
          refine lv_goto (tgt := 4) hx hb dX3_lengthOf_32 (by decide) ?_
          exact ih4 (y + (le i)) (i + 1) (by subst ey; simp only [lnO]; exact (if_pos zc17).symm) (by first | assumption | omega | rfl) (by omega) _ _ (hP.sub [0, 1] rfl) (hD.sub [0, 1] (by decide) rfl) hS ls (lv_sub hl [0, 1, 2, 3] rfl)
  exact L4 ((k - 0) + 1) (nI 0) 0 (rfl) (by first | assumption | omega | rfl) (Nat.lt_succ_self _) _ _ (hP.sub [0, 1] rfl) (hD.sub [0, 1] (by decide) rfl) hS ls (lv_sub hl [0, 1, 2, 3] rfl)
theorem iw_X3_oneRoadFurther_3 : ∀ w ∈ u_ws RX3 TX3 6, w ∈ wsX3_oneRoadFurther := by decide +kernel
theorem fl_X3_oneRoadFurther_15 : Cond.fieldLink RX3 15 (TX3 1).1 (TX3 1).2.1 (TX3 1).2.2.1 ∈ wsX3_oneRoadFurther := by decide +kernel
theorem inX4_X3_oneRoadFurther : Cond.initialized RX4 ∈ wsX3_oneRoadFurther := by decide +kernel
theorem stX4_contains_X3_oneRoadFurther : Cond.static yX4_contains ∈ wsX3_oneRoadFurther := by decide +kernel
theorem fl_X3_oneRoadFurther_28 : Cond.fieldLink RX3 28 (TX3 5).1 (TX3 5).2.1 (TX3 5).2.2.1 ∈ wsX3_oneRoadFurther := by decide +kernel
set_option maxHeartbeats 400000 in
set_option maxRecDepth 100000 in
theorem c_X3_oneRoadFurther (l : Launch) (E : EE) (sz : Nat) (h0 q1 q2 q3 q4 : Nat) (sc : Int32) (k : Nat) (en : Nat → Int32) (x w : Int32) (hk : k ≤ 30) : Ci l yX3_oneRoadFurther wsX3_oneRoadFurther 1 21 E [.ref h0, .int x, .int w] [(h0, .inr (3, [.int sc, .int (nI k), .ref q1, .ref q2, .ref q3, .ref q4])), (q4, aI E 30 en)] sz (orf en x w k) [(h0, .inr (3, [.int sc, .int (nI k), .ref q1, .ref q2, .ref q3, .ref q4])), (q4, aI E 30 en)] := by
  refine C_of (QQ := QI E (orf en x w k) [(h0, .inr (3, [.int sc, .int (nI k), .ref q1, .ref q2, .ref q3, .ref q4])), (q4, aI E 30 en)]) (cc := cX3_oneRoadFurther) (maxL := 5) (ret := (some .int)) (by decide +kernel) rfl (Nat.le_of_ble_eq_true rfl) ?_
  intro p e s m args below meth c A R Q ls hx hb hr hts hown hml hlocks hA hK hN hP hD hS hl hR hQ
  have hown : s.vm.findClass RX3 = some m.cls := hown
  have hl : lv_has ls 5 [(0, .ref h0), (1, .int x), (2, .int w)] := hl
  refine lv_iload_n hx hb dX3_oneRoadFurther_0 rfl (lv_at hl 1 rfl) ?_
  refine lv_istore_n (lv' := [(3, .int x), (0, .ref h0), (1, .int x), (2, .int w)]) hx hb dX3_oneRoadFurther_1 rfl hl (by decide) rfl (fun ls hl => ?_)
  refine lv_iconst (v := nI 0) hx hb dX3_oneRoadFurther_2 (by decide) ?_
  refine lv_istore (lv' := [(4, .int (nI 0)), (3, .int x), (0, .ref h0), (1, .int x), (2, .int w)]) hx hb dX3_oneRoadFurther_3 hl (by decide) rfl (fun ls hl => ?_)
  have L5 : ∀ (fu : Nat) (y : Int32) (i : Nat), (ey : y = orf en x w i) → (hi2 : i ≤ k) → k - i < fu → ∀ (H : Heap) (locs : List Loc), va_P E.1 vwCl [(h0, .inr (3, [.int sc, .int (nI k), .ref q1, .ref q2, .ref q3, .ref q4])), (q4, aI E 30 en)] H → va_D A [(h0, .inr (3, [.int sc, .int (nI k), .ref q1, .ref q2, .ref q3, .ref q4])), (q4, aI E 30 en)] → va_S A s.heap H locs → ∀ (ls : Array Slot), lv_has ls 5 [(4, .int (nI i)), (3, .int y), (0, .ref h0), (1, .int x), (2, .int w)] → W p l e R s m args below meth c H locs 0 0 Q (F0 m 5 ls []) := by
    intro fu
    induction fu with
    | zero => intro y i ey hi2 hfu; exact absurd hfu (Nat.not_lt_zero _)
    | succ fu ih5 =>
      intro y i ey hi2 hfu H locs hP hD hS ls hl
      refine lv_iload hx hb dX3_oneRoadFurther_5 (lv_at hl 0 rfl) ?_
      refine lv_aload_n hx hb dX3_oneRoadFurther_7 rfl (lv_at hl 2 rfl) ?_
      refine rk_get (ci := 3) (C := RX3) (T := TX3) (N := 6) hx hb hts iw_X3_oneRoadFurther_3 hown hK hP 0 rfl rfl 1 (by decide) fl_X3_oneRoadFurther_15 rfl (v := .int (nI k)) rfl dX3_oneRoadFurther_8 ?_
      refine rk_geN (tgt := 51) hx hb (by omega) (by omega) dX3_oneRoadFurther_11 (by decide) (fun zc11 => ?_) (fun zc11 => ?_)
      · refine lv_iload_n hx hb dX3_oneRoadFurther_51 rfl (lv_at hl 1 rfl) ?_
        exact ret_i hQ hx hb hr hlocks (hP.sub [0, 1] rfl) (hD.sub [0, 1] (by decide) rfl) hS dX3_oneRoadFurther_52 (by obtain rfl : k = i := (by omega); exact ey)
      · refine lv_iload_n hx hb dX3_oneRoadFurther_14 rfl (lv_at hl 4 rfl) ?_
        refine lv_iload hx hb dX3_oneRoadFurther_15 (lv_at hl 0 rfl) ?_
        refine kSN_i (E := E) (As := [.int w, .int (nI i)]) (rest := []) (wr := [(h0, .inr (3, [.int sc, .int (nI k), .ref q1, .ref q2, .ref q3, .ref q4])), (q4, aI E 30 en)]) ⟨hx, hb, hml, hown, hts⟩ (c_X4_contains (l := l) (E := E) (sz := _) (x := w) (y := nI i) ) ⟨va_cnB 2 hts gX3_oneRoadFurther_X4_contains_n46 rfl rfl rfl hN.2.2.2.1 (hts _ inX4_X3_oneRoadFurther) (by decide +kernel) ⟨by rw [hR]; decide, by rw [hR]; decide⟩, hts _ stX4_contains_X3_oneRoadFurther, trivial⟩ hK hN hP hD hS hA [] [0, 1] rfl (by decide) rfl (by decide) (by decide) rfl hl.1 rfl (Nat.le_of_ble_eq_true rfl) dX3_oneRoadFurther_17 ⟨Nat.zero_le _, Nat.zero_le _⟩ (fun H locs hP hD hS => ?_)
        have hP : va_P E.1 vwCl [(h0, .inr (3, [.int sc, .int (nI k), .ref q1, .ref q2, .ref q3, .ref q4])), (q4, aI E 30 en)] H := hP
        have hD : va_D A [(h0, .inr (3, [.int sc, .int (nI k), .ref q1, .ref q2, .ref q3, .ref q4])), (q4, aI E 30 en)] := hD
        refine rk_if_eqB (tgt := 45) hx hb dX3_oneRoadFurther_20 (by decide) (fun zc20 => ?_) (fun zc20 => ?_)
        · refine lv_iinc (v := nI (i + 1)) (lv' := [(4, .int (nI (i + 1))), (3, .int y), (0, .ref h0), (1, .int x), (2, .int w)]) hx hb dX3_oneRoadFurther_45 hl (k := 0) rfl (by rw [show Int32.ofInt 1 = nI 1 by decide]; exact nI_add _ _) (by decide) rfl (fun ls hl => ?_)
          refine lv_goto (tgt := 5) hx hb dX3_oneRoadFurther_48 (by decide) ?_
          exact ih5 y (i + 1) (by subst ey; simp only [orf]; exact (ifn1 (by rw [zc20]; decide)).symm) (by first | assumption | omega | rfl) (by omega) _ _ (hP.sub [0, 1] rfl) (hD.sub [0, 1] (by decide) rfl) hS ls (lv_sub hl [0, 1, 2, 3, 4] rfl)
        · refine lv_aload_n hx hb dX3_oneRoadFurther_23 rfl (lv_at hl 2 rfl) ?_
          refine rk_get (ci := 3) (C := RX3) (T := TX3) (N := 6) hx hb hts iw_X3_oneRoadFurther_3 hown hK hP 0 rfl rfl 5 (by decide) fl_X3_oneRoadFurther_28 rfl (v := .ref q4) rfl dX3_oneRoadFurther_24 ?_
          refine lv_iload hx hb dX3_oneRoadFurther_27 (lv_at hl 0 rfl) ?_
          refine rk_iald hx hb hK hP 1 rfl (by omega) (by omega) (v := en i) (rfl) dX3_oneRoadFurther_29 ?_
          refine lv_iload_n hx hb dX3_oneRoadFurther_30 rfl (lv_at hl 3 rfl) ?_
          refine lv_iand hx hb dX3_oneRoadFurther_31 ?_
          refine lv_if_eq (tgt := 45) hx hb dX3_oneRoadFurther_32 (by decide) (fun zc32 => ?_) (fun zc32 => ?_)
          · refine lv_iinc (v := nI (i + 1)) (lv' := [(4, .int (nI (i + 1))), (3, .int y), (0, .ref h0), (1, .int x), (2, .int w)]) hx hb dX3_oneRoadFurther_45 hl (k := 0) rfl (by rw [show Int32.ofInt 1 = nI 1 by decide]; exact nI_add _ _) (by decide) rfl (fun ls hl => ?_)
            refine lv_goto (tgt := 5) hx hb dX3_oneRoadFurther_48 (by decide) ?_
            exact ih5 y (i + 1) (by subst ey; simp only [orf]; exact (ifn2 (fun q => q zc32)).symm) (by first | assumption | omega | rfl) (by omega) _ _ (hP.sub [0, 1] rfl) (hD.sub [0, 1] (by decide) rfl) hS ls (lv_sub hl [0, 1, 2, 3, 4] rfl)
          · refine lv_iload_n hx hb dX3_oneRoadFurther_35 rfl (lv_at hl 1 rfl) ?_
            refine lv_aload_n hx hb dX3_oneRoadFurther_36 rfl (lv_at hl 2 rfl) ?_
            refine rk_get (ci := 3) (C := RX3) (T := TX3) (N := 6) hx hb hts iw_X3_oneRoadFurther_3 hown hK hP 0 rfl rfl 5 (by decide) fl_X3_oneRoadFurther_28 rfl (v := .ref q4) rfl dX3_oneRoadFurther_37 ?_
            refine lv_iload hx hb dX3_oneRoadFurther_40 (lv_at hl 0 rfl) ?_
            refine rk_iald hx hb hK hP 1 rfl (by omega) (by omega) (v := en i) (rfl) dX3_oneRoadFurther_42 ?_
            refine lv_ior hx hb dX3_oneRoadFurther_43 ?_
            refine lv_istore_n (lv' := [(3, .int (y ||| (en i))), (4, .int (nI i)), (0, .ref h0), (1, .int x), (2, .int w)]) hx hb dX3_oneRoadFurther_44 rfl hl (by decide) rfl (fun ls hl => ?_)
            refine lv_iinc (v := nI (i + 1)) (lv' := [(4, .int (nI (i + 1))), (3, .int (y ||| (en i))), (0, .ref h0), (1, .int x), (2, .int w)]) hx hb dX3_oneRoadFurther_45 hl (k := 1) rfl (by rw [show Int32.ofInt 1 = nI 1 by decide]; exact nI_add _ _) (by decide) rfl (fun ls hl => ?_)
            refine lv_goto (tgt := 5) hx hb dX3_oneRoadFurther_48 (by decide) ?_
            exact ih5 (y ||| (en i)) (i + 1) (by subst ey; simp only [orf]; exact (if_pos (And.intro zc20 zc32)).symm) (by first | assumption | omega | rfl) (by omega) _ _ (hP.sub [0, 1] rfl) (hD.sub [0, 1] (by decide) rfl) hS ls (lv_sub hl [0, 1, 2, 3, 4] rfl)
  exact L5 ((k - 0) + 1) x 0 (rfl) (by first | assumption | omega | rfl) (Nat.lt_succ_self _) _ _ (hP.sub [0, 1] rfl) (hD.sub [0, 1] (by decide) rfl) hS ls (lv_sub hl [0, 1, 2, 3, 4] rfl)
theorem iw_X3_reach_3 : ∀ w ∈ u_ws RX3 TX3 6, w ∈ wsX3_reach := by decide +kernel
theorem fl_X3_reach_15 : Cond.fieldLink RX3 15 (TX3 1).1 (TX3 1).2.1 (TX3 1).2.2.1 ∈ wsX3_reach := by decide +kernel
theorem inX4_X3_reach : Cond.initialized RX4 ∈ wsX3_reach := by decide +kernel
theorem stX4_contains_X3_reach : Cond.static yX4_contains ∈ wsX3_reach := by decide +kernel
theorem fl_X3_reach_28 : Cond.fieldLink RX3 28 (TX3 5).1 (TX3 5).2.1 (TX3 5).2.2.1 ∈ wsX3_reach := by decide +kernel
set_option maxHeartbeats 400000 in
set_option maxRecDepth 100000 in
theorem c_X3_reach (l : Launch) (E : EE) (sz : Nat) (h0 q1 q2 q3 q4 : Nat) (sc : Int32) (k : Nat) (en : Nat → Int32) (q : Nat) (w : Int32) (hk : k ≤ 30) (hq : q < 16) : Ci l yX3_reach wsX3_reach 1 21 E [.ref h0, .int (nI q), .int w] [(h0, .inr (3, [.int sc, .int (nI k), .ref q1, .ref q2, .ref q3, .ref q4])), (q4, aI E 30 en)] sz (rsC en w k q) [(h0, .inr (3, [.int sc, .int (nI k), .ref q1, .ref q2, .ref q3, .ref q4])), (q4, aI E 30 en)] := by
  refine C_of (QQ := QI E (rsC en w k q) [(h0, .inr (3, [.int sc, .int (nI k), .ref q1, .ref q2, .ref q3, .ref q4])), (q4, aI E 30 en)]) (cc := cX3_reach) (maxL := 7) (ret := (some .int)) (by decide +kernel) rfl (Nat.le_of_ble_eq_true rfl) ?_
  intro p e s m args below meth c A R Q ls hx hb hr hts hown hml hlocks hA hK hN hP hD hS hl hR hQ
  have hown : s.vm.findClass RX3 = some m.cls := hown
  have hl : lv_has ls 7 [(0, .ref h0), (1, .int (nI q)), (2, .int w)] := hl
  refine lv_iconst (v := nI 1) hx hb dX3_reach_0 (by decide) ?_
  refine lv_iload_n hx hb dX3_reach_1 rfl (lv_at hl 1 rfl) ?_
  refine lv_ishl hx hb dX3_reach_2 ?_
  refine lv_istore_n (lv' := [(3, .int ((nI 1) <<< ((nI q) &&& 31))), (0, .ref h0), (1, .int (nI q)), (2, .int w)]) hx hb dX3_reach_3 rfl hl (by decide) rfl (fun ls hl => ?_)
  refine lv_iconst (v := nI 0) hx hb dX3_reach_4 (by decide) ?_
  refine lv_istore (lv' := [(4, .int (nI 0)), (3, .int ((nI 1) <<< ((nI q) &&& 31))), (0, .ref h0), (1, .int (nI q)), (2, .int w)]) hx hb dX3_reach_5 hl (by decide) rfl (fun ls hl => ?_)
  refine lv_iconst (v := nI 0) hx hb dX3_reach_7 (by decide) ?_
  refine lv_istore (lv' := [(5, .int (nI 0)), (4, .int (nI 0)), (3, .int ((nI 1) <<< ((nI q) &&& 31))), (0, .ref h0), (1, .int (nI q)), (2, .int w)]) hx hb dX3_reach_8 hl (by decide) rfl (fun ls hl => ?_)
  have L10 : ∀ (fu : Nat) (x3 x4 : Int32) (j : Nat), (e3 : x3 = rC en w k q j) → (e4 : x4 = prC en w k q j) → (hj : j ≤ 16) → 16 - j < fu → ∀ (H : Heap) (locs : List Loc), va_P E.1 vwCl [(h0, .inr (3, [.int sc, .int (nI k), .ref q1, .ref q2, .ref q3, .ref q4])), (q4, aI E 30 en)] H → va_D A [(h0, .inr (3, [.int sc, .int (nI k), .ref q1, .ref q2, .ref q3, .ref q4])), (q4, aI E 30 en)] → va_S A s.heap H locs → ∀ (ls : Array Slot), lv_has ls 7 [(5, .int (nI j)), (4, .int x4), (3, .int x3), (0, .ref h0), (1, .int (nI q)), (2, .int w)] → W p l e R s m args below meth c H locs 0 0 Q (F0 m 10 ls []) := by
    intro fu
    induction fu with
    | zero => intro x3 x4 j e3 e4 hj hfu; exact absurd hfu (Nat.not_lt_zero _)
    | succ fu ih10 =>
      intro x3 x4 j e3 e4 hj hfu H locs hP hD hS ls hl
      refine lv_iload hx hb dX3_reach_10 (lv_at hl 0 rfl) ?_
      refine lv_bipush (v := nI 16) hx hb dX3_reach_12 (by decide) ?_
      refine rk_geN (tgt := 81) hx hb (by omega) (by omega) dX3_reach_14 (by decide) (fun zc14 => ?_) (fun zc14 => ?_)
      · refine lv_iload_n hx hb dX3_reach_81 rfl (lv_at hl 2 rfl) ?_
        exact ret_i hQ hx hb hr hlocks (hP.sub [0, 1] rfl) (hD.sub [0, 1] (by decide) rfl) hS dX3_reach_82 (by obtain rfl : j = 16 := (by omega); exact e3)
      · refine lv_iload_n hx hb dX3_reach_17 rfl (lv_at hl 2 rfl) ?_
        refine lv_iload hx hb dX3_reach_18 (lv_at hl 1 rfl) ?_
        refine lv_icmp_eq (tgt := 81) hx hb dX3_reach_20 (by decide) (fun zc20 => ?_) (fun zc20 => ?_)
        · refine lv_iload_n hx hb dX3_reach_81 rfl (lv_at hl 2 rfl) ?_
          exact ret_i hQ hx hb hr hlocks (hP.sub [0, 1] rfl) (hD.sub [0, 1] (by decide) rfl) hS dX3_reach_82 (by rw [e3]; exact rC_stop hq hj (by rw [← e3, ← e4]; exact zc20))
        · refine lv_iload_n hx hb dX3_reach_23 rfl (lv_at hl 2 rfl) ?_
          refine lv_istore (lv' := [(4, .int x3), (5, .int (nI j)), (3, .int x3), (0, .ref h0), (1, .int (nI q)), (2, .int w)]) hx hb dX3_reach_24 hl (by decide) rfl (fun ls hl => ?_)
          refine lv_iconst (v := nI 0) hx hb dX3_reach_26 (by decide) ?_
          refine lv_istore (lv' := [(6, .int (nI 0)), (4, .int x3), (5, .int (nI j)), (3, .int x3), (0, .ref h0), (1, .int (nI q)), (2, .int w)]) hx hb dX3_reach_27 hl (by decide) rfl (fun ls hl => ?_)
          have L29 : ∀ (fu : Nat) (y : Int32) (i : Nat), (ey : y = psC en w x3 i) → (hi2 : i ≤ k) → k - i < fu → ∀ (H : Heap) (locs : List Loc), va_P E.1 vwCl [(h0, .inr (3, [.int sc, .int (nI k), .ref q1, .ref q2, .ref q3, .ref q4])), (q4, aI E 30 en)] H → va_D A [(h0, .inr (3, [.int sc, .int (nI k), .ref q1, .ref q2, .ref q3, .ref q4])), (q4, aI E 30 en)] → va_S A s.heap H locs → ∀ (ls : Array Slot), lv_has ls 7 [(6, .int (nI i)), (4, .int x3), (5, .int (nI j)), (3, .int y), (0, .ref h0), (1, .int (nI q)), (2, .int w)] → W p l e R s m args below meth c H locs 0 0 Q (F0 m 29 ls []) := by
            intro fu
            induction fu with
            | zero => intro y i ey hi2 hfu; exact absurd hfu (Nat.not_lt_zero _)
            | succ fu ih29 =>
              intro y i ey hi2 hfu H locs hP hD hS ls hl
              refine lv_iload hx hb dX3_reach_29 (lv_at hl 0 rfl) ?_
              refine lv_aload_n hx hb dX3_reach_31 rfl (lv_at hl 4 rfl) ?_
              refine rk_get (ci := 3) (C := RX3) (T := TX3) (N := 6) hx hb hts iw_X3_reach_3 hown hK hP 0 rfl rfl 1 (by decide) fl_X3_reach_15 rfl (v := .int (nI k)) rfl dX3_reach_32 ?_
              refine rk_geN (tgt := 75) hx hb (by omega) (by omega) dX3_reach_35 (by decide) (fun zc35 => ?_) (fun zc35 => ?_)
              · refine lv_iinc (v := nI (j + 1)) (lv' := [(5, .int (nI (j + 1))), (6, .int (nI i)), (4, .int x3), (3, .int y), (0, .ref h0), (1, .int (nI q)), (2, .int w)]) hx hb dX3_reach_75 hl (k := 2) rfl (by rw [show Int32.ofInt 1 = nI 1 by decide]; exact nI_add _ _) (by decide) rfl (fun ls hl => ?_)
                refine lv_goto (tgt := 10) hx hb dX3_reach_78 (by decide) ?_
                exact ih10 y x3 (j + 1) (by obtain rfl : k = i := (by omega); rw [ey, e3]; rfl) (by rw [e3]; rfl) (by first | assumption | omega | rfl) (by omega) _ _ (hP.sub [0, 1] rfl) (hD.sub [0, 1] (by decide) rfl) hS ls (lv_sub hl [0, 2, 3, 4, 5, 6] rfl)
              · refine lv_iload_n hx hb dX3_reach_38 rfl (lv_at hl 6 rfl) ?_
                refine lv_iload hx hb dX3_reach_39 (lv_at hl 0 rfl) ?_
                refine kSN_i (E := E) (As := [.int w, .int (nI i)]) (rest := []) (wr := [(h0, .inr (3, [.int sc, .int (nI k), .ref q1, .ref q2, .ref q3, .ref q4])), (q4, aI E 30 en)]) ⟨hx, hb, hml, hown, hts⟩ (c_X4_contains (l := l) (E := E) (sz := _) (x := w) (y := nI i) ) ⟨va_cnB 2 hts gX3_reach_X4_contains_n46 rfl rfl rfl hN.2.2.2.1 (hts _ inX4_X3_reach) (by decide +kernel) ⟨by rw [hR]; decide, by rw [hR]; decide⟩, hts _ stX4_contains_X3_reach, trivial⟩ hK hN hP hD hS hA [] [0, 1] rfl (by decide) rfl (by decide) (by decide) rfl hl.1 rfl (Nat.le_of_ble_eq_true rfl) dX3_reach_41 ⟨Nat.zero_le _, Nat.zero_le _⟩ (fun H locs hP hD hS => ?_)
                have hP : va_P E.1 vwCl [(h0, .inr (3, [.int sc, .int (nI k), .ref q1, .ref q2, .ref q3, .ref q4])), (q4, aI E 30 en)] H := hP
                have hD : va_D A [(h0, .inr (3, [.int sc, .int (nI k), .ref q1, .ref q2, .ref q3, .ref q4])), (q4, aI E 30 en)] := hD
                refine rk_if_eqB (tgt := 69) hx hb dX3_reach_44 (by decide) (fun zc44 => ?_) (fun zc44 => ?_)
                · refine lv_iinc (v := nI (i + 1)) (lv' := [(6, .int (nI (i + 1))), (4, .int x3), (5, .int (nI j)), (3, .int y), (0, .ref h0), (1, .int (nI q)), (2, .int w)]) hx hb dX3_reach_69 hl (k := 0) rfl (by rw [show Int32.ofInt 1 = nI 1 by decide]; exact nI_add _ _) (by decide) rfl (fun ls hl => ?_)
                  refine lv_goto (tgt := 29) hx hb dX3_reach_72 (by decide) ?_
                  exact ih29 y (i + 1) (by subst ey; simp only [psC]; exact (ifn1 (by rw [zc44]; decide)).symm) (by first | assumption | omega | rfl) (by omega) _ _ (hP.sub [0, 1] rfl) (hD.sub [0, 1] (by decide) rfl) hS ls (lv_sub hl [0, 1, 2, 3, 4, 5, 6] rfl)
                · refine lv_aload_n hx hb dX3_reach_47 rfl (lv_at hl 4 rfl) ?_
                  refine rk_get (ci := 3) (C := RX3) (T := TX3) (N := 6) hx hb hts iw_X3_reach_3 hown hK hP 0 rfl rfl 5 (by decide) fl_X3_reach_28 rfl (v := .ref q4) rfl dX3_reach_48 ?_
                  refine lv_iload hx hb dX3_reach_51 (lv_at hl 0 rfl) ?_
                  refine rk_iald hx hb hK hP 1 rfl (by omega) (by omega) (v := en i) (rfl) dX3_reach_53 ?_
                  refine lv_iload_n hx hb dX3_reach_54 rfl (lv_at hl 3 rfl) ?_
                  refine lv_iand hx hb dX3_reach_55 ?_
                  refine lv_if_eq (tgt := 69) hx hb dX3_reach_56 (by decide) (fun zc56 => ?_) (fun zc56 => ?_)
                  · refine lv_iinc (v := nI (i + 1)) (lv' := [(6, .int (nI (i + 1))), (4, .int x3), (5, .int (nI j)), (3, .int y), (0, .ref h0), (1, .int (nI q)), (2, .int w)]) hx hb dX3_reach_69 hl (k := 0) rfl (by rw [show Int32.ofInt 1 = nI 1 by decide]; exact nI_add _ _) (by decide) rfl (fun ls hl => ?_)
                    refine lv_goto (tgt := 29) hx hb dX3_reach_72 (by decide) ?_
                    exact ih29 y (i + 1) (by subst ey; simp only [psC]; exact (ifn2 (fun q => q zc56)).symm) (by first | assumption | omega | rfl) (by omega) _ _ (hP.sub [0, 1] rfl) (hD.sub [0, 1] (by decide) rfl) hS ls (lv_sub hl [0, 1, 2, 3, 4, 5, 6] rfl)
                  · refine lv_iload_n hx hb dX3_reach_59 rfl (lv_at hl 3 rfl) ?_
                    refine lv_aload_n hx hb dX3_reach_60 rfl (lv_at hl 4 rfl) ?_
                    refine rk_get (ci := 3) (C := RX3) (T := TX3) (N := 6) hx hb hts iw_X3_reach_3 hown hK hP 0 rfl rfl 5 (by decide) fl_X3_reach_28 rfl (v := .ref q4) rfl dX3_reach_61 ?_
                    refine lv_iload hx hb dX3_reach_64 (lv_at hl 0 rfl) ?_
                    refine rk_iald hx hb hK hP 1 rfl (by omega) (by omega) (v := en i) (rfl) dX3_reach_66 ?_
                    refine lv_ior hx hb dX3_reach_67 ?_
                    refine lv_istore_n (lv' := [(3, .int (y ||| (en i))), (6, .int (nI i)), (4, .int x3), (5, .int (nI j)), (0, .ref h0), (1, .int (nI q)), (2, .int w)]) hx hb dX3_reach_68 rfl hl (by decide) rfl (fun ls hl => ?_)
                    refine lv_iinc (v := nI (i + 1)) (lv' := [(6, .int (nI (i + 1))), (3, .int (y ||| (en i))), (4, .int x3), (5, .int (nI j)), (0, .ref h0), (1, .int (nI q)), (2, .int w)]) hx hb dX3_reach_69 hl (k := 1) rfl (by rw [show Int32.ofInt 1 = nI 1 by decide]; exact nI_add _ _) (by decide) rfl (fun ls hl => ?_)
                    refine lv_goto (tgt := 29) hx hb dX3_reach_72 (by decide) ?_
                    exact ih29 (y ||| (en i)) (i + 1) (by subst ey; simp only [psC]; exact (if_pos (And.intro zc44 zc56)).symm) (by first | assumption | omega | rfl) (by omega) _ _ (hP.sub [0, 1] rfl) (hD.sub [0, 1] (by decide) rfl) hS ls (lv_sub hl [0, 2, 3, 1, 4, 5, 6] rfl)
          exact L29 ((k - 0) + 1) x3 0 (rfl) (by first | assumption | omega | rfl) (Nat.lt_succ_self _) _ _ (hP.sub [0, 1] rfl) (hD.sub [0, 1] (by decide) rfl) hS ls (lv_sub hl [0, 1, 2, 3, 4, 5, 6] rfl)
  exact L10 ((16 - 0) + 1) ((nI 1) <<< ((nI q) &&& 31)) (nI 0) 0 (rfl) (rfl) (by first | assumption | omega | rfl) (Nat.lt_succ_self _) _ _ (hP.sub [0, 1] rfl) (hD.sub [0, 1] (by decide) rfl) hS ls (lv_sub hl [0, 1, 2, 3, 4, 5] rfl)
theorem iw_X3_copyFrom_3 : ∀ w ∈ u_ws RX3 TX3 6, w ∈ wsX3_copyFrom := by decide +kernel
theorem fl_X3_copyFrom_9 : Cond.fieldLink RX3 9 (TX3 0).1 (TX3 0).2.1 (TX3 0).2.2.1 ∈ wsX3_copyFrom := by decide +kernel
theorem fl_X3_copyFrom_15 : Cond.fieldLink RX3 15 (TX3 1).1 (TX3 1).2.1 (TX3 1).2.2.1 ∈ wsX3_copyFrom := by decide +kernel
theorem fl_X3_copyFrom_18 : Cond.fieldLink RX3 18 (TX3 2).1 (TX3 2).2.1 (TX3 2).2.2.1 ∈ wsX3_copyFrom := by decide +kernel
theorem mlac_X3_copyFrom : Cond.methodLink RX3 31 arraycopyName ∈ wsX3_copyFrom := by decide +kernel
theorem ntac_X3_copyFrom : Cond.native arraycopyName ∈ wsX3_copyFrom := by decide +kernel
theorem stac_X3_copyFrom : Cond.static arraycopyName ∈ wsX3_copyFrom := by decide +kernel
theorem inac_X3_copyFrom : Cond.initialized "java/lang/System" ∈ wsX3_copyFrom := by decide +kernel
theorem fl_X3_copyFrom_22 : Cond.fieldLink RX3 22 (TX3 3).1 (TX3 3).2.1 (TX3 3).2.2.1 ∈ wsX3_copyFrom := by decide +kernel
theorem fl_X3_copyFrom_25 : Cond.fieldLink RX3 25 (TX3 4).1 (TX3 4).2.1 (TX3 4).2.2.1 ∈ wsX3_copyFrom := by decide +kernel
theorem fl_X3_copyFrom_28 : Cond.fieldLink RX3 28 (TX3 5).1 (TX3 5).2.1 (TX3 5).2.2.1 ∈ wsX3_copyFrom := by decide +kernel
set_option maxHeartbeats 400000 in
set_option maxRecDepth 100000 in
theorem c_X3_copyFrom (l : Launch) (E : EE) (sz : Nat) (h0 q1 q2 q3 q4 g0 p1 p2 p3 p4 : Nat) (sc rc sd rd : Int32) (lo hi le en mo mi me mn : Nat → Int32) : Cv l yX3_copyFrom wsX3_copyFrom 1 30 E [.ref h0, .ref g0] [(h0, .inr (3, [.int sc, .int rc, .ref q1, .ref q2, .ref q3, .ref q4])), (q1, aI E 30 lo), (q2, aI E 30 hi), (q3, aI E 30 le), (q4, aI E 30 en), (g0, .inr (3, [.int sd, .int rd, .ref p1, .ref p2, .ref p3, .ref p4])), (p1, aI E 30 mo), (p2, aI E 30 mi), (p3, aI E 30 me), (p4, aI E 30 mn)] sz [(h0, .inr (3, [.int sd, .int rd, .ref q1, .ref q2, .ref q3, .ref q4])), (q1, aI E 30 (va_cpy mo lo 0 0 30)), (q2, aI E 30 (va_cpy mi hi 0 0 30)), (q3, aI E 30 (va_cpy me le 0 0 30)), (q4, aI E 30 (va_cpy mn en 0 0 30)), (g0, .inr (3, [.int sd, .int rd, .ref p1, .ref p2, .ref p3, .ref p4])), (p1, aI E 30 mo), (p2, aI E 30 mi), (p3, aI E 30 me), (p4, aI E 30 mn)] := by
  refine C_of (QQ := QV E [(h0, .inr (3, [.int sd, .int rd, .ref q1, .ref q2, .ref q3, .ref q4])), (q1, aI E 30 (va_cpy mo lo 0 0 30)), (q2, aI E 30 (va_cpy mi hi 0 0 30)), (q3, aI E 30 (va_cpy me le 0 0 30)), (q4, aI E 30 (va_cpy mn en 0 0 30)), (g0, .inr (3, [.int sd, .int rd, .ref p1, .ref p2, .ref p3, .ref p4])), (p1, aI E 30 mo), (p2, aI E 30 mi), (p3, aI E 30 me), (p4, aI E 30 mn)]) (cc := cX3_copyFrom) (maxL := 2) (ret := none) (by decide +kernel) rfl (Nat.le_of_ble_eq_true rfl) ?_
  intro p e s m args below meth c A R Q ls hx hb hr hts hown hml hlocks hA hK hN hP hD hS hl hR hQ
  have hown : s.vm.findClass RX3 = some m.cls := hown
  have hl : lv_has ls 2 [(0, .ref h0), (1, .ref g0)] := hl
  refine lv_aload_n hx hb dX3_copyFrom_0 rfl (lv_at hl 0 rfl) ?_
  refine lv_aload_n hx hb dX3_copyFrom_1 rfl (lv_at hl 1 rfl) ?_
  refine rk_get (ci := 3) (C := RX3) (T := TX3) (N := 6) hx hb hts iw_X3_copyFrom_3 hown hK hP 5 rfl rfl 0 (by decide) fl_X3_copyFrom_9 rfl (v := .int sd) rfl dX3_copyFrom_2 ?_
  refine rk_put (ci := 3) (C := RX3) (T := TX3) (N := 6) hx hb hts iw_X3_copyFrom_3 tyX3 tyX3_ok nmX3 hown hK hP hD hS 0 rfl rfl 0 (by decide) fl_X3_copyFrom_9 rfl rfl (tyX3_ok 0 (by decide)) rfl rfl (Nat.le_of_ble_eq_true rfl) (ws' := [(h0, .inr (3, [.int sd, .int rc, .ref q1, .ref q2, .ref q3, .ref q4])), (q1, aI E 30 lo), (q2, aI E 30 hi), (q3, aI E 30 le), (q4, aI E 30 en), (g0, .inr (3, [.int sd, .int rd, .ref p1, .ref p2, .ref p3, .ref p4])), (p1, aI E 30 mo), (p2, aI E 30 mi), (p3, aI E 30 me), (p4, aI E 30 mn)]) rfl dX3_copyFrom_5 (fun H locs hP hD hS => ?_)
  refine lv_aload_n hx hb dX3_copyFrom_8 rfl (lv_at hl 0 rfl) ?_
  refine lv_aload_n hx hb dX3_copyFrom_9 rfl (lv_at hl 1 rfl) ?_
  refine rk_get (ci := 3) (C := RX3) (T := TX3) (N := 6) hx hb hts iw_X3_copyFrom_3 hown hK hP 5 rfl rfl 1 (by decide) fl_X3_copyFrom_15 rfl (v := .int rd) rfl dX3_copyFrom_10 ?_
  refine rk_put (ci := 3) (C := RX3) (T := TX3) (N := 6) hx hb hts iw_X3_copyFrom_3 tyX3 tyX3_ok nmX3 hown hK hP hD hS 0 rfl rfl 1 (by decide) fl_X3_copyFrom_15 rfl rfl (tyX3_ok 1 (by decide)) rfl rfl (Nat.le_of_ble_eq_true rfl) (ws' := [(h0, .inr (3, [.int sd, .int rd, .ref q1, .ref q2, .ref q3, .ref q4])), (q1, aI E 30 lo), (q2, aI E 30 hi), (q3, aI E 30 le), (q4, aI E 30 en), (g0, .inr (3, [.int sd, .int rd, .ref p1, .ref p2, .ref p3, .ref p4])), (p1, aI E 30 mo), (p2, aI E 30 mi), (p3, aI E 30 me), (p4, aI E 30 mn)]) rfl dX3_copyFrom_13 (fun H locs hP hD hS => ?_)
  refine lv_aload_n hx hb dX3_copyFrom_16 rfl (lv_at hl 1 rfl) ?_
  refine rk_get (ci := 3) (C := RX3) (T := TX3) (N := 6) hx hb hts iw_X3_copyFrom_3 hown hK hP 5 rfl rfl 2 (by decide) fl_X3_copyFrom_18 rfl (v := .ref p1) rfl dX3_copyFrom_17 ?_
  refine lv_iconst (v := nI 0) hx hb dX3_copyFrom_20 (by decide) ?_
  refine lv_aload_n hx hb dX3_copyFrom_21 rfl (lv_at hl 0 rfl) ?_
  refine rk_get (ci := 3) (C := RX3) (T := TX3) (N := 6) hx hb hts iw_X3_copyFrom_3 hown hK hP 0 rfl rfl 2 (by decide) fl_X3_copyFrom_18 rfl (v := .ref q1) rfl dX3_copyFrom_22 ?_
  refine lv_iconst (v := nI 0) hx hb dX3_copyFrom_25 (by decide) ?_
  refine lv_bipush (v := nI 30) hx hb dX3_copyFrom_26 (by decide) ?_
  refine va_copyi (D := E.1) (cl := vwCl) (tys := tyE E) (ty := .int) hx hb (hml.trans hl.1.symm) hown (hts _ mlac_X3_copyFrom) (hts _ ntac_X3_copyFrom) (hts _ stac_X3_copyFrom) (hts _ inac_X3_copyFrom) hK hP hD hS 6 1 0 0 rfl rfl rfl rfl rfl (by decide) (by decide) (by decide) (by decide) (by decide) (fun _ _ => rfl) (by rw [hR]; decide) (by rw [hR]; exact Nat.le_of_ble_eq_true rfl) dX3_copyFrom_28 (fun H locs hP hD hS => ?_)
  have hP : va_P E.1 vwCl [(h0, .inr (3, [.int sd, .int rd, .ref q1, .ref q2, .ref q3, .ref q4])), (q1, aI E 30 (va_cpy mo lo 0 0 30)), (q2, aI E 30 hi), (q3, aI E 30 le), (q4, aI E 30 en), (g0, .inr (3, [.int sd, .int rd, .ref p1, .ref p2, .ref p3, .ref p4])), (p1, aI E 30 mo), (p2, aI E 30 mi), (p3, aI E 30 me), (p4, aI E 30 mn)] H := hP
  have hD : va_D A [(h0, .inr (3, [.int sd, .int rd, .ref q1, .ref q2, .ref q3, .ref q4])), (q1, aI E 30 (va_cpy mo lo 0 0 30)), (q2, aI E 30 hi), (q3, aI E 30 le), (q4, aI E 30 en), (g0, .inr (3, [.int sd, .int rd, .ref p1, .ref p2, .ref p3, .ref p4])), (p1, aI E 30 mo), (p2, aI E 30 mi), (p3, aI E 30 me), (p4, aI E 30 mn)] := hD
  refine lv_aload_n hx hb dX3_copyFrom_31 rfl (lv_at hl 1 rfl) ?_
  refine rk_get (ci := 3) (C := RX3) (T := TX3) (N := 6) hx hb hts iw_X3_copyFrom_3 hown hK hP 5 rfl rfl 3 (by decide) fl_X3_copyFrom_22 rfl (v := .ref p2) rfl dX3_copyFrom_32 ?_
  refine lv_iconst (v := nI 0) hx hb dX3_copyFrom_35 (by decide) ?_
  refine lv_aload_n hx hb dX3_copyFrom_36 rfl (lv_at hl 0 rfl) ?_
  refine rk_get (ci := 3) (C := RX3) (T := TX3) (N := 6) hx hb hts iw_X3_copyFrom_3 hown hK hP 0 rfl rfl 3 (by decide) fl_X3_copyFrom_22 rfl (v := .ref q2) rfl dX3_copyFrom_37 ?_
  refine lv_iconst (v := nI 0) hx hb dX3_copyFrom_40 (by decide) ?_
  refine lv_bipush (v := nI 30) hx hb dX3_copyFrom_41 (by decide) ?_
  refine va_copyi (D := E.1) (cl := vwCl) (tys := tyE E) (ty := .int) hx hb (hml.trans hl.1.symm) hown (hts _ mlac_X3_copyFrom) (hts _ ntac_X3_copyFrom) (hts _ stac_X3_copyFrom) (hts _ inac_X3_copyFrom) hK hP hD hS 7 2 0 0 rfl rfl rfl rfl rfl (by decide) (by decide) (by decide) (by decide) (by decide) (fun _ _ => rfl) (by rw [hR]; decide) (by rw [hR]; exact Nat.le_of_ble_eq_true rfl) dX3_copyFrom_43 (fun H locs hP hD hS => ?_)
  have hP : va_P E.1 vwCl [(h0, .inr (3, [.int sd, .int rd, .ref q1, .ref q2, .ref q3, .ref q4])), (q1, aI E 30 (va_cpy mo lo 0 0 30)), (q2, aI E 30 (va_cpy mi hi 0 0 30)), (q3, aI E 30 le), (q4, aI E 30 en), (g0, .inr (3, [.int sd, .int rd, .ref p1, .ref p2, .ref p3, .ref p4])), (p1, aI E 30 mo), (p2, aI E 30 mi), (p3, aI E 30 me), (p4, aI E 30 mn)] H := hP
  have hD : va_D A [(h0, .inr (3, [.int sd, .int rd, .ref q1, .ref q2, .ref q3, .ref q4])), (q1, aI E 30 (va_cpy mo lo 0 0 30)), (q2, aI E 30 (va_cpy mi hi 0 0 30)), (q3, aI E 30 le), (q4, aI E 30 en), (g0, .inr (3, [.int sd, .int rd, .ref p1, .ref p2, .ref p3, .ref p4])), (p1, aI E 30 mo), (p2, aI E 30 mi), (p3, aI E 30 me), (p4, aI E 30 mn)] := hD
  refine lv_aload_n hx hb dX3_copyFrom_46 rfl (lv_at hl 1 rfl) ?_
  refine rk_get (ci := 3) (C := RX3) (T := TX3) (N := 6) hx hb hts iw_X3_copyFrom_3 hown hK hP 5 rfl rfl 4 (by decide) fl_X3_copyFrom_25 rfl (v := .ref p3) rfl dX3_copyFrom_47 ?_
  refine lv_iconst (v := nI 0) hx hb dX3_copyFrom_50 (by decide) ?_
  refine lv_aload_n hx hb dX3_copyFrom_51 rfl (lv_at hl 0 rfl) ?_
  refine rk_get (ci := 3) (C := RX3) (T := TX3) (N := 6) hx hb hts iw_X3_copyFrom_3 hown hK hP 0 rfl rfl 4 (by decide) fl_X3_copyFrom_25 rfl (v := .ref q3) rfl dX3_copyFrom_52 ?_
  refine lv_iconst (v := nI 0) hx hb dX3_copyFrom_55 (by decide) ?_
  refine lv_bipush (v := nI 30) hx hb dX3_copyFrom_56 (by decide) ?_
  refine va_copyi (D := E.1) (cl := vwCl) (tys := tyE E) (ty := .int) hx hb (hml.trans hl.1.symm) hown (hts _ mlac_X3_copyFrom) (hts _ ntac_X3_copyFrom) (hts _ stac_X3_copyFrom) (hts _ inac_X3_copyFrom) hK hP hD hS 8 3 0 0 rfl rfl rfl rfl rfl (by decide) (by decide) (by decide) (by decide) (by decide) (fun _ _ => rfl) (by rw [hR]; decide) (by rw [hR]; exact Nat.le_of_ble_eq_true rfl) dX3_copyFrom_58 (fun H locs hP hD hS => ?_)
  have hP : va_P E.1 vwCl [(h0, .inr (3, [.int sd, .int rd, .ref q1, .ref q2, .ref q3, .ref q4])), (q1, aI E 30 (va_cpy mo lo 0 0 30)), (q2, aI E 30 (va_cpy mi hi 0 0 30)), (q3, aI E 30 (va_cpy me le 0 0 30)), (q4, aI E 30 en), (g0, .inr (3, [.int sd, .int rd, .ref p1, .ref p2, .ref p3, .ref p4])), (p1, aI E 30 mo), (p2, aI E 30 mi), (p3, aI E 30 me), (p4, aI E 30 mn)] H := hP
  have hD : va_D A [(h0, .inr (3, [.int sd, .int rd, .ref q1, .ref q2, .ref q3, .ref q4])), (q1, aI E 30 (va_cpy mo lo 0 0 30)), (q2, aI E 30 (va_cpy mi hi 0 0 30)), (q3, aI E 30 (va_cpy me le 0 0 30)), (q4, aI E 30 en), (g0, .inr (3, [.int sd, .int rd, .ref p1, .ref p2, .ref p3, .ref p4])), (p1, aI E 30 mo), (p2, aI E 30 mi), (p3, aI E 30 me), (p4, aI E 30 mn)] := hD
  refine lv_aload_n hx hb dX3_copyFrom_61 rfl (lv_at hl 1 rfl) ?_
  refine rk_get (ci := 3) (C := RX3) (T := TX3) (N := 6) hx hb hts iw_X3_copyFrom_3 hown hK hP 5 rfl rfl 5 (by decide) fl_X3_copyFrom_28 rfl (v := .ref p4) rfl dX3_copyFrom_62 ?_
  refine lv_iconst (v := nI 0) hx hb dX3_copyFrom_65 (by decide) ?_
  refine lv_aload_n hx hb dX3_copyFrom_66 rfl (lv_at hl 0 rfl) ?_
  refine rk_get (ci := 3) (C := RX3) (T := TX3) (N := 6) hx hb hts iw_X3_copyFrom_3 hown hK hP 0 rfl rfl 5 (by decide) fl_X3_copyFrom_28 rfl (v := .ref q4) rfl dX3_copyFrom_67 ?_
  refine lv_iconst (v := nI 0) hx hb dX3_copyFrom_70 (by decide) ?_
  refine lv_bipush (v := nI 30) hx hb dX3_copyFrom_71 (by decide) ?_
  refine va_copyi (D := E.1) (cl := vwCl) (tys := tyE E) (ty := .int) hx hb (hml.trans hl.1.symm) hown (hts _ mlac_X3_copyFrom) (hts _ ntac_X3_copyFrom) (hts _ stac_X3_copyFrom) (hts _ inac_X3_copyFrom) hK hP hD hS 9 4 0 0 rfl rfl rfl rfl rfl (by decide) (by decide) (by decide) (by decide) (by decide) (fun _ _ => rfl) (by rw [hR]; decide) (by rw [hR]; exact Nat.le_of_ble_eq_true rfl) dX3_copyFrom_73 (fun H locs hP hD hS => ?_)
  have hP : va_P E.1 vwCl [(h0, .inr (3, [.int sd, .int rd, .ref q1, .ref q2, .ref q3, .ref q4])), (q1, aI E 30 (va_cpy mo lo 0 0 30)), (q2, aI E 30 (va_cpy mi hi 0 0 30)), (q3, aI E 30 (va_cpy me le 0 0 30)), (q4, aI E 30 (va_cpy mn en 0 0 30)), (g0, .inr (3, [.int sd, .int rd, .ref p1, .ref p2, .ref p3, .ref p4])), (p1, aI E 30 mo), (p2, aI E 30 mi), (p3, aI E 30 me), (p4, aI E 30 mn)] H := hP
  have hD : va_D A [(h0, .inr (3, [.int sd, .int rd, .ref q1, .ref q2, .ref q3, .ref q4])), (q1, aI E 30 (va_cpy mo lo 0 0 30)), (q2, aI E 30 (va_cpy mi hi 0 0 30)), (q3, aI E 30 (va_cpy me le 0 0 30)), (q4, aI E 30 (va_cpy mn en 0 0 30)), (g0, .inr (3, [.int sd, .int rd, .ref p1, .ref p2, .ref p3, .ref p4])), (p1, aI E 30 mo), (p2, aI E 30 mi), (p3, aI E 30 me), (p4, aI E 30 mn)] := hD
  exact ret_v hQ hx hb hr hlocks (hP.sub [0, 1, 2, 3, 4, 5, 6, 7, 8, 9] rfl) (hD.sub [0, 1, 2, 3, 4, 5, 6, 7, 8, 9] (by decide) rfl) hS dX3_copyFrom_76
