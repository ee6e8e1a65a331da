/-! THE LAW'S isTree (laid by a program) -/
set_option maxHeartbeats 4000000 in
set_option maxRecDepth 100000 in
theorem c_L_isTree (l : Launch) (E : EE) (sz : Nat) (F1 : Nat → Prop) (ad1 : Nat → Nat) (n hc k : Nat) (T : Nat → Int32) (kk : Nat → Nat) (HA : Nat → Nat → Int32) : Cx l yL_isTree wsL_isTree 5 118 E [.ref (ad1 0), .int (nI n)] F1 (fun U => OI E F1 ad1 n hc k T kk HA U.heap) (fun H => OI E F1 ad1 n hc k T kk HA H) sz (nI 1) := by
  refine Cx_of (cc := cL_isTree) (maxL := 13) (ret := (some .boolean)) (by decide +kernel) rfl (Nat.le_of_ble_eq_true rfl) ?_
  intro p e s m args below meth c A R Q ls hx hb hr hts hown hml hlocks hA hFA hAd hK hN hPre hS hl hR hQ
  have hown : s.vm.findClass RL = some m.cls := hown
  have hl : lv_has ls 13 [(0, .ref (ad1 0)), (1, .int (nI n))] := hl
  have hP : OI E F1 ad1 n hc k T kk HA s.heap := hPre
  have hD : True := trivial
  have hFA1 := hFA
  obtain ⟨hc6, lo, hi, le, en, hT⟩ := hP.tw
  have hn16 : n ≤ 16 := hT.1.2.2
  have hn2 : 2 ≤ n := hT.1.2.1
  have hk30 : k ≤ 30 := hT.1.1
  have hdb := db_pos hT
  have hpi := pi_pos hT
  have hpg := popc_32 (pgM T k k)
  have hBt := B_town hT
  refine lv_aload_n hx hb dL_isTree_0 rfl (lv_at hl 0 rfl) ?_
  refine lv_iconst (v := nI 5) hx hb dL_isTree_1 (by decide) ?_
  refine oq_count (G := (fun _ => True)) (rest := []) ⟨hx, hb, hml, hown, hts⟩ hK hN hA hFA1 hP trivial (fun _ _ _ q => q) hS (v := 5) (by decide) (by decide) (cwV 1 hts gL_isTree_X4_count rfl rfl rfl (by decide +kernel) ⟨by rw [hR]; decide, by rw [hR]; decide⟩) hl.1 rfl (Nat.le_of_ble_eq_true rfl) dL_isTree_2 ⟨Nat.zero_le _, Nat.zero_le _⟩ (fun H locs hP hD hS => ?_)
  refine rk_ev (show _ = nI (dbM T k n) from cnA_5) ?_
  refine lv_istore_n (lv' := [(2, .int (nI (dbM T k n))), (0, .ref (ad1 0)), (1, .int (nI n))]) hx hb dL_isTree_5 rfl hl (by decide) rfl (fun ls hl => ?_)
  refine lv_iconst (v := nI 0) hx hb dL_isTree_6 (by decide) ?_
  refine lv_istore_n (lv' := [(3, .int (nI 0)), (2, .int (nI (dbM T k n))), (0, .ref (ad1 0)), (1, .int (nI n))]) hx hb dL_isTree_7 rfl hl (by decide) rfl (fun ls hl => ?_)
  refine lv_iconst (v := nI 0) hx hb dL_isTree_8 (by decide) ?_
  refine lv_istore (lv' := [(4, .int (nI 0)), (3, .int (nI 0)), (2, .int (nI (dbM T k n))), (0, .ref (ad1 0)), (1, .int (nI n))]) hx hb dL_isTree_9 hl (by decide) rfl (fun ls hl => ?_)
  refine lv_iconst (v := nI 0) hx hb dL_isTree_11 (by decide) ?_
  refine lv_istore (lv' := [(5, .int (nI 0)), (4, .int (nI 0)), (3, .int (nI 0)), (2, .int (nI (dbM T k n))), (0, .ref (ad1 0)), (1, .int (nI n))]) hx hb dL_isTree_12 hl (by decide) rfl (fun ls hl => ?_)
  refine lv_iconst (v := nI 0) hx hb dL_isTree_14 (by decide) ?_
  refine lv_istore (lv' := [(6, .int (nI 0)), (5, .int (nI 0)), (4, .int (nI 0)), (3, .int (nI 0)), (2, .int (nI (dbM T k n))), (0, .ref (ad1 0)), (1, .int (nI n))]) hx hb dL_isTree_15 hl (by decide) rfl (fun ls hl => ?_)
  refine lv_iconst (v := nI 0) hx hb dL_isTree_17 (by decide) ?_
  refine lv_istore (lv' := [(7, .int (nI 0)), (6, .int (nI 0)), (5, .int (nI 0)), (4, .int (nI 0)), (3, .int (nI 0)), (2, .int (nI (dbM T k n))), (0, .ref (ad1 0)), (1, .int (nI n))]) hx hb dL_isTree_18 hl (by decide) rfl (fun ls hl => ?_)
  refine lv_aload_n hx hb dL_isTree_20 rfl (lv_at hl 6 rfl) ?_
  refine lv_iconst (v := nI 3) hx hb dL_isTree_21 (by decide) ?_
  refine oq_count (G := (fun _ => True)) (rest := []) ⟨hx, hb, hml, hown, hts⟩ hK hN hA hFA1 hP trivial (fun _ _ _ q => q) hS (v := 3) (by decide) (by decide) (cwV 1 hts gL_isTree_X4_count rfl rfl rfl (by decide +kernel) ⟨by rw [hR]; decide, by rw [hR]; decide⟩) hl.1 rfl (Nat.le_of_ble_eq_true rfl) dL_isTree_22 ⟨Nat.zero_le _, Nat.zero_le _⟩ (fun H locs hP hD hS => ?_)
  refine rk_ev (show _ = nI (popc (pgM T k k)) from cnA_3) ?_
  refine lv_iload_n hx hb dL_isTree_25 rfl (lv_at hl 5 rfl) ?_
  refine lv_aload_n hx hb dL_isTree_26 rfl (lv_at hl 6 rfl) ?_
  refine lv_iconst (v := nI 2) hx hb dL_isTree_27 (by decide) ?_
  refine oq_count (G := (fun _ => True)) (rest := [.int (nI (dbM T k n)), .int (nI (popc (pgM T k k)))]) ⟨hx, hb, hml, hown, hts⟩ hK hN hA hFA1 hP trivial (fun _ _ _ q => q) hS (v := 2) (by decide) (by decide) (cwV 1 hts gL_isTree_X4_count rfl rfl rfl (by decide +kernel) ⟨by rw [hR]; decide, by rw [hR]; decide⟩) hl.1 rfl (Nat.le_of_ble_eq_true rfl) dL_isTree_28 ⟨Nat.zero_le _, Nat.zero_le _⟩ (fun H locs hP hD hS => ?_)
  refine rk_ev (show _ = nI (piM T k n) from cnA_2) ?_
  refine rk_isubN hx hb (by omega) dL_isTree_31 ?_
  refine rk_neN (tgt := 58) hx hb (by omega) (by omega) dL_isTree_32 (by decide) (fun q => absurd (by omega) q) (fun zc32 => ?_)
  refine lv_aload_n hx hb dL_isTree_35 rfl (lv_at hl 6 rfl) ?_
  refine lv_iconst (v := nI 2) hx hb dL_isTree_36 (by decide) ?_
  refine oq_count (G := (fun _ => True)) (rest := []) ⟨hx, hb, hml, hown, hts⟩ hK hN hA hFA1 hP trivial (fun _ _ _ q => q) hS (v := 2) (by decide) (by decide) (cwV 1 hts gL_isTree_X4_count rfl rfl rfl (by decide +kernel) ⟨by rw [hR]; decide, by rw [hR]; decide⟩) hl.1 rfl (Nat.le_of_ble_eq_true rfl) dL_isTree_37 ⟨Nat.zero_le _, Nat.zero_le _⟩ (fun H locs hP hD hS => ?_)
  refine rk_ev (show _ = nI (piM T k n) from cnA_2) ?_
  refine lv_iconst (v := nI 1) hx hb dL_isTree_40 (by decide) ?_
  refine rk_ltN (tgt := 58) hx hb (by omega) (by omega) dL_isTree_41 (by decide) (fun q => absurd q (by omega)) (fun zc41 => ?_)
  refine lv_aload_n hx hb dL_isTree_44 rfl (lv_at hl 6 rfl) ?_
  refine lv_iload_n hx hb dL_isTree_45 rfl (lv_at hl 5 rfl) ?_
  refine lv_iconst (v := nI 0) hx hb dL_isTree_46 (by decide) ?_
  refine oq_districtN (G := (fun _ => True)) (rest := []) ⟨hx, hb, hml, hown, hts⟩ hK hN hA hFA1 hP trivial (fun _ _ _ q => q) hS  (cwV 2 hts gL_isTree_X4_district rfl rfl rfl (by decide +kernel) ⟨by rw [hR]; decide, by rw [hR]; decide⟩) hl.1 rfl (Nat.le_of_ble_eq_true rfl) dL_isTree_47 ⟨Nat.zero_le _, Nat.zero_le _⟩ (fun H locs hP hD hS => ?_)
  refine lv_iconst (v := (-1)) hx hb dL_isTree_50 (by decide) ?_
  refine lv_icmp_ne (tgt := 58) hx hb dL_isTree_51 (by decide) (fun q => absurd q (by decide)) (fun _ => ?_)
  refine lv_iconst (v := nI 1) hx hb dL_isTree_54 (by decide) ?_
  refine lv_goto (tgt := 59) hx hb dL_isTree_55 (by decide) ?_
  refine lv_istore (lv' := [(8, .int (nI 1)), (7, .int (nI 0)), (6, .int (nI 0)), (5, .int (nI 0)), (4, .int (nI 0)), (3, .int (nI 0)), (2, .int (nI (dbM T k n))), (0, .ref (ad1 0)), (1, .int (nI n))]) hx hb dL_isTree_59 hl (by decide) rfl (fun ls hl => ?_)
  refine lv_iconst (v := nI 0) hx hb dL_isTree_61 (by decide) ?_
  refine lv_istore (lv' := [(9, .int (nI 0)), (8, .int (nI 1)), (7, .int (nI 0)), (6, .int (nI 0)), (5, .int (nI 0)), (4, .int (nI 0)), (3, .int (nI 0)), (2, .int (nI (dbM T k n))), (0, .ref (ad1 0)), (1, .int (nI n))]) hx hb dL_isTree_62 hl (by decide) rfl (fun ls hl => ?_)
  have L64 : ∀ (fu : Nat) (d : Nat) (gd : d ≤ dbM T k n), dbM T k n - d < fu → ∀ (H : Heap) (locs : List Loc), OI E F1 ad1 n hc k T kk HA H → True → va_S A s.heap H locs → ∀ (ls : Array Slot), lv_has ls 13 [(9, .int (nI d)), (8, .int (nI 1)), (7, .int (nI 0)), (6, .int (nI (sm (fun i9 => lwN T (sqM T k n i9) k) d))), (5, .int (unF T k n d)), (4, .int (nI (sm (fun i9 => roM T (sqM T k n i9) k) d))), (3, .int (nI (sm (rnM T k n) d))), (2, .int (nI (dbM T k n))), (0, .ref (ad1 0)), (1, .int (nI n))] → W p l e R s m args below meth c H locs 0 0 Q (F0 m 64 ls []) := by
    intro fu
    induction fu with
    | zero => intro d gd hfu; exact absurd hfu (Nat.not_lt_zero _)
    | succ fu ih64 =>
      intro d gd hfu H locs hP hD hS ls hl
      refine lv_iload hx hb dL_isTree_64 (lv_at hl 0 rfl) ?_
      refine lv_iload_n hx hb dL_isTree_66 rfl (lv_at hl 7 rfl) ?_
      refine rk_geN (tgt := 234) hx hb (by omega) (by omega) dL_isTree_67 (by decide) (fun zc67 => ?_) (fun zc67 => ?_)
      · obtain rfl : d = dbM T k n := by omega
        refine lv_iconst (v := nI 0) hx hb dL_isTree_234 (by decide) ?_
        refine lv_istore (lv' := [(9, .int (nI 0)), (8, .int (nI 1)), (7, .int (nI 0)), (6, .int (nI (sm (fun i9 => lwN T (sqM T k n i9) k) (dbM T k n)))), (5, .int (unF T k n (dbM T k n))), (4, .int (nI (sm (fun i9 => roM T (sqM T k n i9) k) (dbM T k n)))), (3, .int (nI (sm (rnM T k n) (dbM T k n)))), (2, .int (nI (dbM T k n))), (0, .ref (ad1 0)), (1, .int (nI n))]) hx hb dL_isTree_235 hl (by decide) rfl (fun ls hl => ?_)
        have L237 : ∀ (fu : Nat) (r : Nat) (gr : r ≤ k), k - r < fu → ∀ (H : Heap) (locs : List Loc), OI E F1 ad1 n hc k T kk HA H → True → va_S A s.heap H locs → ∀ (ls : Array Slot), lv_has ls 13 [(9, .int (nI r)), (8, .int (nI 1)), (7, .int (nI (sm (fun i9 => if ptM T k i9 = true then mln T i9 else 0) r))), (6, .int (nI (sm (fun i9 => lwN T (sqM T k n i9) k) (dbM T k n)))), (5, .int (unF T k n (dbM T k n))), (4, .int (nI (sm (fun i9 => roM T (sqM T k n i9) k) (dbM T k n)))), (3, .int (nI (sm (rnM T k n) (dbM T k n)))), (2, .int (nI (dbM T k n))), (0, .ref (ad1 0)), (1, .int (nI n))] → W p l e R s m args below meth c H locs 0 0 Q (F0 m 237 ls []) := by
          intro fu
          induction fu with
          | zero => intro r gr hfu; exact absurd hfu (Nat.not_lt_zero _)
          | succ fu ih237 =>
            intro r gr hfu H locs hP hD hS ls hl
            refine lv_iload hx hb dL_isTree_237 (lv_at hl 0 rfl) ?_
            refine lv_aload_n hx hb dL_isTree_239 rfl (lv_at hl 8 rfl) ?_
            refine lv_iconst (v := nI 1) hx hb dL_isTree_240 (by decide) ?_
            refine oq_count (G := (fun _ => True)) (rest := [.int (nI r)]) ⟨hx, hb, hml, hown, hts⟩ hK hN hA hFA1 hP trivial (fun _ _ _ q => q) hS (v := 1) (by decide) (by decide) (cwV 1 hts gL_isTree_X4_count rfl rfl rfl (by decide +kernel) ⟨by rw [hR]; decide, by rw [hR]; decide⟩) hl.1 rfl (Nat.le_of_ble_eq_true rfl) dL_isTree_241 ⟨Nat.zero_le _, Nat.zero_le _⟩ (fun H locs hP hD hS => ?_)
            refine rk_ev (show _ = nI k from cnA_1) ?_
            refine rk_geN (tgt := 485) hx hb (by omega) (by omega) dL_isTree_244 (by decide) (fun zc244 => ?_) (fun zc244 => ?_)
            · obtain rfl : k = r := by omega
              have hso := sum_out hT
              have hsl := sum_lw hT
              have hsm := sm_mln hT
              refine lv_iload hx hb dL_isTree_485 (lv_at hl 1 rfl) ?_
              refine lv_if_eq (tgt := 562) hx hb dL_isTree_487 (by decide) (fun q => absurd q (by decide)) (fun _ => ?_)
              refine lv_iload hx hb dL_isTree_490 (lv_at hl 4 rfl) ?_
              refine lv_iconst (v := nI 1) hx hb dL_isTree_492 (by decide) ?_
              refine lv_iload_n hx hb dL_isTree_493 rfl (lv_at hl 9 rfl) ?_
              refine lv_ishl hx hb dL_isTree_494 ?_
              refine lv_iconst (v := nI 1) hx hb dL_isTree_495 (by decide) ?_
              refine lv_isub hx hb dL_isTree_496 ?_
              refine lv_icmp_ne (tgt := 562) hx hb dL_isTree_497 (by decide) (fun q => absurd (un_all hT) q) (fun zc497 => ?_)
              refine lv_iload hx hb dL_isTree_500 (lv_at hl 5 rfl) ?_
              refine lv_iconst (v := nI 2) hx hb dL_isTree_502 (by decide) ?_
              refine lv_aload_n hx hb dL_isTree_503 rfl (lv_at hl 8 rfl) ?_
              refine lv_iconst (v := nI 3) hx hb dL_isTree_504 (by decide) ?_
              refine oq_count (G := (fun _ => True)) (rest := [.int (nI 2), .int (nI (sm (fun i9 => roM T (sqM T k n i9) k) (dbM T k n)))]) ⟨hx, hb, hml, hown, hts⟩ hK hN hA hFA1 hP trivial (fun _ _ _ q => q) hS (v := 3) (by decide) (by decide) (cwV 1 hts gL_isTree_X4_count rfl rfl rfl (by decide +kernel) ⟨by rw [hR]; decide, by rw [hR]; decide⟩) hl.1 rfl (Nat.le_of_ble_eq_true rfl) dL_isTree_505 ⟨Nat.zero_le _, Nat.zero_le _⟩ (fun H locs hP hD hS => ?_)
              refine rk_ev (show _ = nI (popc (pgM T k k)) from cnA_3) ?_
              refine rk_imulN hx hb dL_isTree_508 ?_
              refine rk_neN (tgt := 562) hx hb (by omega) (by omega) dL_isTree_509 (by decide) (fun q => absurd hso q) (fun zc509 => ?_)
              refine lv_iload_n hx hb dL_isTree_512 rfl (lv_at hl 6 rfl) ?_
              refine lv_aload_n hx hb dL_isTree_513 rfl (lv_at hl 8 rfl) ?_
              refine lv_iconst (v := nI 1) hx hb dL_isTree_514 (by decide) ?_
              refine oq_count (G := (fun _ => True)) (rest := [.int (nI (sm (rnM T k n) (dbM T k n)))]) ⟨hx, hb, hml, hown, hts⟩ hK hN hA hFA1 hP trivial (fun _ _ _ q => q) hS (v := 1) (by decide) (by decide) (cwV 1 hts gL_isTree_X4_count rfl rfl rfl (by decide +kernel) ⟨by rw [hR]; decide, by rw [hR]; decide⟩) hl.1 rfl (Nat.le_of_ble_eq_true rfl) dL_isTree_515 ⟨Nat.zero_le _, Nat.zero_le _⟩ (fun H locs hP hD hS => ?_)
              refine rk_ev (show _ = nI k from cnA_1) ?_
              refine lv_iload_n hx hb dL_isTree_518 rfl (lv_at hl 9 rfl) ?_
              refine lv_isub hx hb dL_isTree_519 ?_
              refine lv_aload_n hx hb dL_isTree_520 rfl (lv_at hl 8 rfl) ?_
              refine lv_iconst (v := nI 2) hx hb dL_isTree_521 (by decide) ?_
              refine oq_count (G := (fun _ => True)) (rest := [.int ((nI k) - (nI n)), .int (nI (sm (rnM T k n) (dbM T k n)))]) ⟨hx, hb, hml, hown, hts⟩ hK hN hA hFA1 hP trivial (fun _ _ _ q => q) hS (v := 2) (by decide) (by decide) (cwV 1 hts gL_isTree_X4_count rfl rfl rfl (by decide +kernel) ⟨by rw [hR]; decide, by rw [hR]; decide⟩) hl.1 rfl (Nat.le_of_ble_eq_true rfl) dL_isTree_522 ⟨Nat.zero_le _, Nat.zero_le _⟩ (fun H locs hP hD hS => ?_)
              refine rk_ev (show _ = nI (piM T k n) from cnA_2) ?_
              refine lv_iadd hx hb dL_isTree_525 ?_
              refine lv_icmp_ne (tgt := 562) hx hb dL_isTree_526 (by decide) (fun q => absurd (ring_int hT) q) (fun zc526 => ?_)
              refine lv_iload hx hb dL_isTree_529 (lv_at hl 3 rfl) ?_
              refine lv_iload hx hb dL_isTree_531 (lv_at hl 2 rfl) ?_
              refine rk_iaddN hx hb dL_isTree_533 ?_
              refine lv_aload_n hx hb dL_isTree_534 rfl (lv_at hl 8 rfl) ?_
              refine lv_bipush (v := nI 7) hx hb dL_isTree_535 (by decide) ?_
              refine oq_count (G := (fun _ => True)) (rest := [.int (nI ((sm (fun i9 => lwN T (sqM T k n i9) k) (dbM T k n)) + (sm (fun i9 => if ptM T k i9 = true then mln T i9 else 0) k)))]) ⟨hx, hb, hml, hown, hts⟩ hK hN hA hFA1 hP trivial (fun _ _ _ q => q) hS (v := 7) (by decide) (by decide) (cwV 1 hts gL_isTree_X4_count rfl rfl rfl (by decide +kernel) ⟨by rw [hR]; decide, by rw [hR]; decide⟩) hl.1 rfl (Nat.le_of_ble_eq_true rfl) dL_isTree_537 ⟨Nat.zero_le _, Nat.zero_le _⟩ (fun H locs hP hD hS => ?_)
              refine rk_ev (show _ = nI (sm (mln T) k) from cn_7 hT) ?_
              refine rk_neN (tgt := 562) hx hb (by omega) (by omega) dL_isTree_540 (by decide) (fun q => absurd hsl q) (fun zc540 => ?_)
              refine lv_aload_n hx hb dL_isTree_543 rfl (lv_at hl 8 rfl) ?_
              refine lv_iconst (v := nI 2) hx hb dL_isTree_544 (by decide) ?_
              refine oq_best (G := (fun _ => True)) (rest := []) ⟨hx, hb, hml, hown, hts⟩ hK hN hA hFA1 hP trivial (fun _ _ _ q => q) hS  (cwV 1 hts gL_isTree_X4_bestBuilt rfl rfl rfl (by decide +kernel) ⟨by rw [hR]; decide, by rw [hR]; decide⟩) hl.1 rfl (Nat.le_of_ble_eq_true rfl) dL_isTree_545 ⟨Nat.zero_le _, Nat.zero_le _⟩ (fun H locs hP hD hS => ?_)
              refine lv_aload_n hx hb dL_isTree_548 rfl (lv_at hl 8 rfl) ?_
              refine lv_iconst (v := nI 3) hx hb dL_isTree_549 (by decide) ?_
              refine oq_count (G := (fun _ => True)) (rest := [.int (bbM T k n)]) ⟨hx, hb, hml, hown, hts⟩ hK hN hA hFA1 hP trivial (fun _ _ _ q => q) hS (v := 3) (by decide) (by decide) (cwV 1 hts gL_isTree_X4_count rfl rfl rfl (by decide +kernel) ⟨by rw [hR]; decide, by rw [hR]; decide⟩) hl.1 rfl (Nat.le_of_ble_eq_true rfl) dL_isTree_550 ⟨Nat.zero_le _, Nat.zero_le _⟩ (fun H locs hP hD hS => ?_)
              refine rk_ev (show _ = nI (popc (pgM T k k)) from cnA_3) ?_
              refine lv_iconst (v := nI 1) hx hb dL_isTree_553 (by decide) ?_
              refine rk_iaddN hx hb dL_isTree_554 ?_
              refine lv_icmp_gt (tgt := 562) hx hb dL_isTree_555 (by decide) (fun q => absurd (bb_le hT) (Int32.not_le.mpr q)) (fun zc555 => ?_)
              refine lv_iconst (v := nI 1) hx hb dL_isTree_558 (by decide) ?_
              refine lv_goto (tgt := 563) hx hb dL_isTree_559 (by decide) ?_
              exact rx_z hQ hx hb hr hlocks hP hS dL_isTree_563 nz_1 rfl
            · refine lv_iload hx hb dL_isTree_247 (lv_at hl 1 rfl) ?_
              refine lv_if_eq (tgt := 485) hx hb dL_isTree_249 (by decide) (fun q => absurd q (by decide)) (fun _ => ?_)
              have hab9 := hT.ab r zc244
              have hln := (hT.ln zc244).2
              have hpl := pl_pos hT zc244
              obtain ⟨w9, hw9, ew9⟩ := wy_road hT zc244
              have hd1 := dl_lt hT hab9.1
              have hd2 := dl_lt hT hab9.2
              rcases b_or2 (ptM T k r) with hpt | hpt
              · skip
                refine lv_aload_n hx hb dL_isTree_252 rfl (lv_at hl 8 rfl) ?_
                refine lv_iload hx hb dL_isTree_253 (lv_at hl 0 rfl) ?_
                refine lv_iconst (v := nI 0) hx hb dL_isTree_255 (by decide) ?_
                refine oq_road (G := (fun _ => True)) (rest := []) ⟨hx, hb, hml, hown, hts⟩ hK hN hA hFA1 hP trivial (fun _ _ _ q => q) hS (r := r) (v := 0) (by omega) (cwV 2 hts gL_isTree_X4_road rfl rfl rfl (by decide +kernel) ⟨by rw [hR]; decide, by rw [hR]; decide⟩) hl.1 rfl (Nat.le_of_ble_eq_true rfl) dL_isTree_256 ⟨Nat.zero_le _, Nat.zero_le _⟩ (fun H locs hP hD hS => ?_)
                refine rk_ev (show _ = nI (mlo T r) from rdA_0) ?_
                refine lv_istore (lv' := [(10, .int (nI (mlo T r))), (9, .int (nI r)), (8, .int (nI 1)), (7, .int (nI (sm (fun i9 => if ptM T k i9 = true then mln T i9 else 0) r))), (6, .int (nI (sm (fun i9 => lwN T (sqM T k n i9) k) (dbM T k n)))), (5, .int (unF T k n (dbM T k n))), (4, .int (nI (sm (fun i9 => roM T (sqM T k n i9) k) (dbM T k n)))), (3, .int (nI (sm (rnM T k n) (dbM T k n)))), (2, .int (nI (dbM T k n))), (0, .ref (ad1 0)), (1, .int (nI n))]) hx hb dL_isTree_259 hl (by decide) rfl (fun ls hl => ?_)
                refine lv_aload_n hx hb dL_isTree_261 rfl (lv_at hl 9 rfl) ?_
                refine lv_iload hx hb dL_isTree_262 (lv_at hl 1 rfl) ?_
                refine lv_iconst (v := nI 1) hx hb dL_isTree_264 (by decide) ?_
                refine oq_road (G := (fun _ => True)) (rest := []) ⟨hx, hb, hml, hown, hts⟩ hK hN hA hFA1 hP trivial (fun _ _ _ q => q) hS (r := r) (v := 1) (by omega) (cwV 2 hts gL_isTree_X4_road rfl rfl rfl (by decide +kernel) ⟨by rw [hR]; decide, by rw [hR]; decide⟩) hl.1 rfl (Nat.le_of_ble_eq_true rfl) dL_isTree_265 ⟨Nat.zero_le _, Nat.zero_le _⟩ (fun H locs hP hD hS => ?_)
                refine rk_ev (show _ = nI (mhi T r) from rdA_1) ?_
                refine lv_istore (lv' := [(11, .int (nI (mhi T r))), (10, .int (nI (mlo T r))), (9, .int (nI r)), (8, .int (nI 1)), (7, .int (nI (sm (fun i9 => if ptM T k i9 = true then mln T i9 else 0) r))), (6, .int (nI (sm (fun i9 => lwN T (sqM T k n i9) k) (dbM T k n)))), (5, .int (unF T k n (dbM T k n))), (4, .int (nI (sm (fun i9 => roM T (sqM T k n i9) k) (dbM T k n)))), (3, .int (nI (sm (rnM T k n) (dbM T k n)))), (2, .int (nI (dbM T k n))), (0, .ref (ad1 0)), (1, .int (nI n))]) hx hb dL_isTree_268 hl (by decide) rfl (fun ls hl => ?_)
                refine lv_aload_n hx hb dL_isTree_270 rfl (lv_at hl 10 rfl) ?_
                refine lv_iload hx hb dL_isTree_271 (lv_at hl 2 rfl) ?_
                refine lv_iconst (v := nI 3) hx hb dL_isTree_273 (by decide) ?_
                refine oq_road (G := (fun _ => True)) (rest := []) ⟨hx, hb, hml, hown, hts⟩ hK hN hA hFA1 hP trivial (fun _ _ _ q => q) hS (r := r) (v := 3) (by omega) (cwV 2 hts gL_isTree_X4_road rfl rfl rfl (by decide +kernel) ⟨by rw [hR]; decide, by rw [hR]; decide⟩) hl.1 rfl (Nat.le_of_ble_eq_true rfl) dL_isTree_274 ⟨Nat.zero_le _, Nat.zero_le _⟩ (fun H locs hP hD hS => ?_)
                refine rk_ev (show _ = nI 1 from rdA_3.trans (by rw [hpt]; rfl)) ?_
                refine lv_iconst (v := nI 1) hx hb dL_isTree_277 (by decide) ?_
                refine rk_neN (tgt := 285) hx hb (by omega) (by omega) dL_isTree_278 (by decide) (fun q => absurd q (by decide)) (fun _ => ?_)
                refine lv_iconst (v := nI 1) hx hb dL_isTree_281 (by decide) ?_
                refine lv_goto (tgt := 286) hx hb dL_isTree_282 (by decide) ?_
                refine lv_istore (lv' := [(12, .int (nI 1)), (11, .int (nI (mhi T r))), (10, .int (nI (mlo T r))), (9, .int (nI r)), (8, .int (nI 1)), (7, .int (nI (sm (fun i9 => if ptM T k i9 = true then mln T i9 else 0) r))), (6, .int (nI (sm (fun i9 => lwN T (sqM T k n i9) k) (dbM T k n)))), (5, .int (unF T k n (dbM T k n))), (4, .int (nI (sm (fun i9 => roM T (sqM T k n i9) k) (dbM T k n)))), (3, .int (nI (sm (rnM T k n) (dbM T k n)))), (2, .int (nI (dbM T k n))), (0, .ref (ad1 0)), (1, .int (nI n))]) hx hb dL_isTree_286 hl (by decide) rfl (fun ls hl => ?_)
                refine lv_iload hx hb dL_isTree_288 (lv_at hl 5 rfl) ?_
                refine lv_iload hx hb dL_isTree_290 (lv_at hl 0 rfl) ?_
                refine lv_if_eq (tgt := 305) hx hb dL_isTree_292 (by decide) (fun q => absurd q (by decide)) (fun _ => ?_)
                refine lv_aload_n hx hb dL_isTree_295 rfl (lv_at hl 11 rfl) ?_
                refine lv_iload hx hb dL_isTree_296 (lv_at hl 3 rfl) ?_
                refine lv_iconst (v := nI 2) hx hb dL_isTree_298 (by decide) ?_
                refine oq_road (G := (fun _ => True)) (rest := [.int (nI (sm (fun i9 => if ptM T k i9 = true then mln T i9 else 0) r))]) ⟨hx, hb, hml, hown, hts⟩ hK hN hA hFA1 hP trivial (fun _ _ _ q => q) hS (r := r) (v := 2) (by omega) (cwV 2 hts gL_isTree_X4_road rfl rfl rfl (by decide +kernel) ⟨by rw [hR]; decide, by rw [hR]; decide⟩) hl.1 rfl (Nat.le_of_ble_eq_true rfl) dL_isTree_299 ⟨Nat.zero_le _, Nat.zero_le _⟩ (fun H locs hP hD hS => ?_)
                refine rk_ev (show _ = nI (mln T r) from rdA_2.trans (ln_T hT (by omega))) ?_
                refine lv_goto (tgt := 306) hx hb dL_isTree_302 (by decide) ?_
                refine rk_iaddN hx hb dL_isTree_306 ?_
                refine rk_ev (congrArg nI (pS_t hpt)) ?_
                refine lv_istore (lv' := [(7, .int (nI (sm (fun i9 => if ptM T k i9 = true then mln T i9 else 0) (r + 1)))), (12, .int (nI 1)), (11, .int (nI (mhi T r))), (10, .int (nI (mlo T r))), (9, .int (nI r)), (8, .int (nI 1)), (6, .int (nI (sm (fun i9 => lwN T (sqM T k n i9) k) (dbM T k n)))), (5, .int (unF T k n (dbM T k n))), (4, .int (nI (sm (fun i9 => roM T (sqM T k n i9) k) (dbM T k n)))), (3, .int (nI (sm (rnM T k n) (dbM T k n)))), (2, .int (nI (dbM T k n))), (0, .ref (ad1 0)), (1, .int (nI n))]) hx hb dL_isTree_307 hl (by decide) rfl (fun ls hl => ?_)
                refine lv_iload hx hb dL_isTree_309 (lv_at hl 1 rfl) ?_
                refine lv_aload_n hx hb dL_isTree_311 rfl (lv_at hl 11 rfl) ?_
                refine lv_iload hx hb dL_isTree_312 (lv_at hl 3 rfl) ?_
                refine lv_iconst (v := nI 2) hx hb dL_isTree_314 (by decide) ?_
                refine oq_square (G := (fun _ => True)) (rest := [.int (nI 1)]) ⟨hx, hb, hml, hown, hts⟩ hK hN hA hFA1 hP trivial (fun _ _ _ q => q) hS (x := mlo T r) (v := 2) (by omega) (cwV 2 hts gL_isTree_X4_square rfl rfl rfl (by decide +kernel) ⟨by rw [hR]; decide, by rw [hR]; decide⟩) hl.1 rfl (Nat.le_of_ble_eq_true rfl) dL_isTree_315 ⟨Nat.zero_le _, Nat.zero_le _⟩ (fun H locs hP hD hS => ?_)
                refine rk_ev (show _ = nI (dtM T k (mlo T r)) from sqA_2) ?_
                refine lv_aload_n hx hb dL_isTree_318 rfl (lv_at hl 11 rfl) ?_
                refine lv_iload hx hb dL_isTree_319 (lv_at hl 2 rfl) ?_
                refine lv_iconst (v := nI 2) hx hb dL_isTree_321 (by decide) ?_
                refine oq_square (G := (fun _ => True)) (rest := [.int (nI (dtM T k (mlo T r))), .int (nI 1)]) ⟨hx, hb, hml, hown, hts⟩ hK hN hA hFA1 hP trivial (fun _ _ _ q => q) hS (x := mhi T r) (v := 2) (by omega) (cwV 2 hts gL_isTree_X4_square rfl rfl rfl (by decide +kernel) ⟨by rw [hR]; decide, by rw [hR]; decide⟩) hl.1 rfl (Nat.le_of_ble_eq_true rfl) dL_isTree_322 ⟨Nat.zero_le _, Nat.zero_le _⟩ (fun H locs hP hD hS => ?_)
                refine rk_ev (show _ = nI (dtM T k (mhi T r)) from sqA_2) ?_
                refine rk_eqN (tgt := 332) hx hb (by omega) (by omega) dL_isTree_325 (by decide) (fun q => absurd ((dt_pt hT zc244).mp q) (by rw [hpt]; decide)) (fun zc325 => ?_)
                refine lv_iconst (v := nI 1) hx hb dL_isTree_328 (by decide) ?_
                refine lv_goto (tgt := 333) hx hb dL_isTree_329 (by decide) ?_
                refine rk_neN (tgt := 476) hx hb (by omega) (by omega) dL_isTree_333 (by decide) (fun q => absurd q (by decide)) (fun _ => ?_)
                refine lv_aload_n hx hb dL_isTree_336 rfl (lv_at hl 11 rfl) ?_
                refine lv_iload hx hb dL_isTree_337 (lv_at hl 4 rfl) ?_
                refine lv_iconst (v := nI 5) hx hb dL_isTree_339 (by decide) ?_
                refine oq_road (G := (fun _ => True)) (rest := []) ⟨hx, hb, hml, hown, hts⟩ hK hN hA hFA1 hP trivial (fun _ _ _ q => q) hS (r := r) (v := 5) (by omega) (cwV 2 hts gL_isTree_X4_road rfl rfl rfl (by decide +kernel) ⟨by rw [hR]; decide, by rw [hR]; decide⟩) hl.1 rfl (Nat.le_of_ble_eq_true rfl) dL_isTree_340 ⟨Nat.zero_le _, Nat.zero_le _⟩ (fun H locs hP hD hS => ?_)
                refine rk_ev (show _ = nI (plM T k r) from rdA_5) ?_
                refine rk_if_leN (tgt := 350) hx hb (by omega) dL_isTree_343 (by decide) (fun q => absurd (hpl.1.mpr hpt) (by omega)) (fun zc343 => ?_)
                refine lv_iconst (v := nI 1) hx hb dL_isTree_346 (by decide) ?_
                refine lv_goto (tgt := 351) hx hb dL_isTree_347 (by decide) ?_
                refine lv_iload hx hb dL_isTree_351 (lv_at hl 1 rfl) ?_
                refine rk_neN (tgt := 476) hx hb (by omega) (by omega) dL_isTree_353 (by decide) (fun q => absurd q (by decide)) (fun _ => ?_)
                refine lv_iload hx hb dL_isTree_356 (lv_at hl 1 rfl) ?_
                refine lv_if_eq (tgt := 376) hx hb dL_isTree_358 (by decide) (fun q => absurd q (by decide)) (fun _ => ?_)
                refine lv_aload_n hx hb dL_isTree_361 rfl (lv_at hl 11 rfl) ?_
                refine lv_iload hx hb dL_isTree_362 (lv_at hl 4 rfl) ?_
                refine lv_iconst (v := nI 4) hx hb dL_isTree_364 (by decide) ?_
                refine oq_road (G := (fun _ => True)) (rest := []) ⟨hx, hb, hml, hown, hts⟩ hK hN hA hFA1 hP trivial (fun _ _ _ q => q) hS (r := r) (v := 4) (by omega) (cwV 2 hts gL_isTree_X4_road rfl rfl rfl (by decide +kernel) ⟨by rw [hR]; decide, by rw [hR]; decide⟩) hl.1 rfl (Nat.le_of_ble_eq_true rfl) dL_isTree_365 ⟨Nat.zero_le _, Nat.zero_le _⟩ (fun H locs hP hD hS => ?_)
                refine rk_ev (show _ = (-6) from rdA_4.trans (rg_t hT (by omega) hpt)) ?_
                refine lv_bipush (v := (-6)) hx hb dL_isTree_368 (by decide) ?_
                refine lv_icmp_ne (tgt := 476) hx hb dL_isTree_370 (by decide) (fun q => absurd q (by decide)) (fun _ => ?_)
                refine lv_goto (tgt := 398) hx hb dL_isTree_373 (by decide) ?_
                refine lv_aload_n hx hb dL_isTree_398 rfl (lv_at hl 11 rfl) ?_
                refine lv_iload hx hb dL_isTree_399 (lv_at hl 3 rfl) ?_
                refine lv_iload hx hb dL_isTree_401 (lv_at hl 2 rfl) ?_
                refine lv_iconst (v := nI 0) hx hb dL_isTree_403 (by decide) ?_
                refine oq_way0 (G := (fun _ => True)) (rest := []) ⟨hx, hb, hml, hown, hts⟩ hK hN hA hFA1 hP trivial (fun _ _ _ q => q) hS (x := mlo T r) (y := mhi T r) (by omega) (by omega) (cwV 3 hts gL_isTree_X4_way rfl rfl rfl (by decide +kernel) ⟨by rw [hR]; decide, by rw [hR]; decide⟩) hl.1 rfl (Nat.le_of_ble_eq_true rfl) dL_isTree_404 ⟨Nat.zero_le _, Nat.zero_le _⟩ (fun H locs hP hD hS => ?_)
                refine rk_ev (show _ = nI w9 from ew9) ?_
                refine lv_aload_n hx hb dL_isTree_407 rfl (lv_at hl 11 rfl) ?_
                refine lv_iload hx hb dL_isTree_408 (lv_at hl 4 rfl) ?_
                refine lv_iconst (v := nI 2) hx hb dL_isTree_410 (by decide) ?_
                refine oq_road (G := (fun _ => True)) (rest := [.int (nI w9)]) ⟨hx, hb, hml, hown, hts⟩ hK hN hA hFA1 hP trivial (fun _ _ _ q => q) hS (r := r) (v := 2) (by omega) (cwV 2 hts gL_isTree_X4_road rfl rfl rfl (by decide +kernel) ⟨by rw [hR]; decide, by rw [hR]; decide⟩) hl.1 rfl (Nat.le_of_ble_eq_true rfl) dL_isTree_411 ⟨Nat.zero_le _, Nat.zero_le _⟩ (fun H locs hP hD hS => ?_)
                refine rk_ev (show _ = nI (mln T r) from rdA_2.trans (ln_T hT (by omega))) ?_
                refine rk_gtN (tgt := 476) hx hb (by omega) (by omega) dL_isTree_414 (by decide) (fun q => absurd q (by omega)) (fun zc414 => ?_)
                refine lv_iload hx hb dL_isTree_417 (lv_at hl 1 rfl) ?_
                refine lv_if_eq (tgt := 472) hx hb dL_isTree_419 (by decide) (fun q => absurd q (by decide)) (fun _ => ?_)
                refine lv_aload_n hx hb dL_isTree_422 rfl (lv_at hl 11 rfl) ?_
                refine lv_iload hx hb dL_isTree_423 (lv_at hl 3 rfl) ?_
                refine lv_iload hx hb dL_isTree_425 (lv_at hl 4 rfl) ?_
                refine oq_cut (G := (fun _ => True)) (rest := []) ⟨hx, hb, hml, hown, hts⟩ hK hN hA hFA1 hP trivial (fun _ _ _ q => q) hS (x := mlo T r) (r := r) (by omega) (by omega) (cwV 2 hts gL_isTree_X4_cutOff rfl rfl rfl (by decide +kernel) ⟨by rw [hR]; decide, by rw [hR]; decide⟩) hl.1 rfl (Nat.le_of_ble_eq_true rfl) dL_isTree_427 ⟨Nat.zero_le _, Nat.zero_le _⟩ (fun H locs hP hD hS => ?_)
                refine lv_iload hx hb dL_isTree_430 (lv_at hl 2 rfl) ?_
                refine lv_ishr hx hb dL_isTree_432 ?_
                refine lv_iconst (v := nI 1) hx hb dL_isTree_433 (by decide) ?_
                refine lv_iand hx hb dL_isTree_434 ?_
                refine lv_iconst (v := nI 1) hx hb dL_isTree_435 (by decide) ?_
                refine lv_icmp_ne (tgt := 476) hx hb dL_isTree_436 (by decide) (fun q => absurd (ct_bit hT zc244 hpt) q) (fun zc436 => ?_)
                refine lv_aload_n hx hb dL_isTree_439 rfl (lv_at hl 11 rfl) ?_
                refine lv_iload hx hb dL_isTree_440 (lv_at hl 3 rfl) ?_
                refine lv_iload hx hb dL_isTree_442 (lv_at hl 4 rfl) ?_
                refine oq_cut (G := (fun _ => True)) (rest := []) ⟨hx, hb, hml, hown, hts⟩ hK hN hA hFA1 hP trivial (fun _ _ _ q => q) hS (x := mlo T r) (r := r) (by omega) (by omega) (cwV 2 hts gL_isTree_X4_cutOff rfl rfl rfl (by decide +kernel) ⟨by rw [hR]; decide, by rw [hR]; decide⟩) hl.1 rfl (Nat.le_of_ble_eq_true rfl) dL_isTree_444 ⟨Nat.zero_le _, Nat.zero_le _⟩ (fun H locs hP hD hS => ?_)
                refine kX_0 (G := (fun H => OI E F1 ad1 n hc k T kk HA H ∧ True)) (E := E) (As := [.int (ctM T k (mlo T r) r)]) (rest := []) ⟨hx, hb, hml, hown, hts⟩ (c_L_bits (l := l) (E := E) (sz := _) (x := ctM T k (mlo T r) r) ) (cwS 1 hts gL_isTree_L_bits rfl rfl rfl (by decide +kernel) ⟨by rw [hR]; decide, by rw [hR]; decide⟩) hK hN ⟨hP, hD⟩ (fun _ _ hfr q => ⟨q.1.kept (fun _ _ z => z) hfr, trivial⟩) hS hA rfl hl.1 rfl (Nat.le_of_ble_eq_true rfl) dL_isTree_447 ⟨Nat.zero_le _, Nat.zero_le _⟩ (fun H locs hG hS => ?_)
                obtain ⟨hP, hD⟩ := hG
                refine lv_aload_n hx hb dL_isTree_450 rfl (lv_at hl 11 rfl) ?_
                refine lv_iload hx hb dL_isTree_451 (lv_at hl 2 rfl) ?_
                refine lv_iload hx hb dL_isTree_453 (lv_at hl 4 rfl) ?_
                refine oq_cut (G := (fun _ => True)) (rest := [.int (nI (bsF (ctM T k (mlo T r) r) 16))]) ⟨hx, hb, hml, hown, hts⟩ hK hN hA hFA1 hP trivial (fun _ _ _ q => q) hS (x := mhi T r) (r := r) (by omega) (by omega) (cwV 2 hts gL_isTree_X4_cutOff rfl rfl rfl (by decide +kernel) ⟨by rw [hR]; decide, by rw [hR]; decide⟩) hl.1 rfl (Nat.le_of_ble_eq_true rfl) dL_isTree_455 ⟨Nat.zero_le _, Nat.zero_le _⟩ (fun H locs hP hD hS => ?_)
                refine kX_0 (G := (fun H => OI E F1 ad1 n hc k T kk HA H ∧ True)) (E := E) (As := [.int (ctM T k (mhi T r) r)]) (rest := [.int (nI (bsF (ctM T k (mlo T r) r) 16))]) ⟨hx, hb, hml, hown, hts⟩ (c_L_bits (l := l) (E := E) (sz := _) (x := ctM T k (mhi T r) r) ) (cwS 1 hts gL_isTree_L_bits rfl rfl rfl (by decide +kernel) ⟨by rw [hR]; decide, by rw [hR]; decide⟩) hK hN ⟨hP, hD⟩ (fun _ _ hfr q => ⟨q.1.kept (fun _ _ z => z) hfr, trivial⟩) hS hA rfl hl.1 rfl (Nat.le_of_ble_eq_true rfl) dL_isTree_458 ⟨Nat.zero_le _, Nat.zero_le _⟩ (fun H locs hG hS => ?_)
                obtain ⟨hP, hD⟩ := hG
                refine rk_imulN hx hb dL_isTree_461 ?_
                refine lv_aload_n hx hb dL_isTree_462 rfl (lv_at hl 11 rfl) ?_
                refine lv_iload hx hb dL_isTree_463 (lv_at hl 4 rfl) ?_
                refine lv_iconst (v := nI 5) hx hb dL_isTree_465 (by decide) ?_
                refine oq_road (G := (fun _ => True)) (rest := [.int (nI ((bsF (ctM T k (mlo T r) r) 16) * (bsF (ctM T k (mhi T r) r) 16)))]) ⟨hx, hb, hml, hown, hts⟩ hK hN hA hFA1 hP trivial (fun _ _ _ q => q) hS (r := r) (v := 5) (by omega) (cwV 2 hts gL_isTree_X4_road rfl rfl rfl (by decide +kernel) ⟨by rw [hR]; decide, by rw [hR]; decide⟩) hl.1 rfl (Nat.le_of_ble_eq_true rfl) dL_isTree_466 ⟨Nat.zero_le _, Nat.zero_le _⟩ (fun H locs hP hD hS => ?_)
                refine rk_ev (show _ = nI (plM T k r) from rdA_5) ?_
                refine lv_icmp_ne (tgt := 476) hx hb dL_isTree_469 (by decide) (fun q => absurd (congrArg nI (ct_mul hT zc244 hpt)) q) (fun zc469 => ?_)
                refine lv_iconst (v := nI 1) hx hb dL_isTree_472 (by decide) ?_
                refine lv_goto (tgt := 477) hx hb dL_isTree_473 (by decide) ?_
                refine lv_istore (lv' := [(8, .int (nI 1)), (7, .int (nI (sm (fun i9 => if ptM T k i9 = true then mln T i9 else 0) (r + 1)))), (12, .int (nI 1)), (11, .int (nI (mhi T r))), (10, .int (nI (mlo T r))), (9, .int (nI r)), (6, .int (nI (sm (fun i9 => lwN T (sqM T k n i9) k) (dbM T k n)))), (5, .int (unF T k n (dbM T k n))), (4, .int (nI (sm (fun i9 => roM T (sqM T k n i9) k) (dbM T k n)))), (3, .int (nI (sm (rnM T k n) (dbM T k n)))), (2, .int (nI (dbM T k n))), (0, .ref (ad1 0)), (1, .int (nI n))]) hx hb dL_isTree_477 hl (by decide) rfl (fun ls hl => ?_)
                refine lv_iinc (v := nI (r + 1)) (lv' := [(9, .int (nI (r + 1))), (8, .int (nI 1)), (7, .int (nI (sm (fun i9 => if ptM T k i9 = true then mln T i9 else 0) (r + 1)))), (12, .int (nI 1)), (11, .int (nI (mhi T r))), (10, .int (nI (mlo T r))), (6, .int (nI (sm (fun i9 => lwN T (sqM T k n i9) k) (dbM T k n)))), (5, .int (unF T k n (dbM T k n))), (4, .int (nI (sm (fun i9 => roM T (sqM T k n i9) k) (dbM T k n)))), (3, .int (nI (sm (rnM T k n) (dbM T k n)))), (2, .int (nI (dbM T k n))), (0, .ref (ad1 0)), (1, .int (nI n))]) hx hb dL_isTree_479 hl (k := 5) rfl (by rw [show Int32.ofInt 1 = nI 1 by decide]; exact nI_add _ _) (by decide) rfl (fun ls hl => ?_)
                refine lv_goto (tgt := 237) hx hb dL_isTree_482 (by decide) ?_
                exact ih237 (r + 1) (by first | assumption | omega | rfl) (by omega) _ _ hP hD hS ls (lv_sub hl [0, 1, 2, 6, 7, 8, 9, 10, 11, 12] rfl)
              · obtain ⟨t9, g1, g2, hrg⟩ := rg_f hT zc244 hpt
                refine lv_aload_n hx hb dL_isTree_252 rfl (lv_at hl 8 rfl) ?_
                refine lv_iload hx hb dL_isTree_253 (lv_at hl 0 rfl) ?_
                refine lv_iconst (v := nI 0) hx hb dL_isTree_255 (by decide) ?_
                refine oq_road (G := (fun _ => True)) (rest := []) ⟨hx, hb, hml, hown, hts⟩ hK hN hA hFA1 hP trivial (fun _ _ _ q => q) hS (r := r) (v := 0) (by omega) (cwV 2 hts gL_isTree_X4_road rfl rfl rfl (by decide +kernel) ⟨by rw [hR]; decide, by rw [hR]; decide⟩) hl.1 rfl (Nat.le_of_ble_eq_true rfl) dL_isTree_256 ⟨Nat.zero_le _, Nat.zero_le _⟩ (fun H locs hP hD hS => ?_)
                refine rk_ev (show _ = nI (mlo T r) from rdA_0) ?_
                refine lv_istore (lv' := [(10, .int (nI (mlo T r))), (9, .int (nI r)), (8, .int (nI 1)), (7, .int (nI (sm (fun i9 => if ptM T k i9 = true then mln T i9 else 0) r))), (6, .int (nI (sm (fun i9 => lwN T (sqM T k n i9) k) (dbM T k n)))), (5, .int (unF T k n (dbM T k n))), (4, .int (nI (sm (fun i9 => roM T (sqM T k n i9) k) (dbM T k n)))), (3, .int (nI (sm (rnM T k n) (dbM T k n)))), (2, .int (nI (dbM T k n))), (0, .ref (ad1 0)), (1, .int (nI n))]) hx hb dL_isTree_259 hl (by decide) rfl (fun ls hl => ?_)
                refine lv_aload_n hx hb dL_isTree_261 rfl (lv_at hl 9 rfl) ?_
                refine lv_iload hx hb dL_isTree_262 (lv_at hl 1 rfl) ?_
                refine lv_iconst (v := nI 1) hx hb dL_isTree_264 (by decide) ?_
                refine oq_road (G := (fun _ => True)) (rest := []) ⟨hx, hb, hml, hown, hts⟩ hK hN hA hFA1 hP trivial (fun _ _ _ q => q) hS (r := r) (v := 1) (by omega) (cwV 2 hts gL_isTree_X4_road rfl rfl rfl (by decide +kernel) ⟨by rw [hR]; decide, by rw [hR]; decide⟩) hl.1 rfl (Nat.le_of_ble_eq_true rfl) dL_isTree_265 ⟨Nat.zero_le _, Nat.zero_le _⟩ (fun H locs hP hD hS => ?_)
                refine rk_ev (show _ = nI (mhi T r) from rdA_1) ?_
                refine lv_istore (lv' := [(11, .int (nI (mhi T r))), (10, .int (nI (mlo T r))), (9, .int (nI r)), (8, .int (nI 1)), (7, .int (nI (sm (fun i9 => if ptM T k i9 = true then mln T i9 else 0) r))), (6, .int (nI (sm (fun i9 => lwN T (sqM T k n i9) k) (dbM T k n)))), (5, .int (unF T k n (dbM T k n))), (4, .int (nI (sm (fun i9 => roM T (sqM T k n i9) k) (dbM T k n)))), (3, .int (nI (sm (rnM T k n) (dbM T k n)))), (2, .int (nI (dbM T k n))), (0, .ref (ad1 0)), (1, .int (nI n))]) hx hb dL_isTree_268 hl (by decide) rfl (fun ls hl => ?_)
                refine lv_aload_n hx hb dL_isTree_270 rfl (lv_at hl 10 rfl) ?_
                refine lv_iload hx hb dL_isTree_271 (lv_at hl 2 rfl) ?_
                refine lv_iconst (v := nI 3) hx hb dL_isTree_273 (by decide) ?_
                refine oq_road (G := (fun _ => True)) (rest := []) ⟨hx, hb, hml, hown, hts⟩ hK hN hA hFA1 hP trivial (fun _ _ _ q => q) hS (r := r) (v := 3) (by omega) (cwV 2 hts gL_isTree_X4_road rfl rfl rfl (by decide +kernel) ⟨by rw [hR]; decide, by rw [hR]; decide⟩) hl.1 rfl (Nat.le_of_ble_eq_true rfl) dL_isTree_274 ⟨Nat.zero_le _, Nat.zero_le _⟩ (fun H locs hP hD hS => ?_)
                refine rk_ev (show _ = nI 0 from rdA_3.trans (by rw [hpt]; rfl)) ?_
                refine lv_iconst (v := nI 1) hx hb dL_isTree_277 (by decide) ?_
                refine rk_neN (tgt := 285) hx hb (by omega) (by omega) dL_isTree_278 (by decide) (fun _ => ?_) (fun q => absurd q (by decide))
                refine lv_iconst (v := nI 0) hx hb dL_isTree_285 (by decide) ?_
                refine lv_istore (lv' := [(12, .int (nI 0)), (11, .int (nI (mhi T r))), (10, .int (nI (mlo T r))), (9, .int (nI r)), (8, .int (nI 1)), (7, .int (nI (sm (fun i9 => if ptM T k i9 = true then mln T i9 else 0) r))), (6, .int (nI (sm (fun i9 => lwN T (sqM T k n i9) k) (dbM T k n)))), (5, .int (unF T k n (dbM T k n))), (4, .int (nI (sm (fun i9 => roM T (sqM T k n i9) k) (dbM T k n)))), (3, .int (nI (sm (rnM T k n) (dbM T k n)))), (2, .int (nI (dbM T k n))), (0, .ref (ad1 0)), (1, .int (nI n))]) hx hb dL_isTree_286 hl (by decide) rfl (fun ls hl => ?_)
                refine lv_iload hx hb dL_isTree_288 (lv_at hl 5 rfl) ?_
                refine lv_iload hx hb dL_isTree_290 (lv_at hl 0 rfl) ?_
                refine lv_if_eq (tgt := 305) hx hb dL_isTree_292 (by decide) (fun _ => ?_) (fun q => absurd q (by decide))
                refine lv_iconst (v := nI 0) hx hb dL_isTree_305 (by decide) ?_
                refine rk_iaddN hx hb dL_isTree_306 ?_
                refine rk_ev (congrArg nI (pS_f hpt)) ?_
                refine lv_istore (lv' := [(7, .int (nI (sm (fun i9 => if ptM T k i9 = true then mln T i9 else 0) (r + 1)))), (12, .int (nI 0)), (11, .int (nI (mhi T r))), (10, .int (nI (mlo T r))), (9, .int (nI r)), (8, .int (nI 1)), (6, .int (nI (sm (fun i9 => lwN T (sqM T k n i9) k) (dbM T k n)))), (5, .int (unF T k n (dbM T k n))), (4, .int (nI (sm (fun i9 => roM T (sqM T k n i9) k) (dbM T k n)))), (3, .int (nI (sm (rnM T k n) (dbM T k n)))), (2, .int (nI (dbM T k n))), (0, .ref (ad1 0)), (1, .int (nI n))]) hx hb dL_isTree_307 hl (by decide) rfl (fun ls hl => ?_)
                refine lv_iload hx hb dL_isTree_309 (lv_at hl 1 rfl) ?_
                refine lv_aload_n hx hb dL_isTree_311 rfl (lv_at hl 11 rfl) ?_
                refine lv_iload hx hb dL_isTree_312 (lv_at hl 3 rfl) ?_
                refine lv_iconst (v := nI 2) hx hb dL_isTree_314 (by decide) ?_
                refine oq_square (G := (fun _ => True)) (rest := [.int (nI 0)]) ⟨hx, hb, hml, hown, hts⟩ hK hN hA hFA1 hP trivial (fun _ _ _ q => q) hS (x := mlo T r) (v := 2) (by omega) (cwV 2 hts gL_isTree_X4_square rfl rfl rfl (by decide +kernel) ⟨by rw [hR]; decide, by rw [hR]; decide⟩) hl.1 rfl (Nat.le_of_ble_eq_true rfl) dL_isTree_315 ⟨Nat.zero_le _, Nat.zero_le _⟩ (fun H locs hP hD hS => ?_)
                refine rk_ev (show _ = nI (dtM T k (mlo T r)) from sqA_2) ?_
                refine lv_aload_n hx hb dL_isTree_318 rfl (lv_at hl 11 rfl) ?_
                refine lv_iload hx hb dL_isTree_319 (lv_at hl 2 rfl) ?_
                refine lv_iconst (v := nI 2) hx hb dL_isTree_321 (by decide) ?_
                refine oq_square (G := (fun _ => True)) (rest := [.int (nI (dtM T k (mlo T r))), .int (nI 0)]) ⟨hx, hb, hml, hown, hts⟩ hK hN hA hFA1 hP trivial (fun _ _ _ q => q) hS (x := mhi T r) (v := 2) (by omega) (cwV 2 hts gL_isTree_X4_square rfl rfl rfl (by decide +kernel) ⟨by rw [hR]; decide, by rw [hR]; decide⟩) hl.1 rfl (Nat.le_of_ble_eq_true rfl) dL_isTree_322 ⟨Nat.zero_le _, Nat.zero_le _⟩ (fun H locs hP hD hS => ?_)
                refine rk_ev (show _ = nI (dtM T k (mhi T r)) from sqA_2) ?_
                refine rk_eqN (tgt := 332) hx hb (by omega) (by omega) dL_isTree_325 (by decide) (fun zc325 => ?_) (fun q => absurd ((dt_pt hT zc244).mpr hpt) q)
                refine lv_iconst (v := nI 0) hx hb dL_isTree_332 (by decide) ?_
                refine rk_neN (tgt := 476) hx hb (by omega) (by omega) dL_isTree_333 (by decide) (fun q => absurd q (by decide)) (fun _ => ?_)
                refine lv_aload_n hx hb dL_isTree_336 rfl (lv_at hl 11 rfl) ?_
                refine lv_iload hx hb dL_isTree_337 (lv_at hl 4 rfl) ?_
                refine lv_iconst (v := nI 5) hx hb dL_isTree_339 (by decide) ?_
                refine oq_road (G := (fun _ => True)) (rest := []) ⟨hx, hb, hml, hown, hts⟩ hK hN hA hFA1 hP trivial (fun _ _ _ q => q) hS (r := r) (v := 5) (by omega) (cwV 2 hts gL_isTree_X4_road rfl rfl rfl (by decide +kernel) ⟨by rw [hR]; decide, by rw [hR]; decide⟩) hl.1 rfl (Nat.le_of_ble_eq_true rfl) dL_isTree_340 ⟨Nat.zero_le _, Nat.zero_le _⟩ (fun H locs hP hD hS => ?_)
                refine rk_ev (show _ = nI (plM T k r) from rdA_5) ?_
                refine rk_if_leN (tgt := 350) hx hb (by omega) dL_isTree_343 (by decide) (fun zc343 => ?_) (fun q => absurd (hpl.1.mp (by omega)) (by rw [hpt]; decide))
                refine lv_iconst (v := nI 0) hx hb dL_isTree_350 (by decide) ?_
                refine lv_iload hx hb dL_isTree_351 (lv_at hl 1 rfl) ?_
                refine rk_neN (tgt := 476) hx hb (by omega) (by omega) dL_isTree_353 (by decide) (fun q => absurd q (by decide)) (fun _ => ?_)
                refine lv_iload hx hb dL_isTree_356 (lv_at hl 1 rfl) ?_
                refine lv_if_eq (tgt := 376) hx hb dL_isTree_358 (by decide) (fun _ => ?_) (fun q => absurd q (by decide))
                refine lv_aload_n hx hb dL_isTree_376 rfl (lv_at hl 11 rfl) ?_
                refine lv_iload hx hb dL_isTree_377 (lv_at hl 4 rfl) ?_
                refine lv_iconst (v := nI 4) hx hb dL_isTree_379 (by decide) ?_
                refine oq_road (G := (fun _ => True)) (rest := []) ⟨hx, hb, hml, hown, hts⟩ hK hN hA hFA1 hP trivial (fun _ _ _ q => q) hS (r := r) (v := 4) (by omega) (cwV 2 hts gL_isTree_X4_road rfl rfl rfl (by decide +kernel) ⟨by rw [hR]; decide, by rw [hR]; decide⟩) hl.1 rfl (Nat.le_of_ble_eq_true rfl) dL_isTree_380 ⟨Nat.zero_le _, Nat.zero_le _⟩ (fun H locs hP hD hS => ?_)
                refine rk_ev (show _ = nI t9 from rdA_4.trans hrg) ?_
                refine lv_iconst (v := nI 2) hx hb dL_isTree_383 (by decide) ?_
                refine rk_ltN (tgt := 476) hx hb (by omega) (by omega) dL_isTree_384 (by decide) (fun q => absurd q (by omega)) (fun zc384 => ?_)
                refine lv_aload_n hx hb dL_isTree_387 rfl (lv_at hl 11 rfl) ?_
                refine lv_iload hx hb dL_isTree_388 (lv_at hl 4 rfl) ?_
                refine lv_iconst (v := nI 4) hx hb dL_isTree_390 (by decide) ?_
                refine oq_road (G := (fun _ => True)) (rest := []) ⟨hx, hb, hml, hown, hts⟩ hK hN hA hFA1 hP trivial (fun _ _ _ q => q) hS (r := r) (v := 4) (by omega) (cwV 2 hts gL_isTree_X4_road rfl rfl rfl (by decide +kernel) ⟨by rw [hR]; decide, by rw [hR]; decide⟩) hl.1 rfl (Nat.le_of_ble_eq_true rfl) dL_isTree_391 ⟨Nat.zero_le _, Nat.zero_le _⟩ (fun H locs hP hD hS => ?_)
                refine rk_ev (show _ = nI t9 from rdA_4.trans hrg) ?_
                refine lv_iload_n hx hb dL_isTree_394 rfl (lv_at hl 12 rfl) ?_
                refine rk_gtN (tgt := 476) hx hb (by omega) (by omega) dL_isTree_395 (by decide) (fun q => absurd q (by omega)) (fun zc395 => ?_)
                refine lv_aload_n hx hb dL_isTree_398 rfl (lv_at hl 11 rfl) ?_
                refine lv_iload hx hb dL_isTree_399 (lv_at hl 3 rfl) ?_
                refine lv_iload hx hb dL_isTree_401 (lv_at hl 2 rfl) ?_
                refine lv_iconst (v := nI 0) hx hb dL_isTree_403 (by decide) ?_
                refine oq_way0 (G := (fun _ => True)) (rest := []) ⟨hx, hb, hml, hown, hts⟩ hK hN hA hFA1 hP trivial (fun _ _ _ q => q) hS (x := mlo T r) (y := mhi T r) (by omega) (by omega) (cwV 3 hts gL_isTree_X4_way rfl rfl rfl (by decide +kernel) ⟨by rw [hR]; decide, by rw [hR]; decide⟩) hl.1 rfl (Nat.le_of_ble_eq_true rfl) dL_isTree_404 ⟨Nat.zero_le _, Nat.zero_le _⟩ (fun H locs hP hD hS => ?_)
                refine rk_ev (show _ = nI w9 from ew9) ?_
                refine lv_aload_n hx hb dL_isTree_407 rfl (lv_at hl 11 rfl) ?_
                refine lv_iload hx hb dL_isTree_408 (lv_at hl 4 rfl) ?_
                refine lv_iconst (v := nI 2) hx hb dL_isTree_410 (by decide) ?_
                refine oq_road (G := (fun _ => True)) (rest := [.int (nI w9)]) ⟨hx, hb, hml, hown, hts⟩ hK hN hA hFA1 hP trivial (fun _ _ _ q => q) hS (r := r) (v := 2) (by omega) (cwV 2 hts gL_isTree_X4_road rfl rfl rfl (by decide +kernel) ⟨by rw [hR]; decide, by rw [hR]; decide⟩) hl.1 rfl (Nat.le_of_ble_eq_true rfl) dL_isTree_411 ⟨Nat.zero_le _, Nat.zero_le _⟩ (fun H locs hP hD hS => ?_)
                refine rk_ev (show _ = nI (mln T r) from rdA_2.trans (ln_T hT (by omega))) ?_
                refine rk_gtN (tgt := 476) hx hb (by omega) (by omega) dL_isTree_414 (by decide) (fun q => absurd q (by omega)) (fun zc414 => ?_)
                refine lv_iload hx hb dL_isTree_417 (lv_at hl 1 rfl) ?_
                refine lv_if_eq (tgt := 472) hx hb dL_isTree_419 (by decide) (fun _ => ?_) (fun q => absurd q (by decide))
                refine lv_iconst (v := nI 1) hx hb dL_isTree_472 (by decide) ?_
                refine lv_goto (tgt := 477) hx hb dL_isTree_473 (by decide) ?_
                refine lv_istore (lv' := [(8, .int (nI 1)), (7, .int (nI (sm (fun i9 => if ptM T k i9 = true then mln T i9 else 0) (r + 1)))), (12, .int (nI 0)), (11, .int (nI (mhi T r))), (10, .int (nI (mlo T r))), (9, .int (nI r)), (6, .int (nI (sm (fun i9 => lwN T (sqM T k n i9) k) (dbM T k n)))), (5, .int (unF T k n (dbM T k n))), (4, .int (nI (sm (fun i9 => roM T (sqM T k n i9) k) (dbM T k n)))), (3, .int (nI (sm (rnM T k n) (dbM T k n)))), (2, .int (nI (dbM T k n))), (0, .ref (ad1 0)), (1, .int (nI n))]) hx hb dL_isTree_477 hl (by decide) rfl (fun ls hl => ?_)
                refine lv_iinc (v := nI (r + 1)) (lv' := [(9, .int (nI (r + 1))), (8, .int (nI 1)), (7, .int (nI (sm (fun i9 => if ptM T k i9 = true then mln T i9 else 0) (r + 1)))), (12, .int (nI 0)), (11, .int (nI (mhi T r))), (10, .int (nI (mlo T r))), (6, .int (nI (sm (fun i9 => lwN T (sqM T k n i9) k) (dbM T k n)))), (5, .int (unF T k n (dbM T k n))), (4, .int (nI (sm (fun i9 => roM T (sqM T k n i9) k) (dbM T k n)))), (3, .int (nI (sm (rnM T k n) (dbM T k n)))), (2, .int (nI (dbM T k n))), (0, .ref (ad1 0)), (1, .int (nI n))]) hx hb dL_isTree_479 hl (k := 5) rfl (by rw [show Int32.ofInt 1 = nI 1 by decide]; exact nI_add _ _) (by decide) rfl (fun ls hl => ?_)
                refine lv_goto (tgt := 237) hx hb dL_isTree_482 (by decide) ?_
                exact ih237 (r + 1) (by first | assumption | omega | rfl) (by omega) _ _ hP hD hS ls (lv_sub hl [0, 1, 2, 6, 7, 8, 9, 10, 11, 12] rfl)
        exact L237 ((k - 0) + 1) 0 (by first | assumption | omega | rfl) (Nat.lt_succ_self _) _ _ hP hD hS ls (lv_sub hl [0, 1, 2, 3, 4, 5, 6, 7, 8, 9] rfl)
      · refine lv_iload hx hb dL_isTree_70 (lv_at hl 1 rfl) ?_
        refine lv_if_eq (tgt := 234) hx hb dL_isTree_72 (by decide) (fun q => absurd q (by decide)) (fun _ => ?_)
        refine lv_aload_n hx hb dL_isTree_75 rfl (lv_at hl 8 rfl) ?_
        refine lv_iload hx hb dL_isTree_76 (lv_at hl 0 rfl) ?_
        refine lv_iconst (v := nI 0) hx hb dL_isTree_78 (by decide) ?_
        refine oq_district (G := (fun _ => True)) (rest := []) ⟨hx, hb, hml, hown, hts⟩ hK hN hA hFA1 hP trivial (fun _ _ _ q => q) hS (d := d) (v := 0) (by omega) (cwV 2 hts gL_isTree_X4_district rfl rfl rfl (by decide +kernel) ⟨by rw [hR]; decide, by rw [hR]; decide⟩) hl.1 rfl (Nat.le_of_ble_eq_true rfl) dL_isTree_79 ⟨Nat.zero_le _, Nat.zero_le _⟩ (fun H locs hP hD hS => ?_)
        refine rk_ev (show _ = sqM T k n d from dsA_0) ?_
        refine lv_istore (lv' := [(10, .int (sqM T k n d)), (9, .int (nI d)), (8, .int (nI 1)), (7, .int (nI 0)), (6, .int (nI (sm (fun i9 => lwN T (sqM T k n i9) k) d))), (5, .int (unF T k n d)), (4, .int (nI (sm (fun i9 => roM T (sqM T k n i9) k) d))), (3, .int (nI (sm (rnM T k n) d))), (2, .int (nI (dbM T k n))), (0, .ref (ad1 0)), (1, .int (nI n))]) hx hb dL_isTree_82 hl (by decide) rfl (fun ls hl => ?_)
        refine lv_iload hx hb dL_isTree_84 (lv_at hl 0 rfl) ?_
        refine lv_iload hx hb dL_isTree_86 (lv_at hl 0 rfl) ?_
        refine lv_ineg hx hb dL_isTree_88 ?_
        refine lv_iand hx hb dL_isTree_89 ?_
        refine lv_istore (lv' := [(11, .int ((sqM T k n d) &&& (-(sqM T k n d)))), (10, .int (sqM T k n d)), (9, .int (nI d)), (8, .int (nI 1)), (7, .int (nI 0)), (6, .int (nI (sm (fun i9 => lwN T (sqM T k n i9) k) d))), (5, .int (unF T k n d)), (4, .int (nI (sm (fun i9 => roM T (sqM T k n i9) k) d))), (3, .int (nI (sm (rnM T k n) d))), (2, .int (nI (dbM T k n))), (0, .ref (ad1 0)), (1, .int (nI n))]) hx hb dL_isTree_90 hl (by decide) rfl (fun ls hl => ?_)
        refine lv_iload hx hb dL_isTree_92 (lv_at hl 1 rfl) ?_
        refine lv_iload hx hb dL_isTree_94 (lv_at hl 6 rfl) ?_
        refine lv_iand hx hb dL_isTree_96 ?_
        refine lv_if_ne (tgt := 184) hx hb dL_isTree_97 (by decide) (fun q => absurd (un_and hT zc67) q) (fun zc97 => ?_)
        refine lv_iload hx hb dL_isTree_100 (lv_at hl 2 rfl) ?_
        refine rk_if_eqN (tgt := 130) hx hb (by omega) dL_isTree_102 (by decide) (fun zc102 => ?_) (fun zc102 => ?_)
        · have hrn := rn_eq hT zc67
          have hrw : rnM T k n d ≤ 31 := by have h1 := rw_b hT (sqM T k n d); have h2 := bcnt_le (fun r => bt (sqM T k n d) (mlo T r) && bt (sqM T k n d) (mhi T r)) k; unfold rnM; omega
          refine lv_aload_n hx hb dL_isTree_130 rfl (lv_at hl 10 rfl) ?_
          refine lv_iload hx hb dL_isTree_131 (lv_at hl 2 rfl) ?_
          refine lv_iconst (v := nI 3) hx hb dL_isTree_133 (by decide) ?_
          refine oq_district (G := (fun _ => True)) (rest := []) ⟨hx, hb, hml, hown, hts⟩ hK hN hA hFA1 hP trivial (fun _ _ _ q => q) hS (d := d) (v := 3) (by omega) (cwV 2 hts gL_isTree_X4_district rfl rfl rfl (by decide +kernel) ⟨by rw [hR]; decide, by rw [hR]; decide⟩) hl.1 rfl (Nat.le_of_ble_eq_true rfl) dL_isTree_134 ⟨Nat.zero_le _, Nat.zero_le _⟩ (fun H locs hP hD hS => ?_)
          refine rk_ev (show _ = nI (rnM T k n d) from ds_3 hT (by omega)) ?_
          refine rk_if_ltN (tgt := 184) hx hb (by omega) dL_isTree_137 (by decide) ?_
          refine lv_aload_n hx hb dL_isTree_140 rfl (lv_at hl 10 rfl) ?_
          refine lv_iload hx hb dL_isTree_141 (lv_at hl 2 rfl) ?_
          refine lv_iconst (v := nI 3) hx hb dL_isTree_143 (by decide) ?_
          refine oq_district (G := (fun _ => True)) (rest := []) ⟨hx, hb, hml, hown, hts⟩ hK hN hA hFA1 hP trivial (fun _ _ _ q => q) hS (d := d) (v := 3) (by omega) (cwV 2 hts gL_isTree_X4_district rfl rfl rfl (by decide +kernel) ⟨by rw [hR]; decide, by rw [hR]; decide⟩) hl.1 rfl (Nat.le_of_ble_eq_true rfl) dL_isTree_144 ⟨Nat.zero_le _, Nat.zero_le _⟩ (fun H locs hP hD hS => ?_)
          refine rk_ev (show _ = nI (rnM T k n d) from ds_3 hT (by omega)) ?_
          refine rk_if_gtN (tgt := 159) hx hb (by omega) dL_isTree_147 (by decide) (fun zc147 => ?_) (fun zc147 => ?_)
          · have hl1 := lwN_le hT (sqM T k n d)
            have hl2 := lwN_le hT (sqM T k n (lgM T k n))
            have hl3 := (lg_max hT).2 d zc67
            have hl4 := (lg_max hT).1
            refine lv_aload_n hx hb dL_isTree_159 rfl (lv_at hl 10 rfl) ?_
            refine lv_iload hx hb dL_isTree_160 (lv_at hl 2 rfl) ?_
            refine lv_iconst (v := nI 1) hx hb dL_isTree_162 (by decide) ?_
            refine oq_district (G := (fun _ => True)) (rest := []) ⟨hx, hb, hml, hown, hts⟩ hK hN hA hFA1 hP trivial (fun _ _ _ q => q) hS (d := d) (v := 1) (by omega) (cwV 2 hts gL_isTree_X4_district rfl rfl rfl (by decide +kernel) ⟨by rw [hR]; decide, by rw [hR]; decide⟩) hl.1 rfl (Nat.le_of_ble_eq_true rfl) dL_isTree_163 ⟨Nat.zero_le _, Nat.zero_le _⟩ (fun H locs hP hD hS => ?_)
            refine rk_ev (show _ = nI (lwN T (sqM T k n d) k) from ds_1 hT) ?_
            refine lv_aload_n hx hb dL_isTree_166 rfl (lv_at hl 10 rfl) ?_
            refine lv_aload_n hx hb dL_isTree_167 rfl (lv_at hl 10 rfl) ?_
            refine lv_bipush (v := nI 6) hx hb dL_isTree_168 (by decide) ?_
            refine oq_count (G := (fun _ => True)) (rest := [.ref (ad1 0), .int (nI (lwN T (sqM T k n d) k))]) ⟨hx, hb, hml, hown, hts⟩ hK hN hA hFA1 hP trivial (fun _ _ _ q => q) hS (v := 6) (by decide) (by decide) (cwV 1 hts gL_isTree_X4_count rfl rfl rfl (by decide +kernel) ⟨by rw [hR]; decide, by rw [hR]; decide⟩) hl.1 rfl (Nat.le_of_ble_eq_true rfl) dL_isTree_170 ⟨Nat.zero_le _, Nat.zero_le _⟩ (fun H locs hP hD hS => ?_)
            refine rk_ev (show _ = nI (lgM T k n) from cnA_6) ?_
            refine lv_iconst (v := nI 1) hx hb dL_isTree_173 (by decide) ?_
            refine oq_district (G := (fun _ => True)) (rest := [.int (nI (lwN T (sqM T k n d) k))]) ⟨hx, hb, hml, hown, hts⟩ hK hN hA hFA1 hP trivial (fun _ _ _ q => q) hS (d := lgM T k n) (v := 1) (by omega) (cwV 2 hts gL_isTree_X4_district rfl rfl rfl (by decide +kernel) ⟨by rw [hR]; decide, by rw [hR]; decide⟩) hl.1 rfl (Nat.le_of_ble_eq_true rfl) dL_isTree_174 ⟨Nat.zero_le _, Nat.zero_le _⟩ (fun H locs hP hD hS => ?_)
            refine rk_ev (show _ = nI (lwN T (sqM T k n (lgM T k n)) k) from ds_1 hT) ?_
            refine rk_gtN (tgt := 184) hx hb (by omega) (by omega) dL_isTree_177 (by decide) (fun q => absurd q (by omega)) (fun zc177 => ?_)
            refine lv_iconst (v := nI 1) hx hb dL_isTree_180 (by decide) ?_
            refine lv_goto (tgt := 185) hx hb dL_isTree_181 (by decide) ?_
            refine lv_istore (lv' := [(8, .int (nI 1)), (11, .int ((sqM T k n d) &&& (-(sqM T k n d)))), (10, .int (sqM T k n d)), (9, .int (nI d)), (7, .int (nI 0)), (6, .int (nI (sm (fun i9 => lwN T (sqM T k n i9) k) d))), (5, .int (unF T k n d)), (4, .int (nI (sm (fun i9 => roM T (sqM T k n i9) k) d))), (3, .int (nI (sm (rnM T k n) d))), (2, .int (nI (dbM T k n))), (0, .ref (ad1 0)), (1, .int (nI n))]) hx hb dL_isTree_185 hl (by decide) rfl (fun ls hl => ?_)
            refine lv_iload hx hb dL_isTree_187 (lv_at hl 6 rfl) ?_
            refine lv_iload hx hb dL_isTree_189 (lv_at hl 2 rfl) ?_
            refine lv_ior hx hb dL_isTree_191 ?_
            refine rk_ev (rfl) ?_
            refine lv_istore (lv' := [(5, .int (unF T k n (d + 1))), (8, .int (nI 1)), (11, .int ((sqM T k n d) &&& (-(sqM T k n d)))), (10, .int (sqM T k n d)), (9, .int (nI d)), (7, .int (nI 0)), (6, .int (nI (sm (fun i9 => lwN T (sqM T k n i9) k) d))), (4, .int (nI (sm (fun i9 => roM T (sqM T k n i9) k) d))), (3, .int (nI (sm (rnM T k n) d))), (2, .int (nI (dbM T k n))), (0, .ref (ad1 0)), (1, .int (nI n))]) hx hb dL_isTree_192 hl (by decide) rfl (fun ls hl => ?_)
            refine lv_iload_n hx hb dL_isTree_194 rfl (lv_at hl 8 rfl) ?_
            refine lv_aload_n hx hb dL_isTree_195 rfl (lv_at hl 10 rfl) ?_
            refine lv_iload hx hb dL_isTree_196 (lv_at hl 4 rfl) ?_
            refine lv_iconst (v := nI 3) hx hb dL_isTree_198 (by decide) ?_
            refine oq_district (G := (fun _ => True)) (rest := [.int (nI (sm (rnM T k n) d))]) ⟨hx, hb, hml, hown, hts⟩ hK hN hA hFA1 hP trivial (fun _ _ _ q => q) hS (d := d) (v := 3) (by omega) (cwV 2 hts gL_isTree_X4_district rfl rfl rfl (by decide +kernel) ⟨by rw [hR]; decide, by rw [hR]; decide⟩) hl.1 rfl (Nat.le_of_ble_eq_true rfl) dL_isTree_199 ⟨Nat.zero_le _, Nat.zero_le _⟩ (fun H locs hP hD hS => ?_)
            refine rk_ev (show _ = nI (rnM T k n d) from ds_3 hT (by omega)) ?_
            refine rk_iaddN hx hb dL_isTree_202 ?_
            refine rk_ev (rfl) ?_
            refine lv_istore_n (lv' := [(3, .int (nI (sm (rnM T k n) (d + 1)))), (5, .int (unF T k n (d + 1))), (8, .int (nI 1)), (11, .int ((sqM T k n d) &&& (-(sqM T k n d)))), (10, .int (sqM T k n d)), (9, .int (nI d)), (7, .int (nI 0)), (6, .int (nI (sm (fun i9 => lwN T (sqM T k n i9) k) d))), (4, .int (nI (sm (fun i9 => roM T (sqM T k n i9) k) d))), (2, .int (nI (dbM T k n))), (0, .ref (ad1 0)), (1, .int (nI n))]) hx hb dL_isTree_203 rfl hl (by decide) rfl (fun ls hl => ?_)
            refine lv_iload hx hb dL_isTree_204 (lv_at hl 8 rfl) ?_
            refine lv_aload_n hx hb dL_isTree_206 rfl (lv_at hl 10 rfl) ?_
            refine lv_iload hx hb dL_isTree_207 (lv_at hl 5 rfl) ?_
            refine lv_iconst (v := nI 2) hx hb dL_isTree_209 (by decide) ?_
            refine oq_district (G := (fun _ => True)) (rest := [.int (nI (sm (fun i9 => roM T (sqM T k n i9) k) d))]) ⟨hx, hb, hml, hown, hts⟩ hK hN hA hFA1 hP trivial (fun _ _ _ q => q) hS (d := d) (v := 2) (by omega) (cwV 2 hts gL_isTree_X4_district rfl rfl rfl (by decide +kernel) ⟨by rw [hR]; decide, by rw [hR]; decide⟩) hl.1 rfl (Nat.le_of_ble_eq_true rfl) dL_isTree_210 ⟨Nat.zero_le _, Nat.zero_le _⟩ (fun H locs hP hD hS => ?_)
            refine rk_ev (show _ = nI (roM T (sqM T k n d) k) from dsA_2) ?_
            refine rk_iaddN hx hb dL_isTree_213 ?_
            refine rk_ev (rfl) ?_
            refine lv_istore (lv' := [(4, .int (nI (sm (fun i9 => roM T (sqM T k n i9) k) (d + 1)))), (3, .int (nI (sm (rnM T k n) (d + 1)))), (5, .int (unF T k n (d + 1))), (8, .int (nI 1)), (11, .int ((sqM T k n d) &&& (-(sqM T k n d)))), (10, .int (sqM T k n d)), (9, .int (nI d)), (7, .int (nI 0)), (6, .int (nI (sm (fun i9 => lwN T (sqM T k n i9) k) d))), (2, .int (nI (dbM T k n))), (0, .ref (ad1 0)), (1, .int (nI n))]) hx hb dL_isTree_214 hl (by decide) rfl (fun ls hl => ?_)
            refine lv_iload hx hb dL_isTree_216 (lv_at hl 8 rfl) ?_
            refine lv_aload_n hx hb dL_isTree_218 rfl (lv_at hl 10 rfl) ?_
            refine lv_iload hx hb dL_isTree_219 (lv_at hl 6 rfl) ?_
            refine lv_iconst (v := nI 1) hx hb dL_isTree_221 (by decide) ?_
            refine oq_district (G := (fun _ => True)) (rest := [.int (nI (sm (fun i9 => lwN T (sqM T k n i9) k) d))]) ⟨hx, hb, hml, hown, hts⟩ hK hN hA hFA1 hP trivial (fun _ _ _ q => q) hS (d := d) (v := 1) (by omega) (cwV 2 hts gL_isTree_X4_district rfl rfl rfl (by decide +kernel) ⟨by rw [hR]; decide, by rw [hR]; decide⟩) hl.1 rfl (Nat.le_of_ble_eq_true rfl) dL_isTree_222 ⟨Nat.zero_le _, Nat.zero_le _⟩ (fun H locs hP hD hS => ?_)
            refine rk_ev (show _ = nI (lwN T (sqM T k n d) k) from ds_1 hT) ?_
            refine rk_iaddN hx hb dL_isTree_225 ?_
            refine rk_ev (rfl) ?_
            refine lv_istore (lv' := [(6, .int (nI (sm (fun i9 => lwN T (sqM T k n i9) k) (d + 1)))), (4, .int (nI (sm (fun i9 => roM T (sqM T k n i9) k) (d + 1)))), (3, .int (nI (sm (rnM T k n) (d + 1)))), (5, .int (unF T k n (d + 1))), (8, .int (nI 1)), (11, .int ((sqM T k n d) &&& (-(sqM T k n d)))), (10, .int (sqM T k n d)), (9, .int (nI d)), (7, .int (nI 0)), (2, .int (nI (dbM T k n))), (0, .ref (ad1 0)), (1, .int (nI n))]) hx hb dL_isTree_226 hl (by decide) rfl (fun ls hl => ?_)
            refine lv_iinc (v := nI (d + 1)) (lv' := [(9, .int (nI (d + 1))), (6, .int (nI (sm (fun i9 => lwN T (sqM T k n i9) k) (d + 1)))), (4, .int (nI (sm (fun i9 => roM T (sqM T k n i9) k) (d + 1)))), (3, .int (nI (sm (rnM T k n) (d + 1)))), (5, .int (unF T k n (d + 1))), (8, .int (nI 1)), (11, .int ((sqM T k n d) &&& (-(sqM T k n d)))), (10, .int (sqM T k n d)), (7, .int (nI 0)), (2, .int (nI (dbM T k n))), (0, .ref (ad1 0)), (1, .int (nI n))]) hx hb dL_isTree_228 hl (k := 7) rfl (by rw [show Int32.ofInt 1 = nI 1 by decide]; exact nI_add _ _) (by decide) rfl (fun ls hl => ?_)
            refine lv_goto (tgt := 64) hx hb dL_isTree_231 (by decide) ?_
            exact ih64 (d + 1) (by first | assumption | omega | rfl) (by omega) _ _ hP hD hS ls (lv_sub hl [0, 5, 8, 1, 4, 2, 3, 9, 10, 11] rfl)
          · have hb1 := bs_sq hT zc67 (by omega)
            refine lv_iload hx hb dL_isTree_150 (lv_at hl 1 rfl) ?_
            refine kX_0 (G := (fun H => OI E F1 ad1 n hc k T kk HA H ∧ True)) (E := E) (As := [.int (sqM T k n d)]) (rest := []) ⟨hx, hb, hml, hown, hts⟩ (c_L_bits (l := l) (E := E) (sz := _) (x := sqM T k n d) ) (cwS 1 hts gL_isTree_L_bits rfl rfl rfl (by decide +kernel) ⟨by rw [hR]; decide, by rw [hR]; decide⟩) hK hN ⟨hP, hD⟩ (fun _ _ hfr q => ⟨q.1.kept (fun _ _ z => z) hfr, trivial⟩) hS hA rfl hl.1 rfl (Nat.le_of_ble_eq_true rfl) dL_isTree_152 ⟨Nat.zero_le _, Nat.zero_le _⟩ (fun H locs hG hS => ?_)
            obtain ⟨hP, hD⟩ := hG
            refine lv_iconst (v := nI 1) hx hb dL_isTree_155 (by decide) ?_
            refine rk_neN (tgt := 184) hx hb (by omega) (by omega) dL_isTree_156 (by decide) (fun q => absurd hb1 q) (fun zc156 => ?_)
            have hl1 := lwN_le hT (sqM T k n d)
            have hl2 := lwN_le hT (sqM T k n (lgM T k n))
            have hl3 := (lg_max hT).2 d zc67
            have hl4 := (lg_max hT).1
            refine lv_aload_n hx hb dL_isTree_159 rfl (lv_at hl 10 rfl) ?_
            refine lv_iload hx hb dL_isTree_160 (lv_at hl 2 rfl) ?_
            refine lv_iconst (v := nI 1) hx hb dL_isTree_162 (by decide) ?_
            refine oq_district (G := (fun _ => True)) (rest := []) ⟨hx, hb, hml, hown, hts⟩ hK hN hA hFA1 hP trivial (fun _ _ _ q => q) hS (d := d) (v := 1) (by omega) (cwV 2 hts gL_isTree_X4_district rfl rfl rfl (by decide +kernel) ⟨by rw [hR]; decide, by rw [hR]; decide⟩) hl.1 rfl (Nat.le_of_ble_eq_true rfl) dL_isTree_163 ⟨Nat.zero_le _, Nat.zero_le _⟩ (fun H locs hP hD hS => ?_)
            refine rk_ev (show _ = nI (lwN T (sqM T k n d) k) from ds_1 hT) ?_
            refine lv_aload_n hx hb dL_isTree_166 rfl (lv_at hl 10 rfl) ?_
            refine lv_aload_n hx hb dL_isTree_167 rfl (lv_at hl 10 rfl) ?_
            refine lv_bipush (v := nI 6) hx hb dL_isTree_168 (by decide) ?_
            refine oq_count (G := (fun _ => True)) (rest := [.ref (ad1 0), .int (nI (lwN T (sqM T k n d) k))]) ⟨hx, hb, hml, hown, hts⟩ hK hN hA hFA1 hP trivial (fun _ _ _ q => q) hS (v := 6) (by decide) (by decide) (cwV 1 hts gL_isTree_X4_count rfl rfl rfl (by decide +kernel) ⟨by rw [hR]; decide, by rw [hR]; decide⟩) hl.1 rfl (Nat.le_of_ble_eq_true rfl) dL_isTree_170 ⟨Nat.zero_le _, Nat.zero_le _⟩ (fun H locs hP hD hS => ?_)
            refine rk_ev (show _ = nI (lgM T k n) from cnA_6) ?_
            refine lv_iconst (v := nI 1) hx hb dL_isTree_173 (by decide) ?_
            refine oq_district (G := (fun _ => True)) (rest := [.int (nI (lwN T (sqM T k n d) k))]) ⟨hx, hb, hml, hown, hts⟩ hK hN hA hFA1 hP trivial (fun _ _ _ q => q) hS (d := lgM T k n) (v := 1) (by omega) (cwV 2 hts gL_isTree_X4_district rfl rfl rfl (by decide +kernel) ⟨by rw [hR]; decide, by rw [hR]; decide⟩) hl.1 rfl (Nat.le_of_ble_eq_true rfl) dL_isTree_174 ⟨Nat.zero_le _, Nat.zero_le _⟩ (fun H locs hP hD hS => ?_)
            refine rk_ev (show _ = nI (lwN T (sqM T k n (lgM T k n)) k) from ds_1 hT) ?_
            refine rk_gtN (tgt := 184) hx hb (by omega) (by omega) dL_isTree_177 (by decide) (fun q => absurd q (by omega)) (fun zc177 => ?_)
            refine lv_iconst (v := nI 1) hx hb dL_isTree_180 (by decide) ?_
            refine lv_goto (tgt := 185) hx hb dL_isTree_181 (by decide) ?_
            refine lv_istore (lv' := [(8, .int (nI 1)), (11, .int ((sqM T k n d) &&& (-(sqM T k n d)))), (10, .int (sqM T k n d)), (9, .int (nI d)), (7, .int (nI 0)), (6, .int (nI (sm (fun i9 => lwN T (sqM T k n i9) k) d))), (5, .int (unF T k n d)), (4, .int (nI (sm (fun i9 => roM T (sqM T k n i9) k) d))), (3, .int (nI (sm (rnM T k n) d))), (2, .int (nI (dbM T k n))), (0, .ref (ad1 0)), (1, .int (nI n))]) hx hb dL_isTree_185 hl (by decide) rfl (fun ls hl => ?_)
            refine lv_iload hx hb dL_isTree_187 (lv_at hl 6 rfl) ?_
            refine lv_iload hx hb dL_isTree_189 (lv_at hl 2 rfl) ?_
            refine lv_ior hx hb dL_isTree_191 ?_
            refine rk_ev (rfl) ?_
            refine lv_istore (lv' := [(5, .int (unF T k n (d + 1))), (8, .int (nI 1)), (11, .int ((sqM T k n d) &&& (-(sqM T k n d)))), (10, .int (sqM T k n d)), (9, .int (nI d)), (7, .int (nI 0)), (6, .int (nI (sm (fun i9 => lwN T (sqM T k n i9) k) d))), (4, .int (nI (sm (fun i9 => roM T (sqM T k n i9) k) d))), (3, .int (nI (sm (rnM T k n) d))), (2, .int (nI (dbM T k n))), (0, .ref (ad1 0)), (1, .int (nI n))]) hx hb dL_isTree_192 hl (by decide) rfl (fun ls hl => ?_)
            refine lv_iload_n hx hb dL_isTree_194 rfl (lv_at hl 8 rfl) ?_
            refine lv_aload_n hx hb dL_isTree_195 rfl (lv_at hl 10 rfl) ?_
            refine lv_iload hx hb dL_isTree_196 (lv_at hl 4 rfl) ?_
            refine lv_iconst (v := nI 3) hx hb dL_isTree_198 (by decide) ?_
            refine oq_district (G := (fun _ => True)) (rest := [.int (nI (sm (rnM T k n) d))]) ⟨hx, hb, hml, hown, hts⟩ hK hN hA hFA1 hP trivial (fun _ _ _ q => q) hS (d := d) (v := 3) (by omega) (cwV 2 hts gL_isTree_X4_district rfl rfl rfl (by decide +kernel) ⟨by rw [hR]; decide, by rw [hR]; decide⟩) hl.1 rfl (Nat.le_of_ble_eq_true rfl) dL_isTree_199 ⟨Nat.zero_le _, Nat.zero_le _⟩ (fun H locs hP hD hS => ?_)
            refine rk_ev (show _ = nI (rnM T k n d) from ds_3 hT (by omega)) ?_
            refine rk_iaddN hx hb dL_isTree_202 ?_
            refine rk_ev (rfl) ?_
            refine lv_istore_n (lv' := [(3, .int (nI (sm (rnM T k n) (d + 1)))), (5, .int (unF T k n (d + 1))), (8, .int (nI 1)), (11, .int ((sqM T k n d) &&& (-(sqM T k n d)))), (10, .int (sqM T k n d)), (9, .int (nI d)), (7, .int (nI 0)), (6, .int (nI (sm (fun i9 => lwN T (sqM T k n i9) k) d))), (4, .int (nI (sm (fun i9 => roM T (sqM T k n i9) k) d))), (2, .int (nI (dbM T k n))), (0, .ref (ad1 0)), (1, .int (nI n))]) hx hb dL_isTree_203 rfl hl (by decide) rfl (fun ls hl => ?_)
            refine lv_iload hx hb dL_isTree_204 (lv_at hl 8 rfl) ?_
            refine lv_aload_n hx hb dL_isTree_206 rfl (lv_at hl 10 rfl) ?_
            refine lv_iload hx hb dL_isTree_207 (lv_at hl 5 rfl) ?_
            refine lv_iconst (v := nI 2) hx hb dL_isTree_209 (by decide) ?_
            refine oq_district (G := (fun _ => True)) (rest := [.int (nI (sm (fun i9 => roM T (sqM T k n i9) k) d))]) ⟨hx, hb, hml, hown, hts⟩ hK hN hA hFA1 hP trivial (fun _ _ _ q => q) hS (d := d) (v := 2) (by omega) (cwV 2 hts gL_isTree_X4_district rfl rfl rfl (by decide +kernel) ⟨by rw [hR]; decide, by rw [hR]; decide⟩) hl.1 rfl (Nat.le_of_ble_eq_true rfl) dL_isTree_210 ⟨Nat.zero_le _, Nat.zero_le _⟩ (fun H locs hP hD hS => ?_)
            refine rk_ev (show _ = nI (roM T (sqM T k n d) k) from dsA_2) ?_
            refine rk_iaddN hx hb dL_isTree_213 ?_
            refine rk_ev (rfl) ?_
            refine lv_istore (lv' := [(4, .int (nI (sm (fun i9 => roM T (sqM T k n i9) k) (d + 1)))), (3, .int (nI (sm (rnM T k n) (d + 1)))), (5, .int (unF T k n (d + 1))), (8, .int (nI 1)), (11, .int ((sqM T k n d) &&& (-(sqM T k n d)))), (10, .int (sqM T k n d)), (9, .int (nI d)), (7, .int (nI 0)), (6, .int (nI (sm (fun i9 => lwN T (sqM T k n i9) k) d))), (2, .int (nI (dbM T k n))), (0, .ref (ad1 0)), (1, .int (nI n))]) hx hb dL_isTree_214 hl (by decide) rfl (fun ls hl => ?_)
            refine lv_iload hx hb dL_isTree_216 (lv_at hl 8 rfl) ?_
            refine lv_aload_n hx hb dL_isTree_218 rfl (lv_at hl 10 rfl) ?_
            refine lv_iload hx hb dL_isTree_219 (lv_at hl 6 rfl) ?_
            refine lv_iconst (v := nI 1) hx hb dL_isTree_221 (by decide) ?_
            refine oq_district (G := (fun _ => True)) (rest := [.int (nI (sm (fun i9 => lwN T (sqM T k n i9) k) d))]) ⟨hx, hb, hml, hown, hts⟩ hK hN hA hFA1 hP trivial (fun _ _ _ q => q) hS (d := d) (v := 1) (by omega) (cwV 2 hts gL_isTree_X4_district rfl rfl rfl (by decide +kernel) ⟨by rw [hR]; decide, by rw [hR]; decide⟩) hl.1 rfl (Nat.le_of_ble_eq_true rfl) dL_isTree_222 ⟨Nat.zero_le _, Nat.zero_le _⟩ (fun H locs hP hD hS => ?_)
            refine rk_ev (show _ = nI (lwN T (sqM T k n d) k) from ds_1 hT) ?_
            refine rk_iaddN hx hb dL_isTree_225 ?_
            refine rk_ev (rfl) ?_
            refine lv_istore (lv' := [(6, .int (nI (sm (fun i9 => lwN T (sqM T k n i9) k) (d + 1)))), (4, .int (nI (sm (fun i9 => roM T (sqM T k n i9) k) (d + 1)))), (3, .int (nI (sm (rnM T k n) (d + 1)))), (5, .int (unF T k n (d + 1))), (8, .int (nI 1)), (11, .int ((sqM T k n d) &&& (-(sqM T k n d)))), (10, .int (sqM T k n d)), (9, .int (nI d)), (7, .int (nI 0)), (2, .int (nI (dbM T k n))), (0, .ref (ad1 0)), (1, .int (nI n))]) hx hb dL_isTree_226 hl (by decide) rfl (fun ls hl => ?_)
            refine lv_iinc (v := nI (d + 1)) (lv' := [(9, .int (nI (d + 1))), (6, .int (nI (sm (fun i9 => lwN T (sqM T k n i9) k) (d + 1)))), (4, .int (nI (sm (fun i9 => roM T (sqM T k n i9) k) (d + 1)))), (3, .int (nI (sm (rnM T k n) (d + 1)))), (5, .int (unF T k n (d + 1))), (8, .int (nI 1)), (11, .int ((sqM T k n d) &&& (-(sqM T k n d)))), (10, .int (sqM T k n d)), (7, .int (nI 0)), (2, .int (nI (dbM T k n))), (0, .ref (ad1 0)), (1, .int (nI n))]) hx hb dL_isTree_228 hl (k := 7) rfl (by rw [show Int32.ofInt 1 = nI 1 by decide]; exact nI_add _ _) (by decide) rfl (fun ls hl => ?_)
            refine lv_goto (tgt := 64) hx hb dL_isTree_231 (by decide) ?_
            exact ih64 (d + 1) (by first | assumption | omega | rfl) (by omega) _ _ hP hD hS ls (lv_sub hl [0, 5, 8, 1, 4, 2, 3, 9, 10, 11] rfl)
        · refine lv_iload hx hb dL_isTree_105 (lv_at hl 0 rfl) ?_
          refine lv_aload_n hx hb dL_isTree_107 rfl (lv_at hl 10 rfl) ?_
          refine lv_iload hx hb dL_isTree_108 (lv_at hl 2 rfl) ?_
          refine lv_iconst (v := nI 1) hx hb dL_isTree_110 (by decide) ?_
          refine rk_isubN hx hb (by omega) dL_isTree_111 ?_
          refine lv_iconst (v := nI 0) hx hb dL_isTree_112 (by decide) ?_
          refine oq_district (G := (fun _ => True)) (rest := [.int ((sqM T k n d) &&& (-(sqM T k n d)))]) ⟨hx, hb, hml, hown, hts⟩ hK hN hA hFA1 hP trivial (fun _ _ _ q => q) hS (d := d - 1) (v := 0) (by omega) (cwV 2 hts gL_isTree_X4_district rfl rfl rfl (by decide +kernel) ⟨by rw [hR]; decide, by rw [hR]; decide⟩) hl.1 rfl (Nat.le_of_ble_eq_true rfl) dL_isTree_113 ⟨Nat.zero_le _, Nat.zero_le _⟩ (fun H locs hP hD hS => ?_)
          refine rk_ev (show _ = sqM T k n (d - 1) from dsA_0) ?_
          refine lv_aload_n hx hb dL_isTree_116 rfl (lv_at hl 10 rfl) ?_
          refine lv_iload hx hb dL_isTree_117 (lv_at hl 2 rfl) ?_
          refine lv_iconst (v := nI 1) hx hb dL_isTree_119 (by decide) ?_
          refine rk_isubN hx hb (by omega) dL_isTree_120 ?_
          refine lv_iconst (v := nI 0) hx hb dL_isTree_121 (by decide) ?_
          refine oq_district (G := (fun _ => True)) (rest := [.int (sqM T k n (d - 1)), .int ((sqM T k n d) &&& (-(sqM T k n d)))]) ⟨hx, hb, hml, hown, hts⟩ hK hN hA hFA1 hP trivial (fun _ _ _ q => q) hS (d := d - 1) (v := 0) (by omega) (cwV 2 hts gL_isTree_X4_district rfl rfl rfl (by decide +kernel) ⟨by rw [hR]; decide, by rw [hR]; decide⟩) hl.1 rfl (Nat.le_of_ble_eq_true rfl) dL_isTree_122 ⟨Nat.zero_le _, Nat.zero_le _⟩ (fun H locs hP hD hS => ?_)
          refine rk_ev (show _ = sqM T k n (d - 1) from dsA_0) ?_
          refine lv_ineg hx hb dL_isTree_125 ?_
          refine lv_iand hx hb dL_isTree_126 ?_
          refine lv_icmp_le (tgt := 184) hx hb dL_isTree_127 (by decide) (fun q => absurd q (low_dn hT zc67 zc102)) (fun zc127 => ?_)
          have hrn := rn_eq hT zc67
          have hrw : rnM T k n d ≤ 31 := by have h1 := rw_b hT (sqM T k n d); have h2 := bcnt_le (fun r => bt (sqM T k n d) (mlo T r) && bt (sqM T k n d) (mhi T r)) k; unfold rnM; omega
          refine lv_aload_n hx hb dL_isTree_130 rfl (lv_at hl 10 rfl) ?_
          refine lv_iload hx hb dL_isTree_131 (lv_at hl 2 rfl) ?_
          refine lv_iconst (v := nI 3) hx hb dL_isTree_133 (by decide) ?_
          refine oq_district (G := (fun _ => True)) (rest := []) ⟨hx, hb, hml, hown, hts⟩ hK hN hA hFA1 hP trivial (fun _ _ _ q => q) hS (d := d) (v := 3) (by omega) (cwV 2 hts gL_isTree_X4_district rfl rfl rfl (by decide +kernel) ⟨by rw [hR]; decide, by rw [hR]; decide⟩) hl.1 rfl (Nat.le_of_ble_eq_true rfl) dL_isTree_134 ⟨Nat.zero_le _, Nat.zero_le _⟩ (fun H locs hP hD hS => ?_)
          refine rk_ev (show _ = nI (rnM T k n d) from ds_3 hT (by omega)) ?_
          refine rk_if_ltN (tgt := 184) hx hb (by omega) dL_isTree_137 (by decide) ?_
          refine lv_aload_n hx hb dL_isTree_140 rfl (lv_at hl 10 rfl) ?_
          refine lv_iload hx hb dL_isTree_141 (lv_at hl 2 rfl) ?_
          refine lv_iconst (v := nI 3) hx hb dL_isTree_143 (by decide) ?_
          refine oq_district (G := (fun _ => True)) (rest := []) ⟨hx, hb, hml, hown, hts⟩ hK hN hA hFA1 hP trivial (fun _ _ _ q => q) hS (d := d) (v := 3) (by omega) (cwV 2 hts gL_isTree_X4_district rfl rfl rfl (by decide +kernel) ⟨by rw [hR]; decide, by rw [hR]; decide⟩) hl.1 rfl (Nat.le_of_ble_eq_true rfl) dL_isTree_144 ⟨Nat.zero_le _, Nat.zero_le _⟩ (fun H locs hP hD hS => ?_)
          refine rk_ev (show _ = nI (rnM T k n d) from ds_3 hT (by omega)) ?_
          refine rk_if_gtN (tgt := 159) hx hb (by omega) dL_isTree_147 (by decide) (fun zc147 => ?_) (fun zc147 => ?_)
          · have hl1 := lwN_le hT (sqM T k n d)
            have hl2 := lwN_le hT (sqM T k n (lgM T k n))
            have hl3 := (lg_max hT).2 d zc67
            have hl4 := (lg_max hT).1
            refine lv_aload_n hx hb dL_isTree_159 rfl (lv_at hl 10 rfl) ?_
            refine lv_iload hx hb dL_isTree_160 (lv_at hl 2 rfl) ?_
            refine lv_iconst (v := nI 1) hx hb dL_isTree_162 (by decide) ?_
            refine oq_district (G := (fun _ => True)) (rest := []) ⟨hx, hb, hml, hown, hts⟩ hK hN hA hFA1 hP trivial (fun _ _ _ q => q) hS (d := d) (v := 1) (by omega) (cwV 2 hts gL_isTree_X4_district rfl rfl rfl (by decide +kernel) ⟨by rw [hR]; decide, by rw [hR]; decide⟩) hl.1 rfl (Nat.le_of_ble_eq_true rfl) dL_isTree_163 ⟨Nat.zero_le _, Nat.zero_le _⟩ (fun H locs hP hD hS => ?_)
            refine rk_ev (show _ = nI (lwN T (sqM T k n d) k) from ds_1 hT) ?_
            refine lv_aload_n hx hb dL_isTree_166 rfl (lv_at hl 10 rfl) ?_
            refine lv_aload_n hx hb dL_isTree_167 rfl (lv_at hl 10 rfl) ?_
            refine lv_bipush (v := nI 6) hx hb dL_isTree_168 (by decide) ?_
            refine oq_count (G := (fun _ => True)) (rest := [.ref (ad1 0), .int (nI (lwN T (sqM T k n d) k))]) ⟨hx, hb, hml, hown, hts⟩ hK hN hA hFA1 hP trivial (fun _ _ _ q => q) hS (v := 6) (by decide) (by decide) (cwV 1 hts gL_isTree_X4_count rfl rfl rfl (by decide +kernel) ⟨by rw [hR]; decide, by rw [hR]; decide⟩) hl.1 rfl (Nat.le_of_ble_eq_true rfl) dL_isTree_170 ⟨Nat.zero_le _, Nat.zero_le _⟩ (fun H locs hP hD hS => ?_)
            refine rk_ev (show _ = nI (lgM T k n) from cnA_6) ?_
            refine lv_iconst (v := nI 1) hx hb dL_isTree_173 (by decide) ?_
            refine oq_district (G := (fun _ => True)) (rest := [.int (nI (lwN T (sqM T k n d) k))]) ⟨hx, hb, hml, hown, hts⟩ hK hN hA hFA1 hP trivial (fun _ _ _ q => q) hS (d := lgM T k n) (v := 1) (by omega) (cwV 2 hts gL_isTree_X4_district rfl rfl rfl (by decide +kernel) ⟨by rw [hR]; decide, by rw [hR]; decide⟩) hl.1 rfl (Nat.le_of_ble_eq_true rfl) dL_isTree_174 ⟨Nat.zero_le _, Nat.zero_le _⟩ (fun H locs hP hD hS => ?_)
            refine rk_ev (show _ = nI (lwN T (sqM T k n (lgM T k n)) k) from ds_1 hT) ?_
            refine rk_gtN (tgt := 184) hx hb (by omega) (by omega) dL_isTree_177 (by decide) (fun q => absurd q (by omega)) (fun zc177 => ?_)
            refine lv_iconst (v := nI 1) hx hb dL_isTree_180 (by decide) ?_
            refine lv_goto (tgt := 185) hx hb dL_isTree_181 (by decide) ?_
            refine lv_istore (lv' := [(8, .int (nI 1)), (11, .int ((sqM T k n d) &&& (-(sqM T k n d)))), (10, .int (sqM T k n d)), (9, .int (nI d)), (7, .int (nI 0)), (6, .int (nI (sm (fun i9 => lwN T (sqM T k n i9) k) d))), (5, .int (unF T k n d)), (4, .int (nI (sm (fun i9 => roM T (sqM T k n i9) k) d))), (3, .int (nI (sm (rnM T k n) d))), (2, .int (nI (dbM T k n))), (0, .ref (ad1 0)), (1, .int (nI n))]) hx hb dL_isTree_185 hl (by decide) rfl (fun ls hl => ?_)
            refine lv_iload hx hb dL_isTree_187 (lv_at hl 6 rfl) ?_
            refine lv_iload hx hb dL_isTree_189 (lv_at hl 2 rfl) ?_
            refine lv_ior hx hb dL_isTree_191 ?_
            refine rk_ev (rfl) ?_
            refine lv_istore (lv' := [(5, .int (unF T k n (d + 1))), (8, .int (nI 1)), (11, .int ((sqM T k n d) &&& (-(sqM T k n d)))), (10, .int (sqM T k n d)), (9, .int (nI d)), (7, .int (nI 0)), (6, .int (nI (sm (fun i9 => lwN T (sqM T k n i9) k) d))), (4, .int (nI (sm (fun i9 => roM T (sqM T k n i9) k) d))), (3, .int (nI (sm (rnM T k n) d))), (2, .int (nI (dbM T k n))), (0, .ref (ad1 0)), (1, .int (nI n))]) hx hb dL_isTree_192 hl (by decide) rfl (fun ls hl => ?_)
            refine lv_iload_n hx hb dL_isTree_194 rfl (lv_at hl 8 rfl) ?_
            refine lv_aload_n hx hb dL_isTree_195 rfl (lv_at hl 10 rfl) ?_
            refine lv_iload hx hb dL_isTree_196 (lv_at hl 4 rfl) ?_
            refine lv_iconst (v := nI 3) hx hb dL_isTree_198 (by decide) ?_
            refine oq_district (G := (fun _ => True)) (rest := [.int (nI (sm (rnM T k n) d))]) ⟨hx, hb, hml, hown, hts⟩ hK hN hA hFA1 hP trivial (fun _ _ _ q => q) hS (d := d) (v := 3) (by omega) (cwV 2 hts gL_isTree_X4_district rfl rfl rfl (by decide +kernel) ⟨by rw [hR]; decide, by rw [hR]; decide⟩) hl.1 rfl (Nat.le_of_ble_eq_true rfl) dL_isTree_199 ⟨Nat.zero_le _, Nat.zero_le _⟩ (fun H locs hP hD hS => ?_)
            refine rk_ev (show _ = nI (rnM T k n d) from ds_3 hT (by omega)) ?_
            refine rk_iaddN hx hb dL_isTree_202 ?_
            refine rk_ev (rfl) ?_
            refine lv_istore_n (lv' := [(3, .int (nI (sm (rnM T k n) (d + 1)))), (5, .int (unF T k n (d + 1))), (8, .int (nI 1)), (11, .int ((sqM T k n d) &&& (-(sqM T k n d)))), (10, .int (sqM T k n d)), (9, .int (nI d)), (7, .int (nI 0)), (6, .int (nI (sm (fun i9 => lwN T (sqM T k n i9) k) d))), (4, .int (nI (sm (fun i9 => roM T (sqM T k n i9) k) d))), (2, .int (nI (dbM T k n))), (0, .ref (ad1 0)), (1, .int (nI n))]) hx hb dL_isTree_203 rfl hl (by decide) rfl (fun ls hl => ?_)
            refine lv_iload hx hb dL_isTree_204 (lv_at hl 8 rfl) ?_
            refine lv_aload_n hx hb dL_isTree_206 rfl (lv_at hl 10 rfl) ?_
            refine lv_iload hx hb dL_isTree_207 (lv_at hl 5 rfl) ?_
            refine lv_iconst (v := nI 2) hx hb dL_isTree_209 (by decide) ?_
            refine oq_district (G := (fun _ => True)) (rest := [.int (nI (sm (fun i9 => roM T (sqM T k n i9) k) d))]) ⟨hx, hb, hml, hown, hts⟩ hK hN hA hFA1 hP trivial (fun _ _ _ q => q) hS (d := d) (v := 2) (by omega) (cwV 2 hts gL_isTree_X4_district rfl rfl rfl (by decide +kernel) ⟨by rw [hR]; decide, by rw [hR]; decide⟩) hl.1 rfl (Nat.le_of_ble_eq_true rfl) dL_isTree_210 ⟨Nat.zero_le _, Nat.zero_le _⟩ (fun H locs hP hD hS => ?_)
            refine rk_ev (show _ = nI (roM T (sqM T k n d) k) from dsA_2) ?_
            refine rk_iaddN hx hb dL_isTree_213 ?_
            refine rk_ev (rfl) ?_
            refine lv_istore (lv' := [(4, .int (nI (sm (fun i9 => roM T (sqM T k n i9) k) (d + 1)))), (3, .int (nI (sm (rnM T k n) (d + 1)))), (5, .int (unF T k n (d + 1))), (8, .int (nI 1)), (11, .int ((sqM T k n d) &&& (-(sqM T k n d)))), (10, .int (sqM T k n d)), (9, .int (nI d)), (7, .int (nI 0)), (6, .int (nI (sm (fun i9 => lwN T (sqM T k n i9) k) d))), (2, .int (nI (dbM T k n))), (0, .ref (ad1 0)), (1, .int (nI n))]) hx hb dL_isTree_214 hl (by decide) rfl (fun ls hl => ?_)
            refine lv_iload hx hb dL_isTree_216 (lv_at hl 8 rfl) ?_
            refine lv_aload_n hx hb dL_isTree_218 rfl (lv_at hl 10 rfl) ?_
            refine lv_iload hx hb dL_isTree_219 (lv_at hl 6 rfl) ?_
            refine lv_iconst (v := nI 1) hx hb dL_isTree_221 (by decide) ?_
            refine oq_district (G := (fun _ => True)) (rest := [.int (nI (sm (fun i9 => lwN T (sqM T k n i9) k) d))]) ⟨hx, hb, hml, hown, hts⟩ hK hN hA hFA1 hP trivial (fun _ _ _ q => q) hS (d := d) (v := 1) (by omega) (cwV 2 hts gL_isTree_X4_district rfl rfl rfl (by decide +kernel) ⟨by rw [hR]; decide, by rw [hR]; decide⟩) hl.1 rfl (Nat.le_of_ble_eq_true rfl) dL_isTree_222 ⟨Nat.zero_le _, Nat.zero_le _⟩ (fun H locs hP hD hS => ?_)
            refine rk_ev (show _ = nI (lwN T (sqM T k n d) k) from ds_1 hT) ?_
            refine rk_iaddN hx hb dL_isTree_225 ?_
            refine rk_ev (rfl) ?_
            refine lv_istore (lv' := [(6, .int (nI (sm (fun i9 => lwN T (sqM T k n i9) k) (d + 1)))), (4, .int (nI (sm (fun i9 => roM T (sqM T k n i9) k) (d + 1)))), (3, .int (nI (sm (rnM T k n) (d + 1)))), (5, .int (unF T k n (d + 1))), (8, .int (nI 1)), (11, .int ((sqM T k n d) &&& (-(sqM T k n d)))), (10, .int (sqM T k n d)), (9, .int (nI d)), (7, .int (nI 0)), (2, .int (nI (dbM T k n))), (0, .ref (ad1 0)), (1, .int (nI n))]) hx hb dL_isTree_226 hl (by decide) rfl (fun ls hl => ?_)
            refine lv_iinc (v := nI (d + 1)) (lv' := [(9, .int (nI (d + 1))), (6, .int (nI (sm (fun i9 => lwN T (sqM T k n i9) k) (d + 1)))), (4, .int (nI (sm (fun i9 => roM T (sqM T k n i9) k) (d + 1)))), (3, .int (nI (sm (rnM T k n) (d + 1)))), (5, .int (unF T k n (d + 1))), (8, .int (nI 1)), (11, .int ((sqM T k n d) &&& (-(sqM T k n d)))), (10, .int (sqM T k n d)), (7, .int (nI 0)), (2, .int (nI (dbM T k n))), (0, .ref (ad1 0)), (1, .int (nI n))]) hx hb dL_isTree_228 hl (k := 7) rfl (by rw [show Int32.ofInt 1 = nI 1 by decide]; exact nI_add _ _) (by decide) rfl (fun ls hl => ?_)
            refine lv_goto (tgt := 64) hx hb dL_isTree_231 (by decide) ?_
            exact ih64 (d + 1) (by first | assumption | omega | rfl) (by omega) _ _ hP hD hS ls (lv_sub hl [0, 5, 8, 1, 4, 2, 3, 9, 10, 11] rfl)
          · have hb1 := bs_sq hT zc67 (by omega)
            refine lv_iload hx hb dL_isTree_150 (lv_at hl 1 rfl) ?_
            refine kX_0 (G := (fun H => OI E F1 ad1 n hc k T kk HA H ∧ True)) (E := E) (As := [.int (sqM T k n d)]) (rest := []) ⟨hx, hb, hml, hown, hts⟩ (c_L_bits (l := l) (E := E) (sz := _) (x := sqM T k n d) ) (cwS 1 hts gL_isTree_L_bits rfl rfl rfl (by decide +kernel) ⟨by rw [hR]; decide, by rw [hR]; decide⟩) hK hN ⟨hP, hD⟩ (fun _ _ hfr q => ⟨q.1.kept (fun _ _ z => z) hfr, trivial⟩) hS hA rfl hl.1 rfl (Nat.le_of_ble_eq_true rfl) dL_isTree_152 ⟨Nat.zero_le _, Nat.zero_le _⟩ (fun H locs hG hS => ?_)
            obtain ⟨hP, hD⟩ := hG
            refine lv_iconst (v := nI 1) hx hb dL_isTree_155 (by decide) ?_
            refine rk_neN (tgt := 184) hx hb (by omega) (by omega) dL_isTree_156 (by decide) (fun q => absurd hb1 q) (fun zc156 => ?_)
            have hl1 := lwN_le hT (sqM T k n d)
            have hl2 := lwN_le hT (sqM T k n (lgM T k n))
            have hl3 := (lg_max hT).2 d zc67
            have hl4 := (lg_max hT).1
            refine lv_aload_n hx hb dL_isTree_159 rfl (lv_at hl 10 rfl) ?_
            refine lv_iload hx hb dL_isTree_160 (lv_at hl 2 rfl) ?_
            refine lv_iconst (v := nI 1) hx hb dL_isTree_162 (by decide) ?_
            refine oq_district (G := (fun _ => True)) (rest := []) ⟨hx, hb, hml, hown, hts⟩ hK hN hA hFA1 hP trivial (fun _ _ _ q => q) hS (d := d) (v := 1) (by omega) (cwV 2 hts gL_isTree_X4_district rfl rfl rfl (by decide +kernel) ⟨by rw [hR]; decide, by rw [hR]; decide⟩) hl.1 rfl (Nat.le_of_ble_eq_true rfl) dL_isTree_163 ⟨Nat.zero_le _, Nat.zero_le _⟩ (fun H locs hP hD hS => ?_)
            refine rk_ev (show _ = nI (lwN T (sqM T k n d) k) from ds_1 hT) ?_
            refine lv_aload_n hx hb dL_isTree_166 rfl (lv_at hl 10 rfl) ?_
            refine lv_aload_n hx hb dL_isTree_167 rfl (lv_at hl 10 rfl) ?_
            refine lv_bipush (v := nI 6) hx hb dL_isTree_168 (by decide) ?_
            refine oq_count (G := (fun _ => True)) (rest := [.ref (ad1 0), .int (nI (lwN T (sqM T k n d) k))]) ⟨hx, hb, hml, hown, hts⟩ hK hN hA hFA1 hP trivial (fun _ _ _ q => q) hS (v := 6) (by decide) (by decide) (cwV 1 hts gL_isTree_X4_count rfl rfl rfl (by decide +kernel) ⟨by rw [hR]; decide, by rw [hR]; decide⟩) hl.1 rfl (Nat.le_of_ble_eq_true rfl) dL_isTree_170 ⟨Nat.zero_le _, Nat.zero_le _⟩ (fun H locs hP hD hS => ?_)
            refine rk_ev (show _ = nI (lgM T k n) from cnA_6) ?_
            refine lv_iconst (v := nI 1) hx hb dL_isTree_173 (by decide) ?_
            refine oq_district (G := (fun _ => True)) (rest := [.int (nI (lwN T (sqM T k n d) k))]) ⟨hx, hb, hml, hown, hts⟩ hK hN hA hFA1 hP trivial (fun _ _ _ q => q) hS (d := lgM T k n) (v := 1) (by omega) (cwV 2 hts gL_isTree_X4_district rfl rfl rfl (by decide +kernel) ⟨by rw [hR]; decide, by rw [hR]; decide⟩) hl.1 rfl (Nat.le_of_ble_eq_true rfl) dL_isTree_174 ⟨Nat.zero_le _, Nat.zero_le _⟩ (fun H locs hP hD hS => ?_)
            refine rk_ev (show _ = nI (lwN T (sqM T k n (lgM T k n)) k) from ds_1 hT) ?_
            refine rk_gtN (tgt := 184) hx hb (by omega) (by omega) dL_isTree_177 (by decide) (fun q => absurd q (by omega)) (fun zc177 => ?_)
            refine lv_iconst (v := nI 1) hx hb dL_isTree_180 (by decide) ?_
            refine lv_goto (tgt := 185) hx hb dL_isTree_181 (by decide) ?_
            refine lv_istore (lv' := [(8, .int (nI 1)), (11, .int ((sqM T k n d) &&& (-(sqM T k n d)))), (10, .int (sqM T k n d)), (9, .int (nI d)), (7, .int (nI 0)), (6, .int (nI (sm (fun i9 => lwN T (sqM T k n i9) k) d))), (5, .int (unF T k n d)), (4, .int (nI (sm (fun i9 => roM T (sqM T k n i9) k) d))), (3, .int (nI (sm (rnM T k n) d))), (2, .int (nI (dbM T k n))), (0, .ref (ad1 0)), (1, .int (nI n))]) hx hb dL_isTree_185 hl (by decide) rfl (fun ls hl => ?_)
            refine lv_iload hx hb dL_isTree_187 (lv_at hl 6 rfl) ?_
            refine lv_iload hx hb dL_isTree_189 (lv_at hl 2 rfl) ?_
            refine lv_ior hx hb dL_isTree_191 ?_
            refine rk_ev (rfl) ?_
            refine lv_istore (lv' := [(5, .int (unF T k n (d + 1))), (8, .int (nI 1)), (11, .int ((sqM T k n d) &&& (-(sqM T k n d)))), (10, .int (sqM T k n d)), (9, .int (nI d)), (7, .int (nI 0)), (6, .int (nI (sm (fun i9 => lwN T (sqM T k n i9) k) d))), (4, .int (nI (sm (fun i9 => roM T (sqM T k n i9) k) d))), (3, .int (nI (sm (rnM T k n) d))), (2, .int (nI (dbM T k n))), (0, .ref (ad1 0)), (1, .int (nI n))]) hx hb dL_isTree_192 hl (by decide) rfl (fun ls hl => ?_)
            refine lv_iload_n hx hb dL_isTree_194 rfl (lv_at hl 8 rfl) ?_
            refine lv_aload_n hx hb dL_isTree_195 rfl (lv_at hl 10 rfl) ?_
            refine lv_iload hx hb dL_isTree_196 (lv_at hl 4 rfl) ?_
            refine lv_iconst (v := nI 3) hx hb dL_isTree_198 (by decide) ?_
            refine oq_district (G := (fun _ => True)) (rest := [.int (nI (sm (rnM T k n) d))]) ⟨hx, hb, hml, hown, hts⟩ hK hN hA hFA1 hP trivial (fun _ _ _ q => q) hS (d := d) (v := 3) (by omega) (cwV 2 hts gL_isTree_X4_district rfl rfl rfl (by decide +kernel) ⟨by rw [hR]; decide, by rw [hR]; decide⟩) hl.1 rfl (Nat.le_of_ble_eq_true rfl) dL_isTree_199 ⟨Nat.zero_le _, Nat.zero_le _⟩ (fun H locs hP hD hS => ?_)
            refine rk_ev (show _ = nI (rnM T k n d) from ds_3 hT (by omega)) ?_
            refine rk_iaddN hx hb dL_isTree_202 ?_
            refine rk_ev (rfl) ?_
            refine lv_istore_n (lv' := [(3, .int (nI (sm (rnM T k n) (d + 1)))), (5, .int (unF T k n (d + 1))), (8, .int (nI 1)), (11, .int ((sqM T k n d) &&& (-(sqM T k n d)))), (10, .int (sqM T k n d)), (9, .int (nI d)), (7, .int (nI 0)), (6, .int (nI (sm (fun i9 => lwN T (sqM T k n i9) k) d))), (4, .int (nI (sm (fun i9 => roM T (sqM T k n i9) k) d))), (2, .int (nI (dbM T k n))), (0, .ref (ad1 0)), (1, .int (nI n))]) hx hb dL_isTree_203 rfl hl (by decide) rfl (fun ls hl => ?_)
            refine lv_iload hx hb dL_isTree_204 (lv_at hl 8 rfl) ?_
            refine lv_aload_n hx hb dL_isTree_206 rfl (lv_at hl 10 rfl) ?_
            refine lv_iload hx hb dL_isTree_207 (lv_at hl 5 rfl) ?_
            refine lv_iconst (v := nI 2) hx hb dL_isTree_209 (by decide) ?_
            refine oq_district (G := (fun _ => True)) (rest := [.int (nI (sm (fun i9 => roM T (sqM T k n i9) k) d))]) ⟨hx, hb, hml, hown, hts⟩ hK hN hA hFA1 hP trivial (fun _ _ _ q => q) hS (d := d) (v := 2) (by omega) (cwV 2 hts gL_isTree_X4_district rfl rfl rfl (by decide +kernel) ⟨by rw [hR]; decide, by rw [hR]; decide⟩) hl.1 rfl (Nat.le_of_ble_eq_true rfl) dL_isTree_210 ⟨Nat.zero_le _, Nat.zero_le _⟩ (fun H locs hP hD hS => ?_)
            refine rk_ev (show _ = nI (roM T (sqM T k n d) k) from dsA_2) ?_
            refine rk_iaddN hx hb dL_isTree_213 ?_
            refine rk_ev (rfl) ?_
            refine lv_istore (lv' := [(4, .int (nI (sm (fun i9 => roM T (sqM T k n i9) k) (d + 1)))), (3, .int (nI (sm (rnM T k n) (d + 1)))), (5, .int (unF T k n (d + 1))), (8, .int (nI 1)), (11, .int ((sqM T k n d) &&& (-(sqM T k n d)))), (10, .int (sqM T k n d)), (9, .int (nI d)), (7, .int (nI 0)), (6, .int (nI (sm (fun i9 => lwN T (sqM T k n i9) k) d))), (2, .int (nI (dbM T k n))), (0, .ref (ad1 0)), (1, .int (nI n))]) hx hb dL_isTree_214 hl (by decide) rfl (fun ls hl => ?_)
            refine lv_iload hx hb dL_isTree_216 (lv_at hl 8 rfl) ?_
            refine lv_aload_n hx hb dL_isTree_218 rfl (lv_at hl 10 rfl) ?_
            refine lv_iload hx hb dL_isTree_219 (lv_at hl 6 rfl) ?_
            refine lv_iconst (v := nI 1) hx hb dL_isTree_221 (by decide) ?_
            refine oq_district (G := (fun _ => True)) (rest := [.int (nI (sm (fun i9 => lwN T (sqM T k n i9) k) d))]) ⟨hx, hb, hml, hown, hts⟩ hK hN hA hFA1 hP trivial (fun _ _ _ q => q) hS (d := d) (v := 1) (by omega) (cwV 2 hts gL_isTree_X4_district rfl rfl rfl (by decide +kernel) ⟨by rw [hR]; decide, by rw [hR]; decide⟩) hl.1 rfl (Nat.le_of_ble_eq_true rfl) dL_isTree_222 ⟨Nat.zero_le _, Nat.zero_le _⟩ (fun H locs hP hD hS => ?_)
            refine rk_ev (show _ = nI (lwN T (sqM T k n d) k) from ds_1 hT) ?_
            refine rk_iaddN hx hb dL_isTree_225 ?_
            refine rk_ev (rfl) ?_
            refine lv_istore (lv' := [(6, .int (nI (sm (fun i9 => lwN T (sqM T k n i9) k) (d + 1)))), (4, .int (nI (sm (fun i9 => roM T (sqM T k n i9) k) (d + 1)))), (3, .int (nI (sm (rnM T k n) (d + 1)))), (5, .int (unF T k n (d + 1))), (8, .int (nI 1)), (11, .int ((sqM T k n d) &&& (-(sqM T k n d)))), (10, .int (sqM T k n d)), (9, .int (nI d)), (7, .int (nI 0)), (2, .int (nI (dbM T k n))), (0, .ref (ad1 0)), (1, .int (nI n))]) hx hb dL_isTree_226 hl (by decide) rfl (fun ls hl => ?_)
            refine lv_iinc (v := nI (d + 1)) (lv' := [(9, .int (nI (d + 1))), (6, .int (nI (sm (fun i9 => lwN T (sqM T k n i9) k) (d + 1)))), (4, .int (nI (sm (fun i9 => roM T (sqM T k n i9) k) (d + 1)))), (3, .int (nI (sm (rnM T k n) (d + 1)))), (5, .int (unF T k n (d + 1))), (8, .int (nI 1)), (11, .int ((sqM T k n d) &&& (-(sqM T k n d)))), (10, .int (sqM T k n d)), (7, .int (nI 0)), (2, .int (nI (dbM T k n))), (0, .ref (ad1 0)), (1, .int (nI n))]) hx hb dL_isTree_228 hl (k := 7) rfl (by rw [show Int32.ofInt 1 = nI 1 by decide]; exact nI_add _ _) (by decide) rfl (fun ls hl => ?_)
            refine lv_goto (tgt := 64) hx hb dL_isTree_231 (by decide) ?_
            exact ih64 (d + 1) (by first | assumption | omega | rfl) (by omega) _ _ hP hD hS ls (lv_sub hl [0, 5, 8, 1, 4, 2, 3, 9, 10, 11] rfl)
  exact L64 ((dbM T k n - 0) + 1) 0 (by first | assumption | omega | rfl) (Nat.lt_succ_self _) _ _ hP hD hS ls (lv_sub hl [0, 1, 2, 3, 4, 5, 6, 7, 8, 9] rfl)
