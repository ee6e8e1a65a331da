/-! THE LAW'S areAlike (laid by a program) -/
set_option maxHeartbeats 4000000 in
set_option maxRecDepth 100000 in
theorem c_L_areAlike (l : Launch) (E : EE) (sz : Nat) (F1 F2 : Nat → Prop) (hap1 : ∀ q, F1 q → ¬ F2 q) (hap2 : ∀ q, F2 q → ¬ F1 q) (ad1 ad2 : Nat → Nat) (n hc k : Nat) (T T' : Nat → Int32) (kk : Nat → Nat) (HA HA' : Nat → Nat → Int32) (mi : Mi n k T T') (x : Int32) : Cx l yL_areAlike wsL_areAlike 5 118 E [.ref (ad1 0), .ref (ad2 0), .int (nI n), .int x] (fun q => F1 q ∨ F2 q) (fun U => OI E F1 ad1 n hc k T kk HA U.heap ∧ OI E F2 ad2 n hc k T' kk HA' U.heap) (fun H => OI E F1 ad1 n hc k T kk HA H ∧ OI E F2 ad2 n hc k T' kk HA' H) sz (nI 1) := by
  refine Cx_of (cc := cL_areAlike) (maxL := 9) (ret := (some .boolean)) (by decide +kernel) rfl (Nat.le_of_ble_eq_true rfl) ?_
  intro p e s m args below meth c A R Q ls hx hb hr hts hown hml hlocks hA hFA hAd hK hN hPre hS hl hR hQ
  have hown : s.vm.findClass RL = some m.cls := hown
  have hl : lv_has ls 9 [(0, .ref (ad1 0)), (1, .ref (ad2 0)), (2, .int (nI n)), (3, .int x)] := hl
  obtain ⟨hP, hD⟩ := hPre
  have hFA1 : ∀ q, F1 q → A q := fun q h => hFA q (Or.inl h)
  have hFA2 : ∀ q, F2 q → A q := fun q h => hFA q (Or.inr h)
  obtain ⟨hc6, lo, hi, le, en, hT⟩ := hP.tw
  obtain ⟨-, lo', hi', le', en', hT'⟩ := hD.tw
  have hn16 : n ≤ 16 := hT.1.2.2
  have hn2 : 2 ≤ n := hT.1.2.1
  have hk30 : k ≤ 30 := hT.1.1
  have hdb := db_pos hT
  have hpi := pi_pos hT
  have hpg := popc_32 (pgM T k k)
  have hBt := B_town hT
  have hdb' := db_pos hT'
  refine lv_iconst (v := nI 1) hx hb dL_areAlike_0 (by decide) ?_
  refine lv_istore (lv' := [(4, .int (nI 1)), (0, .ref (ad1 0)), (1, .ref (ad2 0)), (2, .int (nI n)), (3, .int x)]) hx hb dL_areAlike_1 hl (by decide) rfl (fun ls hl => ?_)
  refine lv_iconst (v := nI 0) hx hb dL_areAlike_3 (by decide) ?_
  refine lv_istore (lv' := [(5, .int (nI 0)), (4, .int (nI 1)), (0, .ref (ad1 0)), (1, .ref (ad2 0)), (2, .int (nI n)), (3, .int x)]) hx hb dL_areAlike_4 hl (by decide) rfl (fun ls hl => ?_)
  have L6 : ∀ (fu : Nat) (v : Nat) (gv : v ≤ 8), 8 - v < fu → ∀ (H : Heap) (locs : List Loc), OI E F1 ad1 n hc k T kk HA H → OI E F2 ad2 n hc k T' kk HA' H → va_S A s.heap H locs → ∀ (ls : Array Slot), lv_has ls 9 [(5, .int (nI v)), (4, .int (nI 1)), (0, .ref (ad1 0)), (1, .ref (ad2 0)), (2, .int (nI n)), (3, .int x)] → W p l e R s m args below meth c H locs 0 0 Q (F0 m 6 ls []) := by
    intro fu
    induction fu with
    | zero => intro v gv hfu; exact absurd hfu (Nat.not_lt_zero _)
    | succ fu ih6 =>
      intro v gv hfu H locs hP hD hS ls hl
      refine lv_iload hx hb dL_areAlike_6 (lv_at hl 0 rfl) ?_
      refine lv_bipush (v := nI 8) hx hb dL_areAlike_8 (by decide) ?_
      refine rk_geN (tgt := 53) hx hb (by omega) (by omega) dL_areAlike_10 (by decide) (fun zc10 => ?_) (fun zc10 => ?_)
      · refine lv_iconst (v := nI 0) hx hb dL_areAlike_53 (by decide) ?_
        refine lv_istore (lv' := [(5, .int (nI 0)), (4, .int (nI 1)), (0, .ref (ad1 0)), (1, .ref (ad2 0)), (2, .int (nI n)), (3, .int x)]) hx hb dL_areAlike_54 hl (by decide) rfl (fun ls hl => ?_)
        have L56 : ∀ (fu : Nat) (r : Nat) (gr : r ≤ k), k - r < fu → ∀ (H : Heap) (locs : List Loc), OI E F1 ad1 n hc k T kk HA H → OI E F2 ad2 n hc k T' kk HA' H → va_S A s.heap H locs → ∀ (ls : Array Slot), lv_has ls 9 [(5, .int (nI r)), (4, .int (nI 1)), (0, .ref (ad1 0)), (1, .ref (ad2 0)), (2, .int (nI n)), (3, .int x)] → W p l e R s m args below meth c H locs 0 0 Q (F0 m 56 ls []) := by
          intro fu
          induction fu with
          | zero => intro r gr hfu; exact absurd hfu (Nat.not_lt_zero _)
          | succ fu ih56 =>
            intro r gr hfu H locs hP hD hS ls hl
            refine lv_iload hx hb dL_areAlike_56 (lv_at hl 0 rfl) ?_
            refine lv_aload_n hx hb dL_areAlike_58 rfl (lv_at hl 2 rfl) ?_
            refine lv_iconst (v := nI 1) hx hb dL_areAlike_59 (by decide) ?_
            refine oq_count (G := (fun H => OI E F2 ad2 n hc k T' kk HA' H)) (rest := [.int (nI r)]) ⟨hx, hb, hml, hown, hts⟩ hK hN hA hFA1 hP hD (fun _ _ hfr q => q.kept hap2 hfr) hS (v := 1) (by decide) (by decide) (cwV 1 hts gL_areAlike_X4_count rfl rfl rfl (by decide +kernel) ⟨by rw [hR]; decide, by rw [hR]; decide⟩) hl.1 rfl (Nat.le_of_ble_eq_true rfl) dL_areAlike_60 ⟨Nat.zero_le _, Nat.zero_le _⟩ (fun H locs hP hD hS => ?_)
            refine rk_ev (show _ = nI k from cnA_1) ?_
            refine rk_geN (tgt := 173) hx hb (by omega) (by omega) dL_areAlike_63 (by decide) (fun zc63 => ?_) (fun zc63 => ?_)
            · refine lv_iconst (v := nI 0) hx hb dL_areAlike_173 (by decide) ?_
              refine lv_istore (lv' := [(5, .int (nI 0)), (4, .int (nI 1)), (0, .ref (ad1 0)), (1, .ref (ad2 0)), (2, .int (nI n)), (3, .int x)]) hx hb dL_areAlike_174 hl (by decide) rfl (fun ls hl => ?_)
              have L176 : ∀ (fu : Nat) (y : Nat) (gy : y ≤ n), n - y < fu → ∀ (H : Heap) (locs : List Loc), OI E F1 ad1 n hc k T kk HA H → OI E F2 ad2 n hc k T' kk HA' H → va_S A s.heap H locs → ∀ (ls : Array Slot), lv_has ls 9 [(5, .int (nI y)), (4, .int (nI 1)), (0, .ref (ad1 0)), (1, .ref (ad2 0)), (2, .int (nI n)), (3, .int x)] → W p l e R s m args below meth c H locs 0 0 Q (F0 m 176 ls []) := by
                intro fu
                induction fu with
                | zero => intro y gy hfu; exact absurd hfu (Nat.not_lt_zero _)
                | succ fu ih176 =>
                  intro y gy hfu H locs hP hD hS ls hl
                  refine lv_iload hx hb dL_areAlike_176 (lv_at hl 0 rfl) ?_
                  refine lv_iload_n hx hb dL_areAlike_178 rfl (lv_at hl 4 rfl) ?_
                  refine rk_geN (tgt := 326) hx hb (by omega) (by omega) dL_areAlike_179 (by decide) (fun zc179 => ?_) (fun zc179 => ?_)
                  · refine lv_iload_n hx hb dL_areAlike_326 rfl (lv_at hl 5 rfl) ?_
                    refine lv_iload_n hx hb dL_areAlike_327 rfl (lv_at hl 4 rfl) ?_
                    refine kX_0 (G := (fun H => OI E F1 ad1 n hc k T kk HA H ∧ OI E F2 ad2 n hc k T' kk HA' H)) (E := E) (As := [.int x, .int (nI n)]) (rest := []) ⟨hx, hb, hml, hown, hts⟩ (c_L_up (l := l) (E := E) (sz := _) (v := x) (n := n) (gn0 := by omega) (gn1 := by omega)) (cwS 2 hts gL_areAlike_L_up rfl rfl rfl (by decide +kernel) ⟨by rw [hR]; decide, by rw [hR]; decide⟩) hK hN ⟨hP, hD⟩ (fun _ _ hfr q => ⟨q.1.kept (fun _ _ z => z) hfr, q.2.kept (fun _ _ z => z) hfr⟩) hS hA rfl hl.1 rfl (Nat.le_of_ble_eq_true rfl) dL_areAlike_328 ⟨Nat.zero_le _, Nat.zero_le _⟩ (fun H locs hG hS => ?_)
                    obtain ⟨hP, hD⟩ := hG
                    obtain ⟨a, ea⟩ : ∃ a, upV x % n = a := ⟨_, rfl⟩
                    have ha : a < n := by rw [← ea]; exact Nat.mod_lt _ (by omega)
                    refine rk_ev (congrArg nI ea) ?_
                    refine lv_istore (lv' := [(5, .int (nI a)), (4, .int (nI 1)), (0, .ref (ad1 0)), (1, .ref (ad2 0)), (2, .int (nI n)), (3, .int x)]) hx hb dL_areAlike_331 hl (by decide) rfl (fun ls hl => ?_)
                    refine lv_iload_n hx hb dL_areAlike_333 rfl (lv_at hl 5 rfl) ?_
                    refine lv_iconst (v := nI 4) hx hb dL_areAlike_334 (by decide) ?_
                    refine lv_ishr hx hb dL_areAlike_335 ?_
                    refine lv_iload_n hx hb dL_areAlike_336 rfl (lv_at hl 4 rfl) ?_
                    refine kX_0 (G := (fun H => OI E F1 ad1 n hc k T kk HA H ∧ OI E F2 ad2 n hc k T' kk HA' H)) (E := E) (As := [.int (x >>> ((nI 4) &&& 31)), .int (nI n)]) (rest := []) ⟨hx, hb, hml, hown, hts⟩ (c_L_up (l := l) (E := E) (sz := _) (v := x >>> ((nI 4) &&& 31)) (n := n) (gn0 := by omega) (gn1 := by omega)) (cwS 2 hts gL_areAlike_L_up rfl rfl rfl (by decide +kernel) ⟨by rw [hR]; decide, by rw [hR]; decide⟩) hK hN ⟨hP, hD⟩ (fun _ _ hfr q => ⟨q.1.kept (fun _ _ z => z) hfr, q.2.kept (fun _ _ z => z) hfr⟩) hS hA rfl hl.1 rfl (Nat.le_of_ble_eq_true rfl) dL_areAlike_337 ⟨Nat.zero_le _, Nat.zero_le _⟩ (fun H locs hG hS => ?_)
                    obtain ⟨hP, hD⟩ := hG
                    obtain ⟨b, eb⟩ : ∃ b, upV (x >>> (nI 4 &&& 31)) % n = b := ⟨_, rfl⟩
                    have hb9 : b < n := by rw [← eb]; exact Nat.mod_lt _ (by omega)
                    refine rk_ev (congrArg nI eb) ?_
                    refine lv_istore (lv' := [(6, .int (nI b)), (5, .int (nI a)), (4, .int (nI 1)), (0, .ref (ad1 0)), (1, .ref (ad2 0)), (2, .int (nI n)), (3, .int x)]) hx hb dL_areAlike_340 hl (by decide) rfl (fun ls hl => ?_)
                    refine lv_aload_n hx hb dL_areAlike_342 rfl (lv_at hl 3 rfl) ?_
                    refine lv_iload hx hb dL_areAlike_343 (lv_at hl 1 rfl) ?_
                    refine lv_iload hx hb dL_areAlike_345 (lv_at hl 0 rfl) ?_
                    refine lv_iconst (v := nI 1) hx hb dL_areAlike_347 (by decide) ?_
                    refine oq_way1 (G := (fun H => OI E F2 ad2 n hc k T' kk HA' H)) (rest := []) ⟨hx, hb, hml, hown, hts⟩ hK hN hA hFA1 hP hD (fun _ _ hfr q => q.kept hap2 hfr) hS (x := a) (y := b) (by omega) (by omega) (cwV 3 hts gL_areAlike_X4_way rfl rfl rfl (by decide +kernel) ⟨by rw [hR]; decide, by rw [hR]; decide⟩) hl.1 rfl (Nat.le_of_ble_eq_true rfl) dL_areAlike_348 ⟨Nat.zero_le _, Nat.zero_le _⟩ (fun H locs hP hD hS => ?_)
                    refine lv_istore (lv' := [(7, .int (wzA T k a b)), (6, .int (nI b)), (5, .int (nI a)), (4, .int (nI 1)), (0, .ref (ad1 0)), (1, .ref (ad2 0)), (2, .int (nI n)), (3, .int x)]) hx hb dL_areAlike_351 hl (by decide) rfl (fun ls hl => ?_)
                    refine lv_iconst (v := nI 0) hx hb dL_areAlike_353 (by decide) ?_
                    refine lv_istore (lv' := [(8, .int (nI 0)), (7, .int (wzA T k a b)), (6, .int (nI b)), (5, .int (nI a)), (4, .int (nI 1)), (0, .ref (ad1 0)), (1, .ref (ad2 0)), (2, .int (nI n)), (3, .int x)]) hx hb dL_areAlike_354 hl (by decide) rfl (fun ls hl => ?_)
                    have L356 : ∀ (fu : Nat) (v : Nat) (gv : v ≤ 33), 34 - v < fu → ∀ (H : Heap) (locs : List Loc), OI E F1 ad1 n hc k T kk HA H → OI E F2 ad2 n hc k T' kk HA' H → va_S A s.heap H locs → ∀ (ls : Array Slot), lv_has ls 9 [(8, .int (nI v)), (7, .int (wzA T k a b)), (6, .int (nI b)), (5, .int (nI a)), (4, .int (nI 1)), (0, .ref (ad1 0)), (1, .ref (ad2 0)), (2, .int (nI n)), (3, .int x)] → W p l e R s m args below meth c H locs 0 0 Q (F0 m 356 ls []) := by
                      intro fu
                      induction fu with
                      | zero => intro v gv hfu; exact absurd hfu (Nat.not_lt_zero _)
                      | succ fu ih356 =>
                        intro v gv hfu H locs hP hD hS ls hl
                        refine lv_iload hx hb dL_areAlike_356 (lv_at hl 0 rfl) ?_
                        refine lv_iload hx hb dL_areAlike_358 (lv_at hl 1 rfl) ?_
                        refine lv_icmp_gt (tgt := 412) hx hb dL_areAlike_360 (by decide) (fun zc360 => ?_) (fun zc360 => ?_)
                        · refine lv_iload hx hb dL_areAlike_412 (lv_at hl 4 rfl) ?_
                          refine lv_if_eq (tgt := 541) hx hb dL_areAlike_414 (by decide) (fun q => absurd q (by decide)) (fun _ => ?_)
                          refine lv_aload_n hx hb dL_areAlike_417 rfl (lv_at hl 5 rfl) ?_
                          refine lv_iload hx hb dL_areAlike_418 (lv_at hl 3 rfl) ?_
                          refine lv_iload hx hb dL_areAlike_420 (lv_at hl 2 rfl) ?_
                          refine lv_iconst (v := nI 0) hx hb dL_areAlike_422 (by decide) ?_
                          refine oq_way0 (G := (fun H => OI E F2 ad2 n hc k T' kk HA' H)) (rest := []) ⟨hx, hb, hml, hown, hts⟩ hK hN hA hFA1 hP hD (fun _ _ hfr q => q.kept hap2 hfr) hS (x := a) (y := b) (by omega) (by omega) (cwV 3 hts gL_areAlike_X4_way rfl rfl rfl (by decide +kernel) ⟨by rw [hR]; decide, by rw [hR]; decide⟩) hl.1 rfl (Nat.le_of_ble_eq_true rfl) dL_areAlike_423 ⟨Nat.zero_le _, Nat.zero_le _⟩ (fun H locs hP hD hS => ?_)
                          refine lv_aload_n hx hb dL_areAlike_426 rfl (lv_at hl 6 rfl) ?_
                          refine lv_iload_n hx hb dL_areAlike_427 rfl (lv_at hl 7 rfl) ?_
                          refine lv_iconst (v := nI 1) hx hb dL_areAlike_428 (by decide) ?_
                          refine rk_isubN hx hb (by omega) dL_areAlike_429 ?_
                          refine lv_iload hx hb dL_areAlike_430 (lv_at hl 3 rfl) ?_
                          refine rk_isubN hx hb (by omega) dL_areAlike_432 ?_
                          refine lv_iload_n hx hb dL_areAlike_433 rfl (lv_at hl 7 rfl) ?_
                          refine lv_iconst (v := nI 1) hx hb dL_areAlike_434 (by decide) ?_
                          refine rk_isubN hx hb (by omega) dL_areAlike_435 ?_
                          refine lv_iload hx hb dL_areAlike_436 (lv_at hl 2 rfl) ?_
                          refine rk_isubN hx hb (by omega) dL_areAlike_438 ?_
                          refine lv_iconst (v := nI 0) hx hb dL_areAlike_439 (by decide) ?_
                          refine oq_way0 (G := (fun H => OI E F1 ad1 n hc k T kk HA H)) (rest := [.int (wyA T k a b)]) ⟨hx, hb, hml, hown, hts⟩ hK hN hA hFA2 hD hP (fun _ _ hfr q => q.kept hap1 hfr) hS (x := (n - 1) - a) (y := (n - 1) - b) (by omega) (by omega) (cwV 3 hts gL_areAlike_X4_way rfl rfl rfl (by decide +kernel) ⟨by rw [hR]; decide, by rw [hR]; decide⟩) hl.1 rfl (Nat.le_of_ble_eq_true rfl) dL_areAlike_440 ⟨Nat.zero_le _, Nat.zero_le _⟩ (fun H locs hD hP hS => ?_)
                          refine lv_icmp_ne (tgt := 541) hx hb dL_areAlike_443 (by decide) (fun q => absurd (wy_al hT hT' mi  ha hb9) q) (fun zc443 => ?_)
                          refine lv_iload hx hb dL_areAlike_446 (lv_at hl 1 rfl) ?_
                          refine lv_aload_n hx hb dL_areAlike_448 rfl (lv_at hl 6 rfl) ?_
                          refine lv_iload_n hx hb dL_areAlike_449 rfl (lv_at hl 7 rfl) ?_
                          refine lv_iconst (v := nI 1) hx hb dL_areAlike_450 (by decide) ?_
                          refine rk_isubN hx hb (by omega) dL_areAlike_451 ?_
                          refine lv_iload hx hb dL_areAlike_452 (lv_at hl 3 rfl) ?_
                          refine rk_isubN hx hb (by omega) dL_areAlike_454 ?_
                          refine lv_iload_n hx hb dL_areAlike_455 rfl (lv_at hl 7 rfl) ?_
                          refine lv_iconst (v := nI 1) hx hb dL_areAlike_456 (by decide) ?_
                          refine rk_isubN hx hb (by omega) dL_areAlike_457 ?_
                          refine lv_iload hx hb dL_areAlike_458 (lv_at hl 2 rfl) ?_
                          refine rk_isubN hx hb (by omega) dL_areAlike_460 ?_
                          refine lv_iconst (v := nI 1) hx hb dL_areAlike_461 (by decide) ?_
                          refine oq_way1 (G := (fun H => OI E F1 ad1 n hc k T kk HA H)) (rest := [.int (wzA T k a b)]) ⟨hx, hb, hml, hown, hts⟩ hK hN hA hFA2 hD hP (fun _ _ hfr q => q.kept hap1 hfr) hS (x := (n - 1) - a) (y := (n - 1) - b) (by omega) (by omega) (cwV 3 hts gL_areAlike_X4_way rfl rfl rfl (by decide +kernel) ⟨by rw [hR]; decide, by rw [hR]; decide⟩) hl.1 rfl (Nat.le_of_ble_eq_true rfl) dL_areAlike_462 ⟨Nat.zero_le _, Nat.zero_le _⟩ (fun H locs hD hP hS => ?_)
                          refine lv_icmp_ne (tgt := 541) hx hb dL_areAlike_465 (by decide) (fun q => absurd (wz_al hT hT' mi  ha hb9) q) (fun zc465 => ?_)
                          refine lv_aload_n hx hb dL_areAlike_468 rfl (lv_at hl 5 rfl) ?_
                          refine lv_iconst (v := nI 2) hx hb dL_areAlike_469 (by decide) ?_
                          refine oq_best (G := (fun H => OI E F2 ad2 n hc k T' kk HA' H)) (rest := []) ⟨hx, hb, hml, hown, hts⟩ hK hN hA hFA1 hP hD (fun _ _ hfr q => q.kept hap2 hfr) hS  (cwV 1 hts gL_areAlike_X4_bestBuilt rfl rfl rfl (by decide +kernel) ⟨by rw [hR]; decide, by rw [hR]; decide⟩) hl.1 rfl (Nat.le_of_ble_eq_true rfl) dL_areAlike_470 ⟨Nat.zero_le _, Nat.zero_le _⟩ (fun H locs hP hD hS => ?_)
                          refine lv_aload_n hx hb dL_areAlike_473 rfl (lv_at hl 6 rfl) ?_
                          refine lv_iconst (v := nI 2) hx hb dL_areAlike_474 (by decide) ?_
                          refine oq_best (G := (fun H => OI E F1 ad1 n hc k T kk HA H)) (rest := [.int (bbM T k n)]) ⟨hx, hb, hml, hown, hts⟩ hK hN hA hFA2 hD hP (fun _ _ hfr q => q.kept hap1 hfr) hS  (cwV 1 hts gL_areAlike_X4_bestBuilt rfl rfl rfl (by decide +kernel) ⟨by rw [hR]; decide, by rw [hR]; decide⟩) hl.1 rfl (Nat.le_of_ble_eq_true rfl) dL_areAlike_475 ⟨Nat.zero_le _, Nat.zero_le _⟩ (fun H locs hD hP hS => ?_)
                          refine lv_icmp_ne (tgt := 541) hx hb dL_areAlike_478 (by decide) (fun q => absurd ((bb_mi hT hT' mi ).symm) q) (fun zc478 => ?_)
                          refine lv_aload_n hx hb dL_areAlike_481 rfl (lv_at hl 5 rfl) ?_
                          refine lv_iconst (v := nI 0) hx hb dL_areAlike_482 (by decide) ?_
                          refine oq_worst (G := (fun H => OI E F2 ad2 n hc k T' kk HA' H)) (rest := []) ⟨hx, hb, hml, hown, hts⟩ hK hN hA hFA1 hP hD (fun _ _ hfr q => q.kept hap2 hfr) hS (v := 0) (by decide) (cwV 1 hts gL_areAlike_X4_worstLoss rfl rfl rfl (by decide +kernel) ⟨by rw [hR]; decide, by rw [hR]; decide⟩) hl.1 rfl (Nat.le_of_ble_eq_true rfl) dL_areAlike_483 ⟨Nat.zero_le _, Nat.zero_le _⟩ (fun H locs hP hD hS => ?_)
                          refine lv_aload_n hx hb dL_areAlike_486 rfl (lv_at hl 6 rfl) ?_
                          refine lv_iconst (v := nI 0) hx hb dL_areAlike_487 (by decide) ?_
                          refine oq_worst (G := (fun H => OI E F1 ad1 n hc k T kk HA H)) (rest := [.int (wlA T k 0)]) ⟨hx, hb, hml, hown, hts⟩ hK hN hA hFA2 hD hP (fun _ _ hfr q => q.kept hap1 hfr) hS (v := 0) (by decide) (cwV 1 hts gL_areAlike_X4_worstLoss rfl rfl rfl (by decide +kernel) ⟨by rw [hR]; decide, by rw [hR]; decide⟩) hl.1 rfl (Nat.le_of_ble_eq_true rfl) dL_areAlike_488 ⟨Nat.zero_le _, Nat.zero_le _⟩ (fun H locs hD hP hS => ?_)
                          refine lv_icmp_ne (tgt := 541) hx hb dL_areAlike_491 (by decide) (fun q => absurd (wl_al hT hT' mi  0) q) (fun zc491 => ?_)
                          refine lv_aload_n hx hb dL_areAlike_494 rfl (lv_at hl 5 rfl) ?_
                          refine lv_iconst (v := nI 1) hx hb dL_areAlike_495 (by decide) ?_
                          refine oq_worst (G := (fun H => OI E F2 ad2 n hc k T' kk HA' H)) (rest := []) ⟨hx, hb, hml, hown, hts⟩ hK hN hA hFA1 hP hD (fun _ _ hfr q => q.kept hap2 hfr) hS (v := 1) (by decide) (cwV 1 hts gL_areAlike_X4_worstLoss rfl rfl rfl (by decide +kernel) ⟨by rw [hR]; decide, by rw [hR]; decide⟩) hl.1 rfl (Nat.le_of_ble_eq_true rfl) dL_areAlike_496 ⟨Nat.zero_le _, Nat.zero_le _⟩ (fun H locs hP hD hS => ?_)
                          refine lv_aload_n hx hb dL_areAlike_499 rfl (lv_at hl 6 rfl) ?_
                          refine lv_iconst (v := nI 1) hx hb dL_areAlike_500 (by decide) ?_
                          refine oq_worst (G := (fun H => OI E F1 ad1 n hc k T kk HA H)) (rest := [.int (wlA T k 1)]) ⟨hx, hb, hml, hown, hts⟩ hK hN hA hFA2 hD hP (fun _ _ hfr q => q.kept hap1 hfr) hS (v := 1) (by decide) (cwV 1 hts gL_areAlike_X4_worstLoss rfl rfl rfl (by decide +kernel) ⟨by rw [hR]; decide, by rw [hR]; decide⟩) hl.1 rfl (Nat.le_of_ble_eq_true rfl) dL_areAlike_501 ⟨Nat.zero_le _, Nat.zero_le _⟩ (fun H locs hD hP hS => ?_)
                          refine lv_icmp_ne (tgt := 541) hx hb dL_areAlike_504 (by decide) (fun q => absurd (wl_al hT hT' mi  1) q) (fun zc504 => ?_)
                          refine lv_iload hx hb dL_areAlike_507 (lv_at hl 3 rfl) ?_
                          refine lv_iload hx hb dL_areAlike_509 (lv_at hl 2 rfl) ?_
                          refine rk_eqN (tgt := 537) hx hb (by omega) (by omega) dL_areAlike_511 (by decide) (fun zc511 => ?_) (fun zc511 => ?_)
                          · refine lv_iconst (v := nI 1) hx hb dL_areAlike_537 (by decide) ?_
                            refine lv_goto (tgt := 542) hx hb dL_areAlike_538 (by decide) ?_
                            exact rx_z hQ hx hb hr hlocks ⟨hP, hD⟩ hS dL_areAlike_542 nz_1 rfl
                          · have hab : ¬ a = b := zc511
                            refine lv_aload_n hx hb dL_areAlike_514 rfl (lv_at hl 5 rfl) ?_
                            refine lv_iload hx hb dL_areAlike_515 (lv_at hl 3 rfl) ?_
                            refine lv_iload hx hb dL_areAlike_517 (lv_at hl 2 rfl) ?_
                            refine lv_iconst (v := nI 0) hx hb dL_areAlike_519 (by decide) ?_
                            refine oq_ifb (G := (fun H => OI E F2 ad2 n hc k T' kk HA' H)) (rest := []) ⟨hx, hb, hml, hown, hts⟩ hK hN hA hFA1 hP hD (fun _ _ hfr q => q.kept hap2 hfr) hS (x := a) (y := b) (v := 0) (by omega) (by omega) hab (by omega) (cwV 3 hts gL_areAlike_X4_ifBuilt rfl rfl rfl (by decide +kernel) ⟨by rw [hR]; decide, by rw [hR]; decide⟩) hl.1 rfl (Nat.le_of_ble_eq_true rfl) dL_areAlike_520 ⟨Nat.zero_le _, Nat.zero_le _⟩ (fun H locs hP hD hS => ?_)
                            refine lv_iload hx hb dL_areAlike_523 (lv_at hl 1 rfl) ?_
                            refine lv_if_ge (tgt := 532) hx hb dL_areAlike_525 (by decide) (fun zc525 => ?_) (fun zc525 => ?_)
                            · refine lv_iload hx hb dL_areAlike_532 (lv_at hl 1 rfl) ?_
                              refine lv_icmp_ne (tgt := 541) hx hb dL_areAlike_534 (by decide) (fun q => absurd (if_wz1 zc525) q) (fun zc534 => ?_)
                              refine lv_iconst (v := nI 1) hx hb dL_areAlike_537 (by decide) ?_
                              refine lv_goto (tgt := 542) hx hb dL_areAlike_538 (by decide) ?_
                              exact rx_z hQ hx hb hr hlocks ⟨hP, hD⟩ hS dL_areAlike_542 nz_1 rfl
                            · refine lv_iconst (v := nI 0) hx hb dL_areAlike_528 (by decide) ?_
                              refine lv_goto (tgt := 534) hx hb dL_areAlike_529 (by decide) ?_
                              refine lv_icmp_ne (tgt := 541) hx hb dL_areAlike_534 (by decide) (fun q => absurd (if_wz0 zc525) q) (fun zc534 => ?_)
                              refine lv_iconst (v := nI 1) hx hb dL_areAlike_537 (by decide) ?_
                              refine lv_goto (tgt := 542) hx hb dL_areAlike_538 (by decide) ?_
                              exact rx_z hQ hx hb hr hlocks ⟨hP, hD⟩ hS dL_areAlike_542 nz_1 rfl
                        · have gv2 := wz_b gv zc360
                          refine lv_iload hx hb dL_areAlike_363 (lv_at hl 4 rfl) ?_
                          refine lv_if_eq (tgt := 412) hx hb dL_areAlike_365 (by decide) (fun q => absurd q (by decide)) (fun _ => ?_)
                          refine lv_aload_n hx hb dL_areAlike_368 rfl (lv_at hl 5 rfl) ?_
                          refine lv_iload hx hb dL_areAlike_369 (lv_at hl 3 rfl) ?_
                          refine lv_iload hx hb dL_areAlike_371 (lv_at hl 2 rfl) ?_
                          refine lv_iload hx hb dL_areAlike_373 (lv_at hl 0 rfl) ?_
                          refine oq_must (G := (fun H => OI E F2 ad2 n hc k T' kk HA' H)) (rest := []) ⟨hx, hb, hml, hown, hts⟩ hK hN hA hFA1 hP hD (fun _ _ hfr q => q.kept hap2 hfr) hS (x := a) (y := b) (by omega) (by omega) (nI_pos' (by omega)) (cwV 3 hts gL_areAlike_X4_must rfl rfl rfl (by decide +kernel) ⟨by rw [hR]; decide, by rw [hR]; decide⟩) hl.1 rfl (Nat.le_of_ble_eq_true rfl) dL_areAlike_375 ⟨Nat.zero_le _, Nat.zero_le _⟩ (fun H locs hP hD hS => ?_)
                          refine lv_aload_n hx hb dL_areAlike_378 rfl (lv_at hl 6 rfl) ?_
                          refine lv_iload_n hx hb dL_areAlike_379 rfl (lv_at hl 7 rfl) ?_
                          refine lv_iconst (v := nI 1) hx hb dL_areAlike_380 (by decide) ?_
                          refine rk_isubN hx hb (by omega) dL_areAlike_381 ?_
                          refine lv_iload hx hb dL_areAlike_382 (lv_at hl 3 rfl) ?_
                          refine rk_isubN hx hb (by omega) dL_areAlike_384 ?_
                          refine lv_iload_n hx hb dL_areAlike_385 rfl (lv_at hl 7 rfl) ?_
                          refine lv_iconst (v := nI 1) hx hb dL_areAlike_386 (by decide) ?_
                          refine rk_isubN hx hb (by omega) dL_areAlike_387 ?_
                          refine lv_iload hx hb dL_areAlike_388 (lv_at hl 2 rfl) ?_
                          refine rk_isubN hx hb (by omega) dL_areAlike_390 ?_
                          refine lv_iload hx hb dL_areAlike_391 (lv_at hl 0 rfl) ?_
                          refine oq_must (G := (fun H => OI E F1 ad1 n hc k T kk HA H)) (rest := [.int (mtA T k a b (nI v))]) ⟨hx, hb, hml, hown, hts⟩ hK hN hA hFA2 hD hP (fun _ _ hfr q => q.kept hap1 hfr) hS (x := (n - 1) - a) (y := (n - 1) - b) (by omega) (by omega) (nI_pos' (by omega)) (cwV 3 hts gL_areAlike_X4_must rfl rfl rfl (by decide +kernel) ⟨by rw [hR]; decide, by rw [hR]; decide⟩) hl.1 rfl (Nat.le_of_ble_eq_true rfl) dL_areAlike_393 ⟨Nat.zero_le _, Nat.zero_le _⟩ (fun H locs hD hP hS => ?_)
                          refine lv_icmp_ne (tgt := 403) hx hb dL_areAlike_396 (by decide) (fun q => absurd (mt_al hT hT' mi  ha hb9 _) q) (fun zc396 => ?_)
                          refine lv_iconst (v := nI 1) hx hb dL_areAlike_399 (by decide) ?_
                          refine lv_goto (tgt := 404) hx hb dL_areAlike_400 (by decide) ?_
                          refine lv_istore (lv' := [(4, .int (nI 1)), (8, .int (nI v)), (7, .int (wzA T k a b)), (6, .int (nI b)), (5, .int (nI a)), (0, .ref (ad1 0)), (1, .ref (ad2 0)), (2, .int (nI n)), (3, .int x)]) hx hb dL_areAlike_404 hl (by decide) rfl (fun ls hl => ?_)
                          refine lv_iinc (v := nI (v + 1)) (lv' := [(8, .int (nI (v + 1))), (4, .int (nI 1)), (7, .int (wzA T k a b)), (6, .int (nI b)), (5, .int (nI a)), (0, .ref (ad1 0)), (1, .ref (ad2 0)), (2, .int (nI n)), (3, .int x)]) hx hb dL_areAlike_406 hl (k := 1) rfl (by rw [show Int32.ofInt 1 = nI 1 by decide]; exact nI_add _ _) (by decide) rfl (fun ls hl => ?_)
                          refine lv_goto (tgt := 356) hx hb dL_areAlike_409 (by decide) ?_
                          exact ih356 (v + 1) (by first | assumption | omega | rfl) (by omega) _ _ hP hD hS ls (lv_sub hl [0, 2, 3, 4, 1, 5, 6, 7, 8] rfl)
                    exact L356 ((34 - 0) + 1) 0 (by first | assumption | omega | rfl) (Nat.lt_succ_self _) _ _ hP hD hS ls (lv_sub hl [0, 1, 2, 3, 4, 5, 6, 7, 8] rfl)
                  · refine lv_iload hx hb dL_areAlike_182 (lv_at hl 1 rfl) ?_
                    refine lv_if_eq (tgt := 326) hx hb dL_areAlike_184 (by decide) (fun q => absurd q (by decide)) (fun _ => ?_)
                    have hd1 := dl_lt hT zc179
                    have hd2 := dl_lt hT' (show n - 1 - y < n by omega)
                    refine lv_iload_n hx hb dL_areAlike_187 rfl (lv_at hl 4 rfl) ?_
                    refine lv_iconst (v := nI 1) hx hb dL_areAlike_188 (by decide) ?_
                    refine rk_isubN hx hb (by omega) dL_areAlike_189 ?_
                    refine lv_iload hx hb dL_areAlike_190 (lv_at hl 0 rfl) ?_
                    refine rk_isubN hx hb (by omega) dL_areAlike_192 ?_
                    refine lv_istore (lv' := [(6, .int (nI ((n - 1) - y))), (5, .int (nI y)), (4, .int (nI 1)), (0, .ref (ad1 0)), (1, .ref (ad2 0)), (2, .int (nI n)), (3, .int x)]) hx hb dL_areAlike_193 hl (by decide) rfl (fun ls hl => ?_)
                    refine lv_aload_n hx hb dL_areAlike_195 rfl (lv_at hl 3 rfl) ?_
                    refine lv_iload hx hb dL_areAlike_196 (lv_at hl 1 rfl) ?_
                    refine lv_iconst (v := nI 0) hx hb dL_areAlike_198 (by decide) ?_
                    refine oq_square (G := (fun H => OI E F2 ad2 n hc k T' kk HA' H)) (rest := []) ⟨hx, hb, hml, hown, hts⟩ hK hN hA hFA1 hP hD (fun _ _ hfr q => q.kept hap2 hfr) hS (x := y) (v := 0) (by omega) (cwV 2 hts gL_areAlike_X4_square rfl rfl rfl (by decide +kernel) ⟨by rw [hR]; decide, by rw [hR]; decide⟩) hl.1 rfl (Nat.le_of_ble_eq_true rfl) dL_areAlike_199 ⟨Nat.zero_le _, Nat.zero_le _⟩ (fun H locs hP hD hS => ?_)
                    refine rk_ev (show _ = nI (roM T (nI 1 <<< (nI y &&& 31)) k) from sqA_0) ?_
                    refine lv_aload_n hx hb dL_areAlike_202 rfl (lv_at hl 4 rfl) ?_
                    refine lv_iload hx hb dL_areAlike_203 (lv_at hl 0 rfl) ?_
                    refine lv_iconst (v := nI 0) hx hb dL_areAlike_205 (by decide) ?_
                    refine oq_square (G := (fun H => OI E F1 ad1 n hc k T kk HA H)) (rest := [.int (nI (roM T (nI 1 <<< (nI y &&& 31)) k))]) ⟨hx, hb, hml, hown, hts⟩ hK hN hA hFA2 hD hP (fun _ _ hfr q => q.kept hap1 hfr) hS (x := (n - 1) - y) (v := 0) (by omega) (cwV 2 hts gL_areAlike_X4_square rfl rfl rfl (by decide +kernel) ⟨by rw [hR]; decide, by rw [hR]; decide⟩) hl.1 rfl (Nat.le_of_ble_eq_true rfl) dL_areAlike_206 ⟨Nat.zero_le _, Nat.zero_le _⟩ (fun H locs hD hP hS => ?_)
                    refine rk_ev (show _ = nI (roM T' (nI 1 <<< (nI ((n - 1) - y) &&& 31)) k) from sqA_0) ?_
                    refine lv_icmp_ne (tgt := 317) hx hb dL_areAlike_209 (by decide) (fun q => absurd (sq_0 hT hT' mi  zc179) q) (fun zc209 => ?_)
                    refine lv_aload_n hx hb dL_areAlike_212 rfl (lv_at hl 3 rfl) ?_
                    refine lv_iload hx hb dL_areAlike_213 (lv_at hl 1 rfl) ?_
                    refine lv_iconst (v := nI 1) hx hb dL_areAlike_215 (by decide) ?_
                    refine oq_square (G := (fun H => OI E F2 ad2 n hc k T' kk HA' H)) (rest := []) ⟨hx, hb, hml, hown, hts⟩ hK hN hA hFA1 hP hD (fun _ _ hfr q => q.kept hap2 hfr) hS (x := y) (v := 1) (by omega) (cwV 2 hts gL_areAlike_X4_square rfl rfl rfl (by decide +kernel) ⟨by rw [hR]; decide, by rw [hR]; decide⟩) hl.1 rfl (Nat.le_of_ble_eq_true rfl) dL_areAlike_216 ⟨Nat.zero_le _, Nat.zero_le _⟩ (fun H locs hP hD hS => ?_)
                    refine rk_ev (show _ = b2i (decide (¬ mpM T k n y ≤ 0)) from sqA_1) ?_
                    refine lv_aload_n hx hb dL_areAlike_219 rfl (lv_at hl 4 rfl) ?_
                    refine lv_iload hx hb dL_areAlike_220 (lv_at hl 0 rfl) ?_
                    refine lv_iconst (v := nI 1) hx hb dL_areAlike_222 (by decide) ?_
                    refine oq_square (G := (fun H => OI E F1 ad1 n hc k T kk HA H)) (rest := [.int (b2i (decide (¬ mpM T k n y ≤ 0)))]) ⟨hx, hb, hml, hown, hts⟩ hK hN hA hFA2 hD hP (fun _ _ hfr q => q.kept hap1 hfr) hS (x := (n - 1) - y) (v := 1) (by omega) (cwV 2 hts gL_areAlike_X4_square rfl rfl rfl (by decide +kernel) ⟨by rw [hR]; decide, by rw [hR]; decide⟩) hl.1 rfl (Nat.le_of_ble_eq_true rfl) dL_areAlike_223 ⟨Nat.zero_le _, Nat.zero_le _⟩ (fun H locs hD hP hS => ?_)
                    refine rk_ev (show _ = b2i (decide (¬ mpM T' k n ((n - 1) - y) ≤ 0)) from sqA_1) ?_
                    refine lv_icmp_ne (tgt := 317) hx hb dL_areAlike_226 (by decide) (fun q => absurd (mp_dec hT hT' mi  zc179) q) (fun zc226 => ?_)
                    refine lv_aload_n hx hb dL_areAlike_229 rfl (lv_at hl 3 rfl) ?_
                    refine lv_iload hx hb dL_areAlike_230 (lv_at hl 1 rfl) ?_
                    refine lv_iconst (v := nI 3) hx hb dL_areAlike_232 (by decide) ?_
                    refine oq_square (G := (fun H => OI E F2 ad2 n hc k T' kk HA' H)) (rest := []) ⟨hx, hb, hml, hown, hts⟩ hK hN hA hFA1 hP hD (fun _ _ hfr q => q.kept hap2 hfr) hS (x := y) (v := 3) (by omega) (cwV 2 hts gL_areAlike_X4_square rfl rfl rfl (by decide +kernel) ⟨by rw [hR]; decide, by rw [hR]; decide⟩) hl.1 rfl (Nat.le_of_ble_eq_true rfl) dL_areAlike_233 ⟨Nat.zero_le _, Nat.zero_le _⟩ (fun H locs hP hD hS => ?_)
                    refine rk_ev (show _ = rsM T (nI 0) (-6) k y from sqA_3) ?_
                    refine lv_iload_n hx hb dL_areAlike_236 rfl (lv_at hl 5 rfl) ?_
                    refine kX_0 (G := (fun H => OI E F1 ad1 n hc k T kk HA H ∧ OI E F2 ad2 n hc k T' kk HA' H)) (E := E) (As := [.int (rsM T (nI 0) (-6) k y), .int (nI n)]) (rest := []) ⟨hx, hb, hml, hown, hts⟩ (c_L_there (l := l) (E := E) (sz := _) (x := rsM T (nI 0) (-6) k y) (n := n) (gn := by omega)) (cwS 2 hts gL_areAlike_L_there rfl rfl rfl (by decide +kernel) ⟨by rw [hR]; decide, by rw [hR]; decide⟩) hK hN ⟨hP, hD⟩ (fun _ _ hfr q => ⟨q.1.kept (fun _ _ z => z) hfr, q.2.kept (fun _ _ z => z) hfr⟩) hS hA rfl hl.1 rfl (Nat.le_of_ble_eq_true rfl) dL_areAlike_237 ⟨Nat.zero_le _, Nat.zero_le _⟩ (fun H locs hG hS => ?_)
                    obtain ⟨hP, hD⟩ := hG
                    refine lv_aload_n hx hb dL_areAlike_240 rfl (lv_at hl 4 rfl) ?_
                    refine lv_iload hx hb dL_areAlike_241 (lv_at hl 0 rfl) ?_
                    refine lv_iconst (v := nI 3) hx hb dL_areAlike_243 (by decide) ?_
                    refine oq_square (G := (fun H => OI E F1 ad1 n hc k T kk HA H)) (rest := [.int (thF (rsM T (nI 0) (-6) k y) n n)]) ⟨hx, hb, hml, hown, hts⟩ hK hN hA hFA2 hD hP (fun _ _ hfr q => q.kept hap1 hfr) hS (x := (n - 1) - y) (v := 3) (by omega) (cwV 2 hts gL_areAlike_X4_square rfl rfl rfl (by decide +kernel) ⟨by rw [hR]; decide, by rw [hR]; decide⟩) hl.1 rfl (Nat.le_of_ble_eq_true rfl) dL_areAlike_244 ⟨Nat.zero_le _, Nat.zero_le _⟩ (fun H locs hD hP hS => ?_)
                    refine rk_ev (show _ = rsM T' (nI 0) (-6) k ((n - 1) - y) from sqA_3) ?_
                    refine lv_icmp_ne (tgt := 317) hx hb dL_areAlike_247 (by decide) (fun q => absurd (sq_3 hT hT' mi  zc179) q) (fun zc247 => ?_)
                    refine lv_aload_n hx hb dL_areAlike_250 rfl (lv_at hl 3 rfl) ?_
                    refine lv_iload hx hb dL_areAlike_251 (lv_at hl 1 rfl) ?_
                    refine lv_iconst (v := nI 4) hx hb dL_areAlike_253 (by decide) ?_
                    refine oq_square (G := (fun H => OI E F2 ad2 n hc k T' kk HA' H)) (rest := []) ⟨hx, hb, hml, hown, hts⟩ hK hN hA hFA1 hP hD (fun _ _ hfr q => q.kept hap2 hfr) hS (x := y) (v := 4) (by omega) (cwV 2 hts gL_areAlike_X4_square rfl rfl rfl (by decide +kernel) ⟨by rw [hR]; decide, by rw [hR]; decide⟩) hl.1 rfl (Nat.le_of_ble_eq_true rfl) dL_areAlike_254 ⟨Nat.zero_le _, Nat.zero_le _⟩ (fun H locs hP hD hS => ?_)
                    refine rk_ev (show _ = mpM T k n y from sqA_4) ?_
                    refine lv_aload_n hx hb dL_areAlike_257 rfl (lv_at hl 4 rfl) ?_
                    refine lv_iload hx hb dL_areAlike_258 (lv_at hl 0 rfl) ?_
                    refine lv_iconst (v := nI 4) hx hb dL_areAlike_260 (by decide) ?_
                    refine oq_square (G := (fun H => OI E F1 ad1 n hc k T kk HA H)) (rest := [.int (mpM T k n y)]) ⟨hx, hb, hml, hown, hts⟩ hK hN hA hFA2 hD hP (fun _ _ hfr q => q.kept hap1 hfr) hS (x := (n - 1) - y) (v := 4) (by omega) (cwV 2 hts gL_areAlike_X4_square rfl rfl rfl (by decide +kernel) ⟨by rw [hR]; decide, by rw [hR]; decide⟩) hl.1 rfl (Nat.le_of_ble_eq_true rfl) dL_areAlike_261 ⟨Nat.zero_le _, Nat.zero_le _⟩ (fun H locs hD hP hS => ?_)
                    refine rk_ev (show _ = mpM T' k n ((n - 1) - y) from sqA_4) ?_
                    refine lv_icmp_ne (tgt := 317) hx hb dL_areAlike_264 (by decide) (fun q => absurd ((mp_mi hT hT' mi  zc179).symm) q) (fun zc264 => ?_)
                    refine lv_aload_n hx hb dL_areAlike_267 rfl (lv_at hl 3 rfl) ?_
                    refine lv_iload hx hb dL_areAlike_268 (lv_at hl 1 rfl) ?_
                    refine oq_need (G := (fun H => OI E F2 ad2 n hc k T' kk HA' H)) (rest := []) ⟨hx, hb, hml, hown, hts⟩ hK hN hA hFA1 hP hD (fun _ _ hfr q => q.kept hap2 hfr) hS (x := y) (by omega) (cwV 1 hts gL_areAlike_X4_needed rfl rfl rfl (by decide +kernel) ⟨by rw [hR]; decide, by rw [hR]; decide⟩) hl.1 rfl (Nat.le_of_ble_eq_true rfl) dL_areAlike_270 ⟨Nat.zero_le _, Nat.zero_le _⟩ (fun H locs hP hD hS => ?_)
                    refine lv_aload_n hx hb dL_areAlike_273 rfl (lv_at hl 4 rfl) ?_
                    refine lv_iload hx hb dL_areAlike_274 (lv_at hl 0 rfl) ?_
                    refine oq_need (G := (fun H => OI E F1 ad1 n hc k T kk HA H)) (rest := [.int (ndA T k n y)]) ⟨hx, hb, hml, hown, hts⟩ hK hN hA hFA2 hD hP (fun _ _ hfr q => q.kept hap1 hfr) hS (x := (n - 1) - y) (by omega) (cwV 1 hts gL_areAlike_X4_needed rfl rfl rfl (by decide +kernel) ⟨by rw [hR]; decide, by rw [hR]; decide⟩) hl.1 rfl (Nat.le_of_ble_eq_true rfl) dL_areAlike_276 ⟨Nat.zero_le _, Nat.zero_le _⟩ (fun H locs hD hP hS => ?_)
                    refine lv_icmp_ne (tgt := 317) hx hb dL_areAlike_279 (by decide) (fun q => absurd (nd_al hT hT' mi  zc179) q) (fun zc279 => ?_)
                    refine lv_aload_n hx hb dL_areAlike_282 rfl (lv_at hl 3 rfl) ?_
                    refine lv_aload_n hx hb dL_areAlike_283 rfl (lv_at hl 3 rfl) ?_
                    refine lv_iload hx hb dL_areAlike_284 (lv_at hl 1 rfl) ?_
                    refine lv_iconst (v := nI 2) hx hb dL_areAlike_286 (by decide) ?_
                    refine oq_square (G := (fun H => OI E F2 ad2 n hc k T' kk HA' H)) (rest := [.ref (ad1 0)]) ⟨hx, hb, hml, hown, hts⟩ hK hN hA hFA1 hP hD (fun _ _ hfr q => q.kept hap2 hfr) hS (x := y) (v := 2) (by omega) (cwV 2 hts gL_areAlike_X4_square rfl rfl rfl (by decide +kernel) ⟨by rw [hR]; decide, by rw [hR]; decide⟩) hl.1 rfl (Nat.le_of_ble_eq_true rfl) dL_areAlike_287 ⟨Nat.zero_le _, Nat.zero_le _⟩ (fun H locs hP hD hS => ?_)
                    refine rk_ev (show _ = nI (dtM T k y) from sqA_2) ?_
                    refine lv_iconst (v := nI 0) hx hb dL_areAlike_290 (by decide) ?_
                    refine oq_district (G := (fun H => OI E F2 ad2 n hc k T' kk HA' H)) (rest := []) ⟨hx, hb, hml, hown, hts⟩ hK hN hA hFA1 hP hD (fun _ _ hfr q => q.kept hap2 hfr) hS (d := dtM T k y) (v := 0) (by omega) (cwV 2 hts gL_areAlike_X4_district rfl rfl rfl (by decide +kernel) ⟨by rw [hR]; decide, by rw [hR]; decide⟩) hl.1 rfl (Nat.le_of_ble_eq_true rfl) dL_areAlike_291 ⟨Nat.zero_le _, Nat.zero_le _⟩ (fun H locs hP hD hS => ?_)
                    refine rk_ev (show _ = sqM T k n (dtM T k y) from dsA_0) ?_
                    refine lv_iload_n hx hb dL_areAlike_294 rfl (lv_at hl 5 rfl) ?_
                    refine kX_0 (G := (fun H => OI E F1 ad1 n hc k T kk HA H ∧ OI E F2 ad2 n hc k T' kk HA' H)) (E := E) (As := [.int (sqM T k n (dtM T k y)), .int (nI n)]) (rest := []) ⟨hx, hb, hml, hown, hts⟩ (c_L_there (l := l) (E := E) (sz := _) (x := sqM T k n (dtM T k y)) (n := n) (gn := by omega)) (cwS 2 hts gL_areAlike_L_there rfl rfl rfl (by decide +kernel) ⟨by rw [hR]; decide, by rw [hR]; decide⟩) hK hN ⟨hP, hD⟩ (fun _ _ hfr q => ⟨q.1.kept (fun _ _ z => z) hfr, q.2.kept (fun _ _ z => z) hfr⟩) hS hA rfl hl.1 rfl (Nat.le_of_ble_eq_true rfl) dL_areAlike_295 ⟨Nat.zero_le _, Nat.zero_le _⟩ (fun H locs hG hS => ?_)
                    obtain ⟨hP, hD⟩ := hG
                    refine lv_aload_n hx hb dL_areAlike_298 rfl (lv_at hl 4 rfl) ?_
                    refine lv_aload_n hx hb dL_areAlike_299 rfl (lv_at hl 4 rfl) ?_
                    refine lv_iload hx hb dL_areAlike_300 (lv_at hl 0 rfl) ?_
                    refine lv_iconst (v := nI 2) hx hb dL_areAlike_302 (by decide) ?_
                    refine oq_square (G := (fun H => OI E F1 ad1 n hc k T kk HA H)) (rest := [.ref (ad2 0), .int (thF (sqM T k n (dtM T k y)) n n)]) ⟨hx, hb, hml, hown, hts⟩ hK hN hA hFA2 hD hP (fun _ _ hfr q => q.kept hap1 hfr) hS (x := (n - 1) - y) (v := 2) (by omega) (cwV 2 hts gL_areAlike_X4_square rfl rfl rfl (by decide +kernel) ⟨by rw [hR]; decide, by rw [hR]; decide⟩) hl.1 rfl (Nat.le_of_ble_eq_true rfl) dL_areAlike_303 ⟨Nat.zero_le _, Nat.zero_le _⟩ (fun H locs hD hP hS => ?_)
                    refine rk_ev (show _ = nI (dtM T' k ((n - 1) - y)) from sqA_2) ?_
                    refine lv_iconst (v := nI 0) hx hb dL_areAlike_306 (by decide) ?_
                    refine oq_district (G := (fun H => OI E F1 ad1 n hc k T kk HA H)) (rest := [.int (thF (sqM T k n (dtM T k y)) n n)]) ⟨hx, hb, hml, hown, hts⟩ hK hN hA hFA2 hD hP (fun _ _ hfr q => q.kept hap1 hfr) hS (d := dtM T' k ((n - 1) - y)) (v := 0) (by omega) (cwV 2 hts gL_areAlike_X4_district rfl rfl rfl (by decide +kernel) ⟨by rw [hR]; decide, by rw [hR]; decide⟩) hl.1 rfl (Nat.le_of_ble_eq_true rfl) dL_areAlike_307 ⟨Nat.zero_le _, Nat.zero_le _⟩ (fun H locs hD hP hS => ?_)
                    refine rk_ev (show _ = sqM T' k n (dtM T' k ((n - 1) - y)) from dsA_0) ?_
                    refine lv_icmp_ne (tgt := 317) hx hb dL_areAlike_310 (by decide) (fun q => absurd (sq_d hT hT' mi  zc179) q) (fun zc310 => ?_)
                    refine lv_iconst (v := nI 1) hx hb dL_areAlike_313 (by decide) ?_
                    refine lv_goto (tgt := 318) hx hb dL_areAlike_314 (by decide) ?_
                    refine lv_istore (lv' := [(4, .int (nI 1)), (6, .int (nI ((n - 1) - y))), (5, .int (nI y)), (0, .ref (ad1 0)), (1, .ref (ad2 0)), (2, .int (nI n)), (3, .int x)]) hx hb dL_areAlike_318 hl (by decide) rfl (fun ls hl => ?_)
                    refine lv_iinc (v := nI (y + 1)) (lv' := [(5, .int (nI (y + 1))), (4, .int (nI 1)), (6, .int (nI ((n - 1) - y))), (0, .ref (ad1 0)), (1, .ref (ad2 0)), (2, .int (nI n)), (3, .int x)]) hx hb dL_areAlike_320 hl (k := 2) rfl (by rw [show Int32.ofInt 1 = nI 1 by decide]; exact nI_add _ _) (by decide) rfl (fun ls hl => ?_)
                    refine lv_goto (tgt := 176) hx hb dL_areAlike_323 (by decide) ?_
                    exact ih176 (y + 1) (by first | assumption | omega | rfl) (by omega) _ _ hP hD hS ls (lv_sub hl [0, 1, 3, 4, 5, 6] rfl)
              exact L176 ((n - 0) + 1) 0 (by first | assumption | omega | rfl) (Nat.lt_succ_self _) _ _ hP hD hS ls (lv_sub hl [0, 1, 2, 3, 4, 5] rfl)
            · refine lv_iload hx hb dL_areAlike_66 (lv_at hl 1 rfl) ?_
              refine lv_if_eq (tgt := 173) hx hb dL_areAlike_68 (by decide) (fun q => absurd q (by decide)) (fun _ => ?_)
              have hab9 := hT.ab r zc63
              have hab8 := hT'.ab r zc63
              have hln := (hT.ln zc63).2
              have hln' := (hT'.ln zc63).2
              refine lv_aload_n hx hb dL_areAlike_71 rfl (lv_at hl 2 rfl) ?_
              refine lv_iload hx hb dL_areAlike_72 (lv_at hl 0 rfl) ?_
              refine lv_iconst (v := nI 0) hx hb dL_areAlike_74 (by decide) ?_
              refine oq_road (G := (fun H => OI E F2 ad2 n hc k T' kk HA' H)) (rest := []) ⟨hx, hb, hml, hown, hts⟩ hK hN hA hFA1 hP hD (fun _ _ hfr q => q.kept hap2 hfr) hS (r := r) (v := 0) (by omega) (cwV 2 hts gL_areAlike_X4_road rfl rfl rfl (by decide +kernel) ⟨by rw [hR]; decide, by rw [hR]; decide⟩) hl.1 rfl (Nat.le_of_ble_eq_true rfl) dL_areAlike_75 ⟨Nat.zero_le _, Nat.zero_le _⟩ (fun H locs hP hD hS => ?_)
              refine rk_ev (show _ = nI (mlo T r) from rdA_0) ?_
              refine lv_iload_n hx hb dL_areAlike_78 rfl (lv_at hl 4 rfl) ?_
              refine lv_iconst (v := nI 1) hx hb dL_areAlike_79 (by decide) ?_
              refine rk_isubN hx hb (by omega) dL_areAlike_80 ?_
              refine lv_aload_n hx hb dL_areAlike_81 rfl (lv_at hl 3 rfl) ?_
              refine lv_iload hx hb dL_areAlike_82 (lv_at hl 0 rfl) ?_
              refine lv_iconst (v := nI 1) hx hb dL_areAlike_84 (by decide) ?_
              refine oq_road (G := (fun H => OI E F1 ad1 n hc k T kk HA H)) (rest := [.int (nI (n - 1)), .int (nI (mlo T r))]) ⟨hx, hb, hml, hown, hts⟩ hK hN hA hFA2 hD hP (fun _ _ hfr q => q.kept hap1 hfr) hS (r := r) (v := 1) (by omega) (cwV 2 hts gL_areAlike_X4_road rfl rfl rfl (by decide +kernel) ⟨by rw [hR]; decide, by rw [hR]; decide⟩) hl.1 rfl (Nat.le_of_ble_eq_true rfl) dL_areAlike_85 ⟨Nat.zero_le _, Nat.zero_le _⟩ (fun H locs hD hP hS => ?_)
              refine rk_ev (show _ = nI (mhi T' r) from rdA_1) ?_
              refine rk_isubN hx hb (by omega) dL_areAlike_88 ?_
              refine lv_icmp_ne (tgt := 164) hx hb dL_areAlike_89 (by decide) (fun q => absurd (congrArg nI (by have := mi r zc63; omega)) q) (fun zc89 => ?_)
              refine lv_aload_n hx hb dL_areAlike_92 rfl (lv_at hl 2 rfl) ?_
              refine lv_iload hx hb dL_areAlike_93 (lv_at hl 0 rfl) ?_
              refine lv_iconst (v := nI 2) hx hb dL_areAlike_95 (by decide) ?_
              refine oq_road (G := (fun H => OI E F2 ad2 n hc k T' kk HA' H)) (rest := []) ⟨hx, hb, hml, hown, hts⟩ hK hN hA hFA1 hP hD (fun _ _ hfr q => q.kept hap2 hfr) hS (r := r) (v := 2) (by omega) (cwV 2 hts gL_areAlike_X4_road rfl rfl rfl (by decide +kernel) ⟨by rw [hR]; decide, by rw [hR]; decide⟩) hl.1 rfl (Nat.le_of_ble_eq_true rfl) dL_areAlike_96 ⟨Nat.zero_le _, Nat.zero_le _⟩ (fun H locs hP hD hS => ?_)
              refine rk_ev (show _ = nI (mln T r) from rdA_2.trans (ln_T hT (by omega))) ?_
              refine lv_aload_n hx hb dL_areAlike_99 rfl (lv_at hl 3 rfl) ?_
              refine lv_iload hx hb dL_areAlike_100 (lv_at hl 0 rfl) ?_
              refine lv_iconst (v := nI 2) hx hb dL_areAlike_102 (by decide) ?_
              refine oq_road (G := (fun H => OI E F1 ad1 n hc k T kk HA H)) (rest := [.int (nI (mln T r))]) ⟨hx, hb, hml, hown, hts⟩ hK hN hA hFA2 hD hP (fun _ _ hfr q => q.kept hap1 hfr) hS (r := r) (v := 2) (by omega) (cwV 2 hts gL_areAlike_X4_road rfl rfl rfl (by decide +kernel) ⟨by rw [hR]; decide, by rw [hR]; decide⟩) hl.1 rfl (Nat.le_of_ble_eq_true rfl) dL_areAlike_103 ⟨Nat.zero_le _, Nat.zero_le _⟩ (fun H locs hD hP hS => ?_)
              refine rk_ev (show _ = nI (mln T' r) from rdA_2.trans (ln_T hT' (by omega))) ?_
              refine lv_icmp_ne (tgt := 164) hx hb dL_areAlike_106 (by decide) (fun q => absurd (congrArg nI (ln_mi mi zc63).symm) q) (fun zc106 => ?_)
              refine lv_aload_n hx hb dL_areAlike_109 rfl (lv_at hl 2 rfl) ?_
              refine lv_iload hx hb dL_areAlike_110 (lv_at hl 0 rfl) ?_
              refine lv_iconst (v := nI 3) hx hb dL_areAlike_112 (by decide) ?_
              refine oq_road (G := (fun H => OI E F2 ad2 n hc k T' kk HA' H)) (rest := []) ⟨hx, hb, hml, hown, hts⟩ hK hN hA hFA1 hP hD (fun _ _ hfr q => q.kept hap2 hfr) hS (r := r) (v := 3) (by omega) (cwV 2 hts gL_areAlike_X4_road rfl rfl rfl (by decide +kernel) ⟨by rw [hR]; decide, by rw [hR]; decide⟩) hl.1 rfl (Nat.le_of_ble_eq_true rfl) dL_areAlike_113 ⟨Nat.zero_le _, Nat.zero_le _⟩ (fun H locs hP hD hS => ?_)
              refine rk_ev (show _ = b2i (ptM T k r) from rdA_3) ?_
              refine lv_aload_n hx hb dL_areAlike_116 rfl (lv_at hl 3 rfl) ?_
              refine lv_iload hx hb dL_areAlike_117 (lv_at hl 0 rfl) ?_
              refine lv_iconst (v := nI 3) hx hb dL_areAlike_119 (by decide) ?_
              refine oq_road (G := (fun H => OI E F1 ad1 n hc k T kk HA H)) (rest := [.int (b2i (ptM T k r))]) ⟨hx, hb, hml, hown, hts⟩ hK hN hA hFA2 hD hP (fun _ _ hfr q => q.kept hap1 hfr) hS (r := r) (v := 3) (by omega) (cwV 2 hts gL_areAlike_X4_road rfl rfl rfl (by decide +kernel) ⟨by rw [hR]; decide, by rw [hR]; decide⟩) hl.1 rfl (Nat.le_of_ble_eq_true rfl) dL_areAlike_120 ⟨Nat.zero_le _, Nat.zero_le _⟩ (fun H locs hD hP hS => ?_)
              refine rk_ev (show _ = b2i (ptM T' k r) from rdA_3) ?_
              refine lv_icmp_ne (tgt := 164) hx hb dL_areAlike_123 (by decide) (fun q => absurd (congrArg b2i (pt_mi hT hT' mi zc63).symm) q) (fun zc123 => ?_)
              refine lv_aload_n hx hb dL_areAlike_126 rfl (lv_at hl 2 rfl) ?_
              refine lv_iload hx hb dL_areAlike_127 (lv_at hl 0 rfl) ?_
              refine lv_iconst (v := nI 4) hx hb dL_areAlike_129 (by decide) ?_
              refine oq_road (G := (fun H => OI E F2 ad2 n hc k T' kk HA' H)) (rest := []) ⟨hx, hb, hml, hown, hts⟩ hK hN hA hFA1 hP hD (fun _ _ hfr q => q.kept hap2 hfr) hS (r := r) (v := 4) (by omega) (cwV 2 hts gL_areAlike_X4_road rfl rfl rfl (by decide +kernel) ⟨by rw [hR]; decide, by rw [hR]; decide⟩) hl.1 rfl (Nat.le_of_ble_eq_true rfl) dL_areAlike_130 ⟨Nat.zero_le _, Nat.zero_le _⟩ (fun H locs hP hD hS => ?_)
              refine rk_ev (show _ = rgM T k r from rdA_4) ?_
              refine lv_aload_n hx hb dL_areAlike_133 rfl (lv_at hl 3 rfl) ?_
              refine lv_iload hx hb dL_areAlike_134 (lv_at hl 0 rfl) ?_
              refine lv_iconst (v := nI 4) hx hb dL_areAlike_136 (by decide) ?_
              refine oq_road (G := (fun H => OI E F1 ad1 n hc k T kk HA H)) (rest := [.int (rgM T k r)]) ⟨hx, hb, hml, hown, hts⟩ hK hN hA hFA2 hD hP (fun _ _ hfr q => q.kept hap1 hfr) hS (r := r) (v := 4) (by omega) (cwV 2 hts gL_areAlike_X4_road rfl rfl rfl (by decide +kernel) ⟨by rw [hR]; decide, by rw [hR]; decide⟩) hl.1 rfl (Nat.le_of_ble_eq_true rfl) dL_areAlike_137 ⟨Nat.zero_le _, Nat.zero_le _⟩ (fun H locs hD hP hS => ?_)
              refine rk_ev (show _ = rgM T' k r from rdA_4) ?_
              refine lv_icmp_ne (tgt := 164) hx hb dL_areAlike_140 (by decide) (fun q => absurd ((rg_mi hT hT' mi zc63).symm) q) (fun zc140 => ?_)
              refine lv_aload_n hx hb dL_areAlike_143 rfl (lv_at hl 2 rfl) ?_
              refine lv_iload hx hb dL_areAlike_144 (lv_at hl 0 rfl) ?_
              refine lv_iconst (v := nI 5) hx hb dL_areAlike_146 (by decide) ?_
              refine oq_road (G := (fun H => OI E F2 ad2 n hc k T' kk HA' H)) (rest := []) ⟨hx, hb, hml, hown, hts⟩ hK hN hA hFA1 hP hD (fun _ _ hfr q => q.kept hap2 hfr) hS (r := r) (v := 5) (by omega) (cwV 2 hts gL_areAlike_X4_road rfl rfl rfl (by decide +kernel) ⟨by rw [hR]; decide, by rw [hR]; decide⟩) hl.1 rfl (Nat.le_of_ble_eq_true rfl) dL_areAlike_147 ⟨Nat.zero_le _, Nat.zero_le _⟩ (fun H locs hP hD hS => ?_)
              refine rk_ev (show _ = nI (plM T k r) from rdA_5) ?_
              refine lv_aload_n hx hb dL_areAlike_150 rfl (lv_at hl 3 rfl) ?_
              refine lv_iload hx hb dL_areAlike_151 (lv_at hl 0 rfl) ?_
              refine lv_iconst (v := nI 5) hx hb dL_areAlike_153 (by decide) ?_
              refine oq_road (G := (fun H => OI E F1 ad1 n hc k T kk HA H)) (rest := [.int (nI (plM T k r))]) ⟨hx, hb, hml, hown, hts⟩ hK hN hA hFA2 hD hP (fun _ _ hfr q => q.kept hap1 hfr) hS (r := r) (v := 5) (by omega) (cwV 2 hts gL_areAlike_X4_road rfl rfl rfl (by decide +kernel) ⟨by rw [hR]; decide, by rw [hR]; decide⟩) hl.1 rfl (Nat.le_of_ble_eq_true rfl) dL_areAlike_154 ⟨Nat.zero_le _, Nat.zero_le _⟩ (fun H locs hD hP hS => ?_)
              refine rk_ev (show _ = nI (plM T' k r) from rdA_5) ?_
              refine lv_icmp_ne (tgt := 164) hx hb dL_areAlike_157 (by decide) (fun q => absurd (congrArg nI (pl_mi hT hT' mi zc63).symm) q) (fun zc157 => ?_)
              refine lv_iconst (v := nI 1) hx hb dL_areAlike_160 (by decide) ?_
              refine lv_goto (tgt := 165) hx hb dL_areAlike_161 (by decide) ?_
              refine lv_istore (lv' := [(4, .int (nI 1)), (5, .int (nI r)), (0, .ref (ad1 0)), (1, .ref (ad2 0)), (2, .int (nI n)), (3, .int x)]) hx hb dL_areAlike_165 hl (by decide) rfl (fun ls hl => ?_)
              refine lv_iinc (v := nI (r + 1)) (lv' := [(5, .int (nI (r + 1))), (4, .int (nI 1)), (0, .ref (ad1 0)), (1, .ref (ad2 0)), (2, .int (nI n)), (3, .int x)]) hx hb dL_areAlike_167 hl (k := 1) rfl (by rw [show Int32.ofInt 1 = nI 1 by decide]; exact nI_add _ _) (by decide) rfl (fun ls hl => ?_)
              refine lv_goto (tgt := 56) hx hb dL_areAlike_170 (by decide) ?_
              exact ih56 (r + 1) (by first | assumption | omega | rfl) (by omega) _ _ hP hD hS ls (lv_sub hl [0, 1, 2, 3, 4, 5] rfl)
        exact L56 ((k - 0) + 1) 0 (by first | assumption | omega | rfl) (Nat.lt_succ_self _) _ _ hP hD hS ls (lv_sub hl [0, 1, 2, 3, 4, 5] rfl)
      · refine lv_iload hx hb dL_areAlike_13 (lv_at hl 1 rfl) ?_
        refine lv_if_eq (tgt := 44) hx hb dL_areAlike_15 (by decide) (fun q => absurd q (by decide)) (fun _ => ?_)
        refine lv_iload hx hb dL_areAlike_18 (lv_at hl 0 rfl) ?_
        refine lv_bipush (v := nI 6) hx hb dL_areAlike_20 (by decide) ?_
        refine rk_eqN (tgt := 40) hx hb (by omega) (by omega) dL_areAlike_22 (by decide) (fun zc22 => ?_) (fun zc22 => ?_)
        · refine lv_iconst (v := nI 1) hx hb dL_areAlike_40 (by decide) ?_
          refine lv_goto (tgt := 45) hx hb dL_areAlike_41 (by decide) ?_
          refine lv_istore (lv' := [(4, .int (nI 1)), (5, .int (nI v)), (0, .ref (ad1 0)), (1, .ref (ad2 0)), (2, .int (nI n)), (3, .int x)]) hx hb dL_areAlike_45 hl (by decide) rfl (fun ls hl => ?_)
          refine lv_iinc (v := nI (v + 1)) (lv' := [(5, .int (nI (v + 1))), (4, .int (nI 1)), (0, .ref (ad1 0)), (1, .ref (ad2 0)), (2, .int (nI n)), (3, .int x)]) hx hb dL_areAlike_47 hl (k := 1) rfl (by rw [show Int32.ofInt 1 = nI 1 by decide]; exact nI_add _ _) (by decide) rfl (fun ls hl => ?_)
          refine lv_goto (tgt := 6) hx hb dL_areAlike_50 (by decide) ?_
          exact ih6 (v + 1) (by first | assumption | omega | rfl) (by omega) _ _ hP hD hS ls (lv_sub hl [0, 1, 2, 3, 4, 5] rfl)
        · refine lv_aload_n hx hb dL_areAlike_25 rfl (lv_at hl 2 rfl) ?_
          refine lv_iload hx hb dL_areAlike_26 (lv_at hl 0 rfl) ?_
          refine oq_count (G := (fun H => OI E F2 ad2 n hc k T' kk HA' H)) (rest := []) ⟨hx, hb, hml, hown, hts⟩ hK hN hA hFA1 hP hD (fun _ _ hfr q => q.kept hap2 hfr) hS (v := v) (by omega) (by omega) (cwV 1 hts gL_areAlike_X4_count rfl rfl rfl (by decide +kernel) ⟨by rw [hR]; decide, by rw [hR]; decide⟩) hl.1 rfl (Nat.le_of_ble_eq_true rfl) dL_areAlike_28 ⟨Nat.zero_le _, Nat.zero_le _⟩ (fun H locs hP hD hS => ?_)
          refine lv_aload_n hx hb dL_areAlike_31 rfl (lv_at hl 3 rfl) ?_
          refine lv_iload hx hb dL_areAlike_32 (lv_at hl 0 rfl) ?_
          refine oq_count (G := (fun H => OI E F1 ad1 n hc k T kk HA H)) (rest := [.int (cnA T k n hc v)]) ⟨hx, hb, hml, hown, hts⟩ hK hN hA hFA2 hD hP (fun _ _ hfr q => q.kept hap1 hfr) hS (v := v) (by omega) (by omega) (cwV 1 hts gL_areAlike_X4_count rfl rfl rfl (by decide +kernel) ⟨by rw [hR]; decide, by rw [hR]; decide⟩) hl.1 rfl (Nat.le_of_ble_eq_true rfl) dL_areAlike_34 ⟨Nat.zero_le _, Nat.zero_le _⟩ (fun H locs hD hP hS => ?_)
          refine lv_icmp_ne (tgt := 44) hx hb dL_areAlike_37 (by decide) (fun q => absurd (cn_al hT hT' mi  zc10 zc22) q) (fun zc37 => ?_)
          refine lv_iconst (v := nI 1) hx hb dL_areAlike_40 (by decide) ?_
          refine lv_goto (tgt := 45) hx hb dL_areAlike_41 (by decide) ?_
          refine lv_istore (lv' := [(4, .int (nI 1)), (5, .int (nI v)), (0, .ref (ad1 0)), (1, .ref (ad2 0)), (2, .int (nI n)), (3, .int x)]) hx hb dL_areAlike_45 hl (by decide) rfl (fun ls hl => ?_)
          refine lv_iinc (v := nI (v + 1)) (lv' := [(5, .int (nI (v + 1))), (4, .int (nI 1)), (0, .ref (ad1 0)), (1, .ref (ad2 0)), (2, .int (nI n)), (3, .int x)]) hx hb dL_areAlike_47 hl (k := 1) rfl (by rw [show Int32.ofInt 1 = nI 1 by decide]; exact nI_add _ _) (by decide) rfl (fun ls hl => ?_)
          refine lv_goto (tgt := 6) hx hb dL_areAlike_50 (by decide) ?_
          exact ih6 (v + 1) (by first | assumption | omega | rfl) (by omega) _ _ hP hD hS ls (lv_sub hl [0, 1, 2, 3, 4, 5] rfl)
  exact L6 ((8 - 0) + 1) 0 (by first | assumption | omega | rfl) (Nat.lt_succ_self _) _ _ hP hD hS ls (lv_sub hl [0, 1, 2, 3, 4, 5] rfl)
