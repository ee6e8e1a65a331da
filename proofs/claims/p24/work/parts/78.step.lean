/-! THE LAW'S isStep (laid by a program) -/
set_option maxHeartbeats 4000000 in
set_option maxRecDepth 100000 in
theorem c_L_isStep (l : Launch) (E : EE) (sz : Nat) (F1 F2 : Nat → Prop) (hap1 : ∀ q, F1 q → ¬ F2 q) (hap2 : ∀ q, F2 q → ¬ F1 q) (ad1 ad2 : Nat → Nat) (n : Nat) (hn2 : 2 ≤ n) (hn16 : n ≤ 16) (x : Int32) : Cx l yL_isStep wsL_isStep 5 115 E [.ref (ad1 0), .ref (ad2 0), .int (nI n), .int x] (fun q => F1 q ∨ F2 q) (fun U => TW2 E F1 F2 ad1 ad2 n U.heap) (TW2 E F1 F2 ad1 ad2 n) sz (nI 1) := by
  refine Cx_of (cc := cL_isStep) (maxL := 13) (ret := (some .boolean)) (by decide +kernel) rfl (Nat.le_of_ble_eq_true rfl) ?_
  intro p e s m args below meth c A R Q ls hx hb hr hts hown hml hlocks hA hFA hAd hK hN hPre hS hl hR hQ
  have hown : s.vm.findClass RL = some m.cls := hown
  have hl : lv_has ls 13 [(0, .ref (ad1 0)), (1, .ref (ad2 0)), (2, .int (nI n)), (3, .int x)] := hl
  obtain ⟨hc, k, T, T', kk, HA, HA', hc1, mi, hm, hP, hD⟩ := hPre
  have hFA1 : ∀ q, F1 q → A q := fun q h => hFA q (Or.inl h)
  have hFA2 : ∀ q, F2 q → A q := fun q h => hFA q (Or.inr h)
  obtain ⟨hc6, lo, hi, le, en, hT⟩ := hP.tw
  obtain ⟨-, lo', hi', le', en', hT'⟩ := hD.tw
  have hk30 : k ≤ 30 := hT.1.1
  have hdb := db_pos hT
  have hpi := pi_pos hT
  have hpg := popc_32 (pgM T k k)
  have hBt := B_town hT
  refine lv_iload_n hx hb dL_isStep_0 rfl (lv_at hl 3 rfl) ?_
  refine lv_iconst (v := nI 4) hx hb dL_isStep_1 (by decide) ?_
  refine lv_ishr hx hb dL_isStep_2 ?_
  obtain ⟨y, ey⟩ : ∃ y, x >>> (nI 4 &&& 31) = y := ⟨_, rfl⟩
  refine rk_ev (ey) ?_
  refine lv_istore (lv' := [(4, .int y), (0, .ref (ad1 0)), (1, .ref (ad2 0)), (2, .int (nI n)), (3, .int x)]) hx hb dL_isStep_3 hl (by decide) rfl (fun ls hl => ?_)
  refine lv_aload_n hx hb dL_isStep_5 rfl (lv_at hl 1 rfl) ?_
  refine lv_iconst (v := nI 1) hx hb dL_isStep_6 (by decide) ?_
  refine oq_count (G := (fun H => OI E F2 ad2 n hc k T' kk HA' H)) (rest := []) ⟨hx, hb, hml, hown, hts⟩ hK hN hA hFA1 hP hD (fun _ _ hfr q => q.kept hap2 hfr) hS (v := 1) (by decide) (by decide) (cwV 1 hts gL_isStep_X4_count rfl rfl rfl (by decide +kernel) ⟨by rw [hR]; decide, by rw [hR]; decide⟩) hl.1 rfl (Nat.le_of_ble_eq_true rfl) dL_isStep_7 ⟨Nat.zero_le _, Nat.zero_le _⟩ (fun H locs hP hD hS => ?_)
  refine rk_ev (show _ = nI k from cnA_1) ?_
  refine lv_istore (lv' := [(5, .int (nI k)), (4, .int y), (0, .ref (ad1 0)), (1, .ref (ad2 0)), (2, .int (nI n)), (3, .int x)]) hx hb dL_isStep_10 hl (by decide) rfl (fun ls hl => ?_)
  refine lv_aload_n hx hb dL_isStep_12 rfl (lv_at hl 2 rfl) ?_
  refine lv_iconst (v := nI 2) hx hb dL_isStep_13 (by decide) ?_
  refine oq_count (G := (fun H => OI E F2 ad2 n hc k T' kk HA' H)) (rest := []) ⟨hx, hb, hml, hown, hts⟩ hK hN hA hFA1 hP hD (fun _ _ hfr q => q.kept hap2 hfr) hS (v := 2) (by decide) (by decide) (cwV 1 hts gL_isStep_X4_count rfl rfl rfl (by decide +kernel) ⟨by rw [hR]; decide, by rw [hR]; decide⟩) hl.1 rfl (Nat.le_of_ble_eq_true rfl) dL_isStep_14 ⟨Nat.zero_le _, Nat.zero_le _⟩ (fun H locs hP hD hS => ?_)
  refine rk_ev (show _ = nI (piM T k n) from cnA_2) ?_
  refine lv_istore (lv' := [(6, .int (nI (piM T k n))), (5, .int (nI k)), (4, .int y), (0, .ref (ad1 0)), (1, .ref (ad2 0)), (2, .int (nI n)), (3, .int x)]) hx hb dL_isStep_17 hl (by decide) rfl (fun ls hl => ?_)
  refine lv_iload_n hx hb dL_isStep_19 rfl (lv_at hl 6 rfl) ?_
  refine lv_bipush (v := nI 14) hx hb dL_isStep_20 (by decide) ?_
  refine kX_0 (G := (fun H => OI E F1 ad1 n hc k T kk HA H ∧ OI E F2 ad2 n hc k T' kk HA' H)) (E := E) (As := [.int x, .int (nI 14)]) (rest := []) ⟨hx, hb, hml, hown, hts⟩ (c_L_up (l := l) (E := E) (sz := _) (v := x) (n := 14) (gn0 := by omega) (gn1 := by omega)) (cwS 2 hts gL_isStep_L_up rfl rfl rfl (by decide +kernel) ⟨by rw [hR]; decide, by rw [hR]; decide⟩) hK hN ⟨hP, hD⟩ (fun _ _ hfr q => ⟨q.1.kept (fun _ _ z => z) hfr, q.2.kept (fun _ _ z => z) hfr⟩) hS hA rfl hl.1 rfl (Nat.le_of_ble_eq_true rfl) dL_isStep_22 ⟨Nat.zero_le _, Nat.zero_le _⟩ (fun H locs hG hS => ?_)
  obtain ⟨hP, hD⟩ := hG
  obtain ⟨o9, eo9⟩ : ∃ f9, upV x % 14 = f9 := ⟨_, rfl⟩
  have hof : o9 < 14 := by rw [← eo9]; exact Nat.mod_lt _ (by omega)
  refine rk_ev (congrArg nI eo9) ?_
  refine lv_istore (lv' := [(7, .int (nI o9)), (6, .int (nI (piM T k n))), (5, .int (nI k)), (4, .int y), (0, .ref (ad1 0)), (1, .ref (ad2 0)), (2, .int (nI n)), (3, .int x)]) hx hb dL_isStep_25 hl (by decide) rfl (fun ls hl => ?_)
  refine lv_iload hx hb dL_isStep_27 (lv_at hl 0 rfl) ?_
  refine lv_bipush (v := nI 9) hx hb dL_isStep_29 (by decide) ?_
  refine rk_geN (tgt := 197) hx hb (by omega) (by omega) dL_isStep_31 (by decide) (fun zc31 => ?_) (fun zc31 => ?_)
  · refine lv_iload hx hb dL_isStep_197 (lv_at hl 0 rfl) ?_
    refine lv_bipush (v := nI 13) hx hb dL_isStep_199 (by decide) ?_
    refine rk_geN (tgt := 299) hx hb (by omega) (by omega) dL_isStep_201 (by decide) (fun zc201 => ?_) (fun zc201 => ?_)
    · refine lv_aload_n hx hb dL_isStep_299 rfl (lv_at hl 4 rfl) ?_
      refine lv_bipush (v := nI 9) hx hb dL_isStep_300 (by decide) ?_
      refine oq_count (G := (fun H => OI E F2 ad2 n hc k T' kk HA' H)) (rest := []) ⟨hx, hb, hml, hown, hts⟩ hK hN hA hFA1 hP hD (fun _ _ hfr q => q.kept hap2 hfr) hS (v := 9) (by decide) (by decide) (cwV 1 hts gL_isStep_X4_count rfl rfl rfl (by decide +kernel) ⟨by rw [hR]; decide, by rw [hR]; decide⟩) hl.1 rfl (Nat.le_of_ble_eq_true rfl) dL_isStep_302 ⟨Nat.zero_le _, Nat.zero_le _⟩ (fun H locs hP hD hS => ?_)
      refine rk_ev (show _ = nI hc from cnA_9) ?_
      refine lv_iconst (v := nI 2) hx hb dL_isStep_305 (by decide) ?_
      refine rk_ltN (tgt := 320) hx hb (by omega) (by omega) dL_isStep_306 (by decide) (fun zc306 => ?_) (fun zc306 => ?_)
      · refine lv_iconst (v := nI 1) hx hb dL_isStep_320 (by decide) ?_
        refine lv_goto (tgt := 325) hx hb dL_isStep_321 (by decide) ?_
        exact rx_z hQ hx hb hr hlocks ⟨hc, k, T, T', kk, HA, HA', hc1, mi, hm, hP, hD⟩ hS dL_isStep_325 nz_1 rfl
      · obtain ⟨h, rfl⟩ : ∃ h, hc = h + 1 := ⟨hc - 1, by omega⟩
        have h1 : 1 ≤ h := by omega
        refine lv_aload_n hx hb dL_isStep_309 rfl (lv_at hl 4 rfl) ?_
        refine oc_undo (G := (fun H => OI E F2 ad2 n (h + 1) k T' kk HA' H)) (rest := []) ⟨hx, hb, hml, hown, hts⟩ hK hN hA hFA1 hP hD (fun _ _ hfr q => q.kept hap2 hfr) hS (by omega) (cwV 0 hts gL_isStep_X4_undo rfl rfl rfl (by decide +kernel) ⟨by rw [hR]; decide, by rw [hR]; decide⟩) hl.1 rfl (Nat.le_of_ble_eq_true rfl) dL_isStep_310 ⟨Nat.zero_le _, Nat.zero_le _⟩ (fun H locs hP hD hS => ?_)
        refine lv_aload_n hx hb dL_isStep_313 rfl (lv_at hl 5 rfl) ?_
        refine oc_undo (G := (fun H => OI E F1 ad1 n h (kk h) (HA h) kk HA H)) (rest := [.int (nI h)]) ⟨hx, hb, hml, hown, hts⟩ hK hN hA hFA2 hD hP (fun _ _ hfr q => q.kept hap1 hfr) hS (by omega) (cwV 0 hts gL_isStep_X4_undo rfl rfl rfl (by decide +kernel) ⟨by rw [hR]; decide, by rw [hR]; decide⟩) hl.1 rfl (Nat.le_of_ble_eq_true rfl) dL_isStep_314 ⟨Nat.zero_le _, Nat.zero_le _⟩ (fun H locs hD hP hS => ?_)
        refine lv_icmp_ne (tgt := 324) hx hb dL_isStep_317 (by decide) (fun q => absurd rfl q) (fun zc317 => ?_)
        refine lv_iconst (v := nI 1) hx hb dL_isStep_320 (by decide) ?_
        refine lv_goto (tgt := 325) hx hb dL_isStep_321 (by decide) ?_
        exact rx_z hQ hx hb hr hlocks ⟨h, kk h, HA h, HA' h, kk, HA, HA', h1, hm h h1 (by omega), fun i q1 q2 => hm i q1 (by omega), hP, hD⟩ hS dL_isStep_325 nz_1 rfl
    · refine lv_iload hx hb dL_isStep_204 (lv_at hl 3 rfl) ?_
      refine lv_iload hx hb dL_isStep_206 (lv_at hl 2 rfl) ?_
      refine lv_iconst (v := nI 1) hx hb dL_isStep_208 (by decide) ?_
      refine rk_iaddN hx hb dL_isStep_209 ?_
      refine kX_0 (G := (fun H => OI E F1 ad1 n hc k T kk HA H ∧ OI E F2 ad2 n hc k T' kk HA' H)) (E := E) (As := [.int y, .int (nI (k + 1))]) (rest := []) ⟨hx, hb, hml, hown, hts⟩ (c_L_up (l := l) (E := E) (sz := _) (v := y) (n := k + 1) (gn0 := by omega) (gn1 := by omega)) (cwS 2 hts gL_isStep_L_up rfl rfl rfl (by decide +kernel) ⟨by rw [hR]; decide, by rw [hR]; decide⟩) hK hN ⟨hP, hD⟩ (fun _ _ hfr q => ⟨q.1.kept (fun _ _ z => z) hfr, q.2.kept (fun _ _ z => z) hfr⟩) hS hA rfl hl.1 rfl (Nat.le_of_ble_eq_true rfl) dL_isStep_210 ⟨Nat.zero_le _, Nat.zero_le _⟩ (fun H locs hG hS => ?_)
      obtain ⟨hP, hD⟩ := hG
      obtain ⟨r, er⟩ : ∃ r, upV y % (k + 1) = r := ⟨_, rfl⟩
      have hr9 : r < k + 1 := by rw [← er]; exact Nat.mod_lt _ (by omega)
      refine rk_ev (congrArg nI er) ?_
      refine lv_istore (lv' := [(8, .int (nI r)), (7, .int (nI o9)), (6, .int (nI (piM T k n))), (5, .int (nI k)), (4, .int y), (0, .ref (ad1 0)), (1, .ref (ad2 0)), (2, .int (nI n)), (3, .int x)]) hx hb dL_isStep_213 hl (by decide) rfl (fun ls hl => ?_)
      rcases (show k = r ∨ r < k by omega) with hrk | hrk
      · subst hrk
        refine lv_iload hx hb dL_isStep_215 (lv_at hl 0 rfl) ?_
        refine lv_iload hx hb dL_isStep_217 (lv_at hl 3 rfl) ?_
        refine rk_geN (tgt := 237) hx hb (by omega) (by omega) dL_isStep_219 (by decide) (fun zc219 => ?_) (fun q => absurd q (by omega))
        refine lv_iconst (v := nI 0) hx hb dL_isStep_237 (by decide) ?_
        refine lv_istore (lv' := [(9, .int (nI 0)), (8, .int (nI k)), (7, .int (nI o9)), (6, .int (nI (piM T k n))), (5, .int (nI k)), (4, .int y), (0, .ref (ad1 0)), (1, .ref (ad2 0)), (2, .int (nI n)), (3, .int x)]) hx hb dL_isStep_238 hl (by decide) rfl (fun ls hl => ?_)
        refine lv_aload_n hx hb dL_isStep_240 rfl (lv_at hl 6 rfl) ?_
        refine lv_iload hx hb dL_isStep_241 (lv_at hl 1 rfl) ?_
        refine oc_loseN (G := (fun H => OI E F2 ad2 n hc k T' kk HA' H)) (rest := []) ⟨hx, hb, hml, hown, hts⟩ hK hN hA hFA1 hP hD (fun _ _ hfr q => q.kept hap2 hfr) hS  (cwV 1 hts gL_isStep_X4_lose rfl rfl rfl (by decide +kernel) ⟨by rw [hR]; decide, by rw [hR]; decide⟩) hl.1 rfl (Nat.le_of_ble_eq_true rfl) dL_isStep_243 ⟨Nat.zero_le _, Nat.zero_le _⟩ (fun H locs hP hD hS => ?_)
        refine lv_istore (lv' := [(10, .int ((-1))), (9, .int (nI 0)), (8, .int (nI k)), (7, .int (nI o9)), (6, .int (nI (piM T k n))), (5, .int (nI k)), (4, .int y), (0, .ref (ad1 0)), (1, .ref (ad2 0)), (2, .int (nI n)), (3, .int x)]) hx hb dL_isStep_246 hl (by decide) rfl (fun ls hl => ?_)
        refine lv_iload hx hb dL_isStep_248 (lv_at hl 0 rfl) ?_
        refine lv_aload_n hx hb dL_isStep_250 rfl (lv_at hl 8 rfl) ?_
        refine lv_iload hx hb dL_isStep_251 (lv_at hl 2 rfl) ?_
        refine oc_loseN (G := (fun H => OI E F1 ad1 n hc k T kk HA H)) (rest := [.int ((-1))]) ⟨hx, hb, hml, hown, hts⟩ hK hN hA hFA2 hD hP (fun _ _ hfr q => q.kept hap1 hfr) hS  (cwV 1 hts gL_isStep_X4_lose rfl rfl rfl (by decide +kernel) ⟨by rw [hR]; decide, by rw [hR]; decide⟩) hl.1 rfl (Nat.le_of_ble_eq_true rfl) dL_isStep_253 ⟨Nat.zero_le _, Nat.zero_le _⟩ (fun H locs hD hP hS => ?_)
        refine lv_icmp_ne (tgt := 297) hx hb dL_isStep_256 (by decide) (fun q => absurd q (by decide)) (fun _ => ?_)
        refine lv_iload hx hb dL_isStep_259 (lv_at hl 2 rfl) ?_
        refine lv_iload hx hb dL_isStep_261 (lv_at hl 5 rfl) ?_
        refine rk_neN (tgt := 275) hx hb (by omega) (by omega) dL_isStep_263 (by decide) (fun q => absurd rfl q) (fun zc263 => ?_)
        refine lv_iload hx hb dL_isStep_266 (lv_at hl 0 rfl) ?_
        refine lv_iconst (v := (-1)) hx hb dL_isStep_268 (by decide) ?_
        refine lv_icmp_ne (tgt := 297) hx hb dL_isStep_269 (by decide) (fun q => absurd q (by decide)) (fun _ => ?_)
        refine lv_goto (tgt := 293) hx hb dL_isStep_272 (by decide) ?_
        refine lv_iconst (v := nI 1) hx hb dL_isStep_293 (by decide) ?_
        refine lv_goto (tgt := 298) hx hb dL_isStep_294 (by decide) ?_
        exact rx_z hQ hx hb hr hlocks ⟨hc, k, T, T', kk, HA, HA', hc1, mi, hm, hP, hD⟩ hS dL_isStep_298 nz_1 rfl
      · skip
        refine lv_iload hx hb dL_isStep_215 (lv_at hl 0 rfl) ?_
        refine lv_iload hx hb dL_isStep_217 (lv_at hl 3 rfl) ?_
        refine rk_geN (tgt := 237) hx hb (by omega) (by omega) dL_isStep_219 (by decide) (fun q => absurd q (by omega)) (fun zc219 => ?_)
        rcases b_or2 (ptM T k r) with hpt | hpt
        · skip
          refine lv_aload_n hx hb dL_isStep_222 rfl (lv_at hl 5 rfl) ?_
          refine lv_iload hx hb dL_isStep_223 (lv_at hl 0 rfl) ?_
          refine lv_iconst (v := nI 3) hx hb dL_isStep_225 (by decide) ?_
          refine oq_road (G := (fun H => OI E F2 ad2 n hc k T' kk HA' H)) (rest := []) ⟨hx, hb, hml, hown, hts⟩ hK hN hA hFA1 hP hD (fun _ _ hfr q => q.kept hap2 hfr) hS (r := r) (v := 3) (by omega) (cwV 2 hts gL_isStep_X4_road rfl rfl rfl (by decide +kernel) ⟨by rw [hR]; decide, by rw [hR]; decide⟩) hl.1 rfl (Nat.le_of_ble_eq_true rfl) dL_isStep_226 ⟨Nat.zero_le _, Nat.zero_le _⟩ (fun H locs hP hD hS => ?_)
          refine rk_ev (show _ = nI 1 from rdA_3.trans (by rw [hpt]; rfl)) ?_
          refine lv_iconst (v := nI 1) hx hb dL_isStep_229 (by decide) ?_
          refine rk_neN (tgt := 237) hx hb (by omega) (by omega) dL_isStep_230 (by decide) (fun q => absurd q (by decide)) (fun _ => ?_)
          refine lv_iconst (v := nI 1) hx hb dL_isStep_233 (by decide) ?_
          refine lv_goto (tgt := 238) hx hb dL_isStep_234 (by decide) ?_
          refine lv_istore (lv' := [(9, .int (nI 1)), (8, .int (nI r)), (7, .int (nI o9)), (6, .int (nI (piM T k n))), (5, .int (nI k)), (4, .int y), (0, .ref (ad1 0)), (1, .ref (ad2 0)), (2, .int (nI n)), (3, .int x)]) hx hb dL_isStep_238 hl (by decide) rfl (fun ls hl => ?_)
          refine lv_aload_n hx hb dL_isStep_240 rfl (lv_at hl 6 rfl) ?_
          refine lv_iload hx hb dL_isStep_241 (lv_at hl 1 rfl) ?_
          refine oc_lose (G := (fun H => OI E F2 ad2 n hc k T' kk HA' H)) (rest := []) ⟨hx, hb, hml, hown, hts⟩ hK hN hA hFA1 hP hD (fun _ _ hfr q => q.kept hap2 hfr) hS (r := r) (by omega) (cwV 1 hts gL_isStep_X4_lose rfl rfl rfl (by decide +kernel) ⟨by rw [hR]; decide, by rw [hR]; decide⟩) hl.1 rfl (Nat.le_of_ble_eq_true rfl) dL_isStep_243 ⟨Nat.zero_le _, Nat.zero_le _⟩ (fun H locs hP hD hS => ?_)
          obtain ⟨-, lo2, hi2, le2, en2, hT2⟩ := hP.tw
          refine lv_istore (lv' := [(10, .int (nI (piM (loA T r k) (k - 1) n))), (9, .int (nI 1)), (8, .int (nI r)), (7, .int (nI o9)), (6, .int (nI (piM T k n))), (5, .int (nI k)), (4, .int y), (0, .ref (ad1 0)), (1, .ref (ad2 0)), (2, .int (nI n)), (3, .int x)]) hx hb dL_isStep_246 hl (by decide) rfl (fun ls hl => ?_)
          refine lv_iload hx hb dL_isStep_248 (lv_at hl 0 rfl) ?_
          refine lv_aload_n hx hb dL_isStep_250 rfl (lv_at hl 8 rfl) ?_
          refine lv_iload hx hb dL_isStep_251 (lv_at hl 2 rfl) ?_
          refine oc_lose (G := (fun H => OI E F1 ad1 n (hcN hc) (k - 1) (loA T r k) (kkN kk hc k) (HAN HA hc T) H)) (rest := [.int (nI (piM (loA T r k) (k - 1) n))]) ⟨hx, hb, hml, hown, hts⟩ hK hN hA hFA2 hD hP (fun _ _ hfr q => q.kept hap1 hfr) hS (r := r) (by omega) (cwV 1 hts gL_isStep_X4_lose rfl rfl rfl (by decide +kernel) ⟨by rw [hR]; decide, by rw [hR]; decide⟩) hl.1 rfl (Nat.le_of_ble_eq_true rfl) dL_isStep_253 ⟨Nat.zero_le _, Nat.zero_le _⟩ (fun H locs hD hP hS => ?_)
          obtain ⟨-, lo3, hi3, le3, en3, hT3⟩ := hD.tw
          have hpl := pi_pos hT2
          refine lv_icmp_ne (tgt := 297) hx hb dL_isStep_256 (by decide) (fun q => absurd (congrArg nI (pi_mi hT2 hT3 (lo_mi hT mi hrk)).symm) q) (fun zc256 => ?_)
          refine lv_iload hx hb dL_isStep_259 (lv_at hl 2 rfl) ?_
          refine lv_iload hx hb dL_isStep_261 (lv_at hl 5 rfl) ?_
          refine rk_neN (tgt := 275) hx hb (by omega) (by omega) dL_isStep_263 (by decide) (fun zc263 => ?_) (fun q => absurd q (by omega))
          refine lv_iload hx hb dL_isStep_275 (lv_at hl 0 rfl) ?_
          refine lv_iload hx hb dL_isStep_277 (lv_at hl 4 rfl) ?_
          refine lv_iload hx hb dL_isStep_279 (lv_at hl 1 rfl) ?_
          refine lv_if_eq (tgt := 288) hx hb dL_isStep_281 (by decide) (fun q => absurd q (by decide)) (fun _ => ?_)
          refine lv_iconst (v := nI 1) hx hb dL_isStep_284 (by decide) ?_
          refine lv_goto (tgt := 289) hx hb dL_isStep_285 (by decide) ?_
          refine rk_iaddN hx hb dL_isStep_289 ?_
          refine lv_icmp_ne (tgt := 297) hx hb dL_isStep_290 (by decide) (fun q => absurd (congrArg nI (lo_t hT hrk hT2 hpt)) q) (fun zc290 => ?_)
          refine lv_iconst (v := nI 1) hx hb dL_isStep_293 (by decide) ?_
          refine lv_goto (tgt := 298) hx hb dL_isStep_294 (by decide) ?_
          exact rx_z hQ hx hb hr hlocks ⟨hcN hc, k - 1, loA T r k, loA T' r k, kkN kk hc k, HAN HA hc T, HAN HA' hc T', hcN_1 _ hc1, lo_mi hT mi (by omega), hm_N hc6 hm mi, hP, hD⟩ hS dL_isStep_298 nz_1 rfl
        · skip
          refine lv_aload_n hx hb dL_isStep_222 rfl (lv_at hl 5 rfl) ?_
          refine lv_iload hx hb dL_isStep_223 (lv_at hl 0 rfl) ?_
          refine lv_iconst (v := nI 3) hx hb dL_isStep_225 (by decide) ?_
          refine oq_road (G := (fun H => OI E F2 ad2 n hc k T' kk HA' H)) (rest := []) ⟨hx, hb, hml, hown, hts⟩ hK hN hA hFA1 hP hD (fun _ _ hfr q => q.kept hap2 hfr) hS (r := r) (v := 3) (by omega) (cwV 2 hts gL_isStep_X4_road rfl rfl rfl (by decide +kernel) ⟨by rw [hR]; decide, by rw [hR]; decide⟩) hl.1 rfl (Nat.le_of_ble_eq_true rfl) dL_isStep_226 ⟨Nat.zero_le _, Nat.zero_le _⟩ (fun H locs hP hD hS => ?_)
          refine rk_ev (show _ = nI 0 from rdA_3.trans (by rw [hpt]; rfl)) ?_
          refine lv_iconst (v := nI 1) hx hb dL_isStep_229 (by decide) ?_
          refine rk_neN (tgt := 237) hx hb (by omega) (by omega) dL_isStep_230 (by decide) (fun _ => ?_) (fun q => absurd q (by decide))
          refine lv_iconst (v := nI 0) hx hb dL_isStep_237 (by decide) ?_
          refine lv_istore (lv' := [(9, .int (nI 0)), (8, .int (nI r)), (7, .int (nI o9)), (6, .int (nI (piM T k n))), (5, .int (nI k)), (4, .int y), (0, .ref (ad1 0)), (1, .ref (ad2 0)), (2, .int (nI n)), (3, .int x)]) hx hb dL_isStep_238 hl (by decide) rfl (fun ls hl => ?_)
          refine lv_aload_n hx hb dL_isStep_240 rfl (lv_at hl 6 rfl) ?_
          refine lv_iload hx hb dL_isStep_241 (lv_at hl 1 rfl) ?_
          refine oc_lose (G := (fun H => OI E F2 ad2 n hc k T' kk HA' H)) (rest := []) ⟨hx, hb, hml, hown, hts⟩ hK hN hA hFA1 hP hD (fun _ _ hfr q => q.kept hap2 hfr) hS (r := r) (by omega) (cwV 1 hts gL_isStep_X4_lose rfl rfl rfl (by decide +kernel) ⟨by rw [hR]; decide, by rw [hR]; decide⟩) hl.1 rfl (Nat.le_of_ble_eq_true rfl) dL_isStep_243 ⟨Nat.zero_le _, Nat.zero_le _⟩ (fun H locs hP hD hS => ?_)
          obtain ⟨-, lo2, hi2, le2, en2, hT2⟩ := hP.tw
          refine lv_istore (lv' := [(10, .int (nI (piM (loA T r k) (k - 1) n))), (9, .int (nI 0)), (8, .int (nI r)), (7, .int (nI o9)), (6, .int (nI (piM T k n))), (5, .int (nI k)), (4, .int y), (0, .ref (ad1 0)), (1, .ref (ad2 0)), (2, .int (nI n)), (3, .int x)]) hx hb dL_isStep_246 hl (by decide) rfl (fun ls hl => ?_)
          refine lv_iload hx hb dL_isStep_248 (lv_at hl 0 rfl) ?_
          refine lv_aload_n hx hb dL_isStep_250 rfl (lv_at hl 8 rfl) ?_
          refine lv_iload hx hb dL_isStep_251 (lv_at hl 2 rfl) ?_
          refine oc_lose (G := (fun H => OI E F1 ad1 n (hcN hc) (k - 1) (loA T r k) (kkN kk hc k) (HAN HA hc T) H)) (rest := [.int (nI (piM (loA T r k) (k - 1) n))]) ⟨hx, hb, hml, hown, hts⟩ hK hN hA hFA2 hD hP (fun _ _ hfr q => q.kept hap1 hfr) hS (r := r) (by omega) (cwV 1 hts gL_isStep_X4_lose rfl rfl rfl (by decide +kernel) ⟨by rw [hR]; decide, by rw [hR]; decide⟩) hl.1 rfl (Nat.le_of_ble_eq_true rfl) dL_isStep_253 ⟨Nat.zero_le _, Nat.zero_le _⟩ (fun H locs hD hP hS => ?_)
          obtain ⟨-, lo3, hi3, le3, en3, hT3⟩ := hD.tw
          have hpl := pi_pos hT2
          refine lv_icmp_ne (tgt := 297) hx hb dL_isStep_256 (by decide) (fun q => absurd (congrArg nI (pi_mi hT2 hT3 (lo_mi hT mi hrk)).symm) q) (fun zc256 => ?_)
          refine lv_iload hx hb dL_isStep_259 (lv_at hl 2 rfl) ?_
          refine lv_iload hx hb dL_isStep_261 (lv_at hl 5 rfl) ?_
          refine rk_neN (tgt := 275) hx hb (by omega) (by omega) dL_isStep_263 (by decide) (fun zc263 => ?_) (fun q => absurd q (by omega))
          refine lv_iload hx hb dL_isStep_275 (lv_at hl 0 rfl) ?_
          refine lv_iload hx hb dL_isStep_277 (lv_at hl 4 rfl) ?_
          refine lv_iload hx hb dL_isStep_279 (lv_at hl 1 rfl) ?_
          refine lv_if_eq (tgt := 288) hx hb dL_isStep_281 (by decide) (fun _ => ?_) (fun q => absurd q (by decide))
          refine lv_iconst (v := nI 0) hx hb dL_isStep_288 (by decide) ?_
          refine rk_iaddN hx hb dL_isStep_289 ?_
          refine lv_icmp_ne (tgt := 297) hx hb dL_isStep_290 (by decide) (fun q => absurd (congrArg nI (lo_f hT hrk hT2 hpt)) q) (fun zc290 => ?_)
          refine lv_iconst (v := nI 1) hx hb dL_isStep_293 (by decide) ?_
          refine lv_goto (tgt := 298) hx hb dL_isStep_294 (by decide) ?_
          exact rx_z hQ hx hb hr hlocks ⟨hcN hc, k - 1, loA T r k, loA T' r k, kkN kk hc k, HAN HA hc T, HAN HA' hc T', hcN_1 _ hc1, lo_mi hT mi (by omega), hm_N hc6 hm mi, hP, hD⟩ hS dL_isStep_298 nz_1 rfl
  · refine lv_iload hx hb dL_isStep_34 (lv_at hl 3 rfl) ?_
    refine lv_iload_n hx hb dL_isStep_36 rfl (lv_at hl 6 rfl) ?_
    refine kX_0 (G := (fun H => OI E F1 ad1 n hc k T kk HA H ∧ OI E F2 ad2 n hc k T' kk HA' H)) (E := E) (As := [.int y, .int (nI n)]) (rest := []) ⟨hx, hb, hml, hown, hts⟩ (c_L_up (l := l) (E := E) (sz := _) (v := y) (n := n) (gn0 := by omega) (gn1 := by omega)) (cwS 2 hts gL_isStep_L_up rfl rfl rfl (by decide +kernel) ⟨by rw [hR]; decide, by rw [hR]; decide⟩) hK hN ⟨hP, hD⟩ (fun _ _ hfr q => ⟨q.1.kept (fun _ _ z => z) hfr, q.2.kept (fun _ _ z => z) hfr⟩) hS hA rfl hl.1 rfl (Nat.le_of_ble_eq_true rfl) dL_isStep_37 ⟨Nat.zero_le _, Nat.zero_le _⟩ (fun H locs hG hS => ?_)
    obtain ⟨hP, hD⟩ := hG
    obtain ⟨a, ea⟩ : ∃ a, upV y % n = a := ⟨_, rfl⟩
    have ha : a < n := by rw [← ea]; exact Nat.mod_lt _ (by omega)
    refine rk_ev (congrArg nI ea) ?_
    refine lv_istore (lv' := [(8, .int (nI a)), (7, .int (nI o9)), (6, .int (nI (piM T k n))), (5, .int (nI k)), (4, .int y), (0, .ref (ad1 0)), (1, .ref (ad2 0)), (2, .int (nI n)), (3, .int x)]) hx hb dL_isStep_40 hl (by decide) rfl (fun ls hl => ?_)
    refine lv_iload hx hb dL_isStep_42 (lv_at hl 4 rfl) ?_
    refine lv_iconst (v := nI 4) hx hb dL_isStep_44 (by decide) ?_
    refine lv_ishr hx hb dL_isStep_45 ?_
    refine lv_iconst (v := nI 3) hx hb dL_isStep_46 (by decide) ?_
    refine kX_0 (G := (fun H => OI E F1 ad1 n hc k T kk HA H ∧ OI E F2 ad2 n hc k T' kk HA' H)) (E := E) (As := [.int (y >>> ((nI 4) &&& 31)), .int (nI 3)]) (rest := []) ⟨hx, hb, hml, hown, hts⟩ (c_L_up (l := l) (E := E) (sz := _) (v := y >>> ((nI 4) &&& 31)) (n := 3) (gn0 := by omega) (gn1 := by omega)) (cwS 2 hts gL_isStep_L_up rfl rfl rfl (by decide +kernel) ⟨by rw [hR]; decide, by rw [hR]; decide⟩) hK hN ⟨hP, hD⟩ (fun _ _ hfr q => ⟨q.1.kept (fun _ _ z => z) hfr, q.2.kept (fun _ _ z => z) hfr⟩) hS hA rfl hl.1 rfl (Nat.le_of_ble_eq_true rfl) dL_isStep_47 ⟨Nat.zero_le _, Nat.zero_le _⟩ (fun H locs hG hS => ?_)
    obtain ⟨hP, hD⟩ := hG
    obtain ⟨c3, ec3⟩ : ∃ c3, upV (y >>> (nI 4 &&& 31)) % 3 = c3 := ⟨_, rfl⟩
    have hc3 : c3 < 3 := by rw [← ec3]; exact Nat.mod_lt _ (by omega)
    refine rk_ev (congrArg nI ec3) ?_
    refine rk_if_neN (tgt := 65) hx hb (by omega) dL_isStep_50 (by decide) (fun zc50 => ?_) (fun zc50 => ?_)
    · refine lv_iload hx hb dL_isStep_65 (lv_at hl 0 rfl) ?_
      refine lv_iconst (v := nI 1) hx hb dL_isStep_67 (by decide) ?_
      refine rk_iaddN hx hb dL_isStep_68 ?_
      refine lv_iload hx hb dL_isStep_69 (lv_at hl 4 rfl) ?_
      refine lv_bipush (v := nI 6) hx hb dL_isStep_71 (by decide) ?_
      refine lv_ishr hx hb dL_isStep_73 ?_
      refine lv_iconst (v := nI 2) hx hb dL_isStep_74 (by decide) ?_
      refine kX_0 (G := (fun H => OI E F1 ad1 n hc k T kk HA H ∧ OI E F2 ad2 n hc k T' kk HA' H)) (E := E) (As := [.int (y >>> ((nI 6) &&& 31)), .int (nI 2)]) (rest := [.int (nI (a + 1))]) ⟨hx, hb, hml, hown, hts⟩ (c_L_up (l := l) (E := E) (sz := _) (v := y >>> ((nI 6) &&& 31)) (n := 2) (gn0 := by omega) (gn1 := by omega)) (cwS 2 hts gL_isStep_L_up rfl rfl rfl (by decide +kernel) ⟨by rw [hR]; decide, by rw [hR]; decide⟩) hK hN ⟨hP, hD⟩ (fun _ _ hfr q => ⟨q.1.kept (fun _ _ z => z) hfr, q.2.kept (fun _ _ z => z) hfr⟩) hS hA rfl hl.1 rfl (Nat.le_of_ble_eq_true rfl) dL_isStep_75 ⟨Nat.zero_le _, Nat.zero_le _⟩ (fun H locs hG hS => ?_)
      obtain ⟨hP, hD⟩ := hG
      obtain ⟨c2, ec2⟩ : ∃ c2, upV (y >>> (nI 6 &&& 31)) % 2 = c2 := ⟨_, rfl⟩
      have hc2 : c2 < 2 := by rw [← ec2]; exact Nat.mod_lt _ (by omega)
      refine rk_ev (congrArg nI ec2) ?_
      refine rk_iaddN hx hb dL_isStep_78 ?_
      refine lv_iload_n hx hb dL_isStep_79 rfl (lv_at hl 7 rfl) ?_
      refine rk_iremN hx hb (by omega) (by omega) (by omega) dL_isStep_80 ?_
      obtain ⟨b, eb⟩ : ∃ b, ((a + 1) + c2) % n = b := ⟨_, rfl⟩
      have hb9 : b < n := by rw [← eb]; exact Nat.mod_lt _ (by omega)
      refine rk_ev (congrArg nI eb) ?_
      refine lv_istore (lv' := [(9, .int (nI b)), (8, .int (nI a)), (7, .int (nI o9)), (6, .int (nI (piM T k n))), (5, .int (nI k)), (4, .int y), (0, .ref (ad1 0)), (1, .ref (ad2 0)), (2, .int (nI n)), (3, .int x)]) hx hb dL_isStep_81 hl (by decide) rfl (fun ls hl => ?_)
      refine lv_iconst (v := nI 1) hx hb dL_isStep_83 (by decide) ?_
      refine lv_iload hx hb dL_isStep_84 (lv_at hl 5 rfl) ?_
      refine lv_bipush (v := nI 11) hx hb dL_isStep_86 (by decide) ?_
      refine lv_ishr hx hb dL_isStep_88 ?_
      refine lv_bipush (v := nI 99) hx hb dL_isStep_89 (by decide) ?_
      refine kX_0 (G := (fun H => OI E F1 ad1 n hc k T kk HA H ∧ OI E F2 ad2 n hc k T' kk HA' H)) (E := E) (As := [.int (y >>> ((nI 11) &&& 31)), .int (nI 99)]) (rest := [.int (nI 1)]) ⟨hx, hb, hml, hown, hts⟩ (c_L_up (l := l) (E := E) (sz := _) (v := y >>> ((nI 11) &&& 31)) (n := 99) (gn0 := by omega) (gn1 := by omega)) (cwS 2 hts gL_isStep_L_up rfl rfl rfl (by decide +kernel) ⟨by rw [hR]; decide, by rw [hR]; decide⟩) hK hN ⟨hP, hD⟩ (fun _ _ hfr q => ⟨q.1.kept (fun _ _ z => z) hfr, q.2.kept (fun _ _ z => z) hfr⟩) hS hA rfl hl.1 rfl (Nat.le_of_ble_eq_true rfl) dL_isStep_91 ⟨Nat.zero_le _, Nat.zero_le _⟩ (fun H locs hG hS => ?_)
      obtain ⟨hP, hD⟩ := hG
      obtain ⟨c9, ec9⟩ : ∃ c9, upV (y >>> (nI 11 &&& 31)) % 99 = c9 := ⟨_, rfl⟩
      have hc9 : c9 < 99 := by rw [← ec9]; exact Nat.mod_lt _ (by omega)
      refine rk_ev (congrArg nI ec9) ?_
      refine rk_iaddN hx hb dL_isStep_94 ?_
      refine lv_istore (lv' := [(10, .int (nI (1 + c9))), (9, .int (nI b)), (8, .int (nI a)), (7, .int (nI o9)), (6, .int (nI (piM T k n))), (5, .int (nI k)), (4, .int y), (0, .ref (ad1 0)), (1, .ref (ad2 0)), (2, .int (nI n)), (3, .int x)]) hx hb dL_isStep_95 hl (by decide) rfl (fun ls hl => ?_)
      rcases (show a = b ∨ (¬ a = b ∧ k = 30) ∨ (¬ a = b ∧ k < 30) by omega) with hab | ⟨hab, hk3⟩ | ⟨hab, hk3⟩
      · subst hab
        refine lv_aload_n hx hb dL_isStep_97 rfl (lv_at hl 7 rfl) ?_
        refine lv_iload hx hb dL_isStep_98 (lv_at hl 2 rfl) ?_
        refine lv_iload hx hb dL_isStep_100 (lv_at hl 1 rfl) ?_
        refine lv_iconst (v := nI 2) hx hb dL_isStep_102 (by decide) ?_
        refine oq_ifs (G := (fun H => OI E F2 ad2 n hc k T' kk HA' H)) (rest := []) ⟨hx, hb, hml, hown, hts⟩ hK hN hA hFA1 hP hD (fun _ _ hfr q => q.kept hap2 hfr) hS (x := a) (by omega) (cwV 3 hts gL_isStep_X4_ifBuilt rfl rfl rfl (by decide +kernel) ⟨by rw [hR]; decide, by rw [hR]; decide⟩) hl.1 rfl (Nat.le_of_ble_eq_true rfl) dL_isStep_103 ⟨Nat.zero_le _, Nat.zero_le _⟩ (fun H locs hP hD hS => ?_)
        refine lv_istore (lv' := [(11, .int ((-2))), (10, .int (nI (1 + c9))), (9, .int (nI a)), (8, .int (nI a)), (7, .int (nI o9)), (6, .int (nI (piM T k n))), (5, .int (nI k)), (4, .int y), (0, .ref (ad1 0)), (1, .ref (ad2 0)), (2, .int (nI n)), (3, .int x)]) hx hb dL_isStep_106 hl (by decide) rfl (fun ls hl => ?_)
        refine lv_aload_n hx hb dL_isStep_108 rfl (lv_at hl 8 rfl) ?_
        refine lv_iload hx hb dL_isStep_109 (lv_at hl 3 rfl) ?_
        refine lv_iload hx hb dL_isStep_111 (lv_at hl 2 rfl) ?_
        refine lv_iload hx hb dL_isStep_113 (lv_at hl 1 rfl) ?_
        refine oc_same (G := (fun H => OI E F2 ad2 n hc k T' kk HA' H)) (rest := []) ⟨hx, hb, hml, hown, hts⟩ hK hN hA hFA1 hP hD (fun _ _ hfr q => q.kept hap2 hfr) hS (x := a) (by omega) (cwV 3 hts gL_isStep_X4_build rfl rfl rfl (by decide +kernel) ⟨by rw [hR]; decide, by rw [hR]; decide⟩) hl.1 rfl (Nat.le_of_ble_eq_true rfl) dL_isStep_115 ⟨Nat.zero_le _, Nat.zero_le _⟩ (fun H locs hP hD hS => ?_)
        refine lv_istore (lv' := [(12, .int ((-2))), (11, .int ((-2))), (10, .int (nI (1 + c9))), (9, .int (nI a)), (8, .int (nI a)), (7, .int (nI o9)), (6, .int (nI (piM T k n))), (5, .int (nI k)), (4, .int y), (0, .ref (ad1 0)), (1, .ref (ad2 0)), (2, .int (nI n)), (3, .int x)]) hx hb dL_isStep_118 hl (by decide) rfl (fun ls hl => ?_)
        refine lv_iload hx hb dL_isStep_120 (lv_at hl 0 rfl) ?_
        refine lv_aload_n hx hb dL_isStep_122 rfl (lv_at hl 10 rfl) ?_
        refine lv_iload_n hx hb dL_isStep_123 rfl (lv_at hl 11 rfl) ?_
        refine lv_iconst (v := nI 1) hx hb dL_isStep_124 (by decide) ?_
        refine rk_isubN hx hb (by omega) dL_isStep_125 ?_
        refine lv_iload hx hb dL_isStep_126 (lv_at hl 4 rfl) ?_
        refine rk_isubN hx hb (by omega) dL_isStep_128 ?_
        refine lv_iload_n hx hb dL_isStep_129 rfl (lv_at hl 11 rfl) ?_
        refine lv_iconst (v := nI 1) hx hb dL_isStep_130 (by decide) ?_
        refine rk_isubN hx hb (by omega) dL_isStep_131 ?_
        refine lv_iload hx hb dL_isStep_132 (lv_at hl 3 rfl) ?_
        refine rk_isubN hx hb (by omega) dL_isStep_134 ?_
        refine lv_iload hx hb dL_isStep_135 (lv_at hl 2 rfl) ?_
        refine oc_same (G := (fun H => OI E F1 ad1 n hc k T kk HA H)) (rest := [.int ((-2))]) ⟨hx, hb, hml, hown, hts⟩ hK hN hA hFA2 hD hP (fun _ _ hfr q => q.kept hap1 hfr) hS (x := (n - 1) - a) (by omega) (cwV 3 hts gL_isStep_X4_build rfl rfl rfl (by decide +kernel) ⟨by rw [hR]; decide, by rw [hR]; decide⟩) hl.1 rfl (Nat.le_of_ble_eq_true rfl) dL_isStep_137 ⟨Nat.zero_le _, Nat.zero_le _⟩ (fun H locs hD hP hS => ?_)
        refine lv_icmp_ne (tgt := 195) hx hb dL_isStep_140 (by decide) (fun q => absurd q (by decide)) (fun _ => ?_)
        refine lv_iload hx hb dL_isStep_143 (lv_at hl 4 rfl) ?_
        refine lv_iload hx hb dL_isStep_145 (lv_at hl 3 rfl) ?_
        refine rk_neN (tgt := 160) hx hb (by omega) (by omega) dL_isStep_147 (by decide) (fun q => absurd rfl q) (fun zc147 => ?_)
        refine lv_iload hx hb dL_isStep_150 (lv_at hl 0 rfl) ?_
        refine lv_bipush (v := (-2)) hx hb dL_isStep_152 (by decide) ?_
        refine lv_icmp_ne (tgt := 195) hx hb dL_isStep_154 (by decide) (fun q => absurd q (by decide)) (fun _ => ?_)
        refine lv_goto (tgt := 191) hx hb dL_isStep_157 (by decide) ?_
        refine lv_iconst (v := nI 1) hx hb dL_isStep_191 (by decide) ?_
        refine lv_goto (tgt := 196) hx hb dL_isStep_192 (by decide) ?_
        exact rx_z hQ hx hb hr hlocks ⟨hc, k, T, T', kk, HA, HA', hc1, mi, hm, hP, hD⟩ hS dL_isStep_196 nz_1 rfl
      · skip
        refine lv_aload_n hx hb dL_isStep_97 rfl (lv_at hl 7 rfl) ?_
        refine lv_iload hx hb dL_isStep_98 (lv_at hl 2 rfl) ?_
        refine lv_iload hx hb dL_isStep_100 (lv_at hl 1 rfl) ?_
        refine lv_iconst (v := nI 2) hx hb dL_isStep_102 (by decide) ?_
        refine oq_ifb (G := (fun H => OI E F2 ad2 n hc k T' kk HA' H)) (rest := []) ⟨hx, hb, hml, hown, hts⟩ hK hN hA hFA1 hP hD (fun _ _ hfr q => q.kept hap2 hfr) hS (x := a) (y := b) (v := 2) (by omega) (by omega) hab (by omega) (cwV 3 hts gL_isStep_X4_ifBuilt rfl rfl rfl (by decide +kernel) ⟨by rw [hR]; decide, by rw [hR]; decide⟩) hl.1 rfl (Nat.le_of_ble_eq_true rfl) dL_isStep_103 ⟨Nat.zero_le _, Nat.zero_le _⟩ (fun H locs hP hD hS => ?_)
        refine lv_istore (lv' := [(11, .int (ifA T k n a b 2)), (10, .int (nI (1 + c9))), (9, .int (nI b)), (8, .int (nI a)), (7, .int (nI o9)), (6, .int (nI (piM T k n))), (5, .int (nI k)), (4, .int y), (0, .ref (ad1 0)), (1, .ref (ad2 0)), (2, .int (nI n)), (3, .int x)]) hx hb dL_isStep_106 hl (by decide) rfl (fun ls hl => ?_)
        refine lv_aload_n hx hb dL_isStep_108 rfl (lv_at hl 8 rfl) ?_
        refine lv_iload hx hb dL_isStep_109 (lv_at hl 3 rfl) ?_
        refine lv_iload hx hb dL_isStep_111 (lv_at hl 2 rfl) ?_
        refine lv_iload hx hb dL_isStep_113 (lv_at hl 1 rfl) ?_
        refine oc_many (G := (fun H => OI E F2 ad2 n hc k T' kk HA' H)) (rest := []) ⟨hx, hb, hml, hown, hts⟩ hK hN hA hFA1 hP hD (fun _ _ hfr q => q.kept hap2 hfr) hS (x := a) (y := b) (by omega) (by omega) (by omega) (by omega) (by omega) (by omega) (cwV 3 hts gL_isStep_X4_build rfl rfl rfl (by decide +kernel) ⟨by rw [hR]; decide, by rw [hR]; decide⟩) hl.1 rfl (Nat.le_of_ble_eq_true rfl) dL_isStep_115 ⟨Nat.zero_le _, Nat.zero_le _⟩ (fun H locs hP hD hS => ?_)
        refine lv_istore (lv' := [(12, .int ((-4))), (11, .int (ifA T k n a b 2)), (10, .int (nI (1 + c9))), (9, .int (nI b)), (8, .int (nI a)), (7, .int (nI o9)), (6, .int (nI (piM T k n))), (5, .int (nI k)), (4, .int y), (0, .ref (ad1 0)), (1, .ref (ad2 0)), (2, .int (nI n)), (3, .int x)]) hx hb dL_isStep_118 hl (by decide) rfl (fun ls hl => ?_)
        refine lv_iload hx hb dL_isStep_120 (lv_at hl 0 rfl) ?_
        refine lv_aload_n hx hb dL_isStep_122 rfl (lv_at hl 10 rfl) ?_
        refine lv_iload_n hx hb dL_isStep_123 rfl (lv_at hl 11 rfl) ?_
        refine lv_iconst (v := nI 1) hx hb dL_isStep_124 (by decide) ?_
        refine rk_isubN hx hb (by omega) dL_isStep_125 ?_
        refine lv_iload hx hb dL_isStep_126 (lv_at hl 4 rfl) ?_
        refine rk_isubN hx hb (by omega) dL_isStep_128 ?_
        refine lv_iload_n hx hb dL_isStep_129 rfl (lv_at hl 11 rfl) ?_
        refine lv_iconst (v := nI 1) hx hb dL_isStep_130 (by decide) ?_
        refine rk_isubN hx hb (by omega) dL_isStep_131 ?_
        refine lv_iload hx hb dL_isStep_132 (lv_at hl 3 rfl) ?_
        refine rk_isubN hx hb (by omega) dL_isStep_134 ?_
        refine lv_iload hx hb dL_isStep_135 (lv_at hl 2 rfl) ?_
        refine oc_many (G := (fun H => OI E F1 ad1 n hc k T kk HA H)) (rest := [.int ((-4))]) ⟨hx, hb, hml, hown, hts⟩ hK hN hA hFA2 hD hP (fun _ _ hfr q => q.kept hap1 hfr) hS (x := (n - 1) - a) (y := (n - 1) - b) (by omega) (by omega) (by omega) (by omega) (by omega) (by omega) (cwV 3 hts gL_isStep_X4_build rfl rfl rfl (by decide +kernel) ⟨by rw [hR]; decide, by rw [hR]; decide⟩) hl.1 rfl (Nat.le_of_ble_eq_true rfl) dL_isStep_137 ⟨Nat.zero_le _, Nat.zero_le _⟩ (fun H locs hD hP hS => ?_)
        refine lv_icmp_ne (tgt := 195) hx hb dL_isStep_140 (by decide) (fun q => absurd q (by decide)) (fun _ => ?_)
        refine lv_iload hx hb dL_isStep_143 (lv_at hl 4 rfl) ?_
        refine lv_iload hx hb dL_isStep_145 (lv_at hl 3 rfl) ?_
        refine rk_neN (tgt := 160) hx hb (by omega) (by omega) dL_isStep_147 (by decide) (fun zc147 => ?_) (fun q => absurd q hab)
        refine lv_iload hx hb dL_isStep_160 (lv_at hl 7 rfl) ?_
        refine lv_bipush (v := nI 30) hx hb dL_isStep_162 (by decide) ?_
        refine rk_neN (tgt := 177) hx hb (by omega) (by omega) dL_isStep_164 (by decide) (fun q => absurd hk3 q) (fun zc164 => ?_)
        refine lv_iload hx hb dL_isStep_167 (lv_at hl 0 rfl) ?_
        refine lv_bipush (v := (-4)) hx hb dL_isStep_169 (by decide) ?_
        refine lv_icmp_ne (tgt := 195) hx hb dL_isStep_171 (by decide) (fun q => absurd q (by decide)) (fun _ => ?_)
        refine lv_goto (tgt := 191) hx hb dL_isStep_174 (by decide) ?_
        refine lv_iconst (v := nI 1) hx hb dL_isStep_191 (by decide) ?_
        refine lv_goto (tgt := 196) hx hb dL_isStep_192 (by decide) ?_
        exact rx_z hQ hx hb hr hlocks ⟨hc, k, T, T', kk, HA, HA', hc1, mi, hm, hP, hD⟩ hS dL_isStep_196 nz_1 rfl
      · skip
        refine lv_aload_n hx hb dL_isStep_97 rfl (lv_at hl 7 rfl) ?_
        refine lv_iload hx hb dL_isStep_98 (lv_at hl 2 rfl) ?_
        refine lv_iload hx hb dL_isStep_100 (lv_at hl 1 rfl) ?_
        refine lv_iconst (v := nI 2) hx hb dL_isStep_102 (by decide) ?_
        refine oq_ifb (G := (fun H => OI E F2 ad2 n hc k T' kk HA' H)) (rest := []) ⟨hx, hb, hml, hown, hts⟩ hK hN hA hFA1 hP hD (fun _ _ hfr q => q.kept hap2 hfr) hS (x := a) (y := b) (v := 2) (by omega) (by omega) hab (by omega) (cwV 3 hts gL_isStep_X4_ifBuilt rfl rfl rfl (by decide +kernel) ⟨by rw [hR]; decide, by rw [hR]; decide⟩) hl.1 rfl (Nat.le_of_ble_eq_true rfl) dL_isStep_103 ⟨Nat.zero_le _, Nat.zero_le _⟩ (fun H locs hP hD hS => ?_)
        refine lv_istore (lv' := [(11, .int (ifA T k n a b 2)), (10, .int (nI (1 + c9))), (9, .int (nI b)), (8, .int (nI a)), (7, .int (nI o9)), (6, .int (nI (piM T k n))), (5, .int (nI k)), (4, .int y), (0, .ref (ad1 0)), (1, .ref (ad2 0)), (2, .int (nI n)), (3, .int x)]) hx hb dL_isStep_106 hl (by decide) rfl (fun ls hl => ?_)
        refine lv_aload_n hx hb dL_isStep_108 rfl (lv_at hl 8 rfl) ?_
        refine lv_iload hx hb dL_isStep_109 (lv_at hl 3 rfl) ?_
        refine lv_iload hx hb dL_isStep_111 (lv_at hl 2 rfl) ?_
        refine lv_iload hx hb dL_isStep_113 (lv_at hl 1 rfl) ?_
        refine oc_build (G := (fun H => OI E F2 ad2 n hc k T' kk HA' H)) (rest := []) ⟨hx, hb, hml, hown, hts⟩ hK hN hA hFA1 hP hD (fun _ _ hfr q => q.kept hap2 hfr) hS (x := a) (y := b) (by omega) (by omega) (by omega) (by omega) (by omega) (by omega) (cwV 3 hts gL_isStep_X4_build rfl rfl rfl (by decide +kernel) ⟨by rw [hR]; decide, by rw [hR]; decide⟩) hl.1 rfl (Nat.le_of_ble_eq_true rfl) dL_isStep_115 ⟨Nat.zero_le _, Nat.zero_le _⟩ (fun H locs hP hD hS => ?_)
        obtain ⟨-, lo2, hi2, le2, en2, hT2⟩ := hP.tw
        refine lv_istore (lv' := [(12, .int (nI (piM (adA T k (nI a) (nI b) (nI (1 + c9))) (k + 1) n))), (11, .int (ifA T k n a b 2)), (10, .int (nI (1 + c9))), (9, .int (nI b)), (8, .int (nI a)), (7, .int (nI o9)), (6, .int (nI (piM T k n))), (5, .int (nI k)), (4, .int y), (0, .ref (ad1 0)), (1, .ref (ad2 0)), (2, .int (nI n)), (3, .int x)]) hx hb dL_isStep_118 hl (by decide) rfl (fun ls hl => ?_)
        refine lv_iload hx hb dL_isStep_120 (lv_at hl 0 rfl) ?_
        refine lv_aload_n hx hb dL_isStep_122 rfl (lv_at hl 10 rfl) ?_
        refine lv_iload_n hx hb dL_isStep_123 rfl (lv_at hl 11 rfl) ?_
        refine lv_iconst (v := nI 1) hx hb dL_isStep_124 (by decide) ?_
        refine rk_isubN hx hb (by omega) dL_isStep_125 ?_
        refine lv_iload hx hb dL_isStep_126 (lv_at hl 4 rfl) ?_
        refine rk_isubN hx hb (by omega) dL_isStep_128 ?_
        refine lv_iload_n hx hb dL_isStep_129 rfl (lv_at hl 11 rfl) ?_
        refine lv_iconst (v := nI 1) hx hb dL_isStep_130 (by decide) ?_
        refine rk_isubN hx hb (by omega) dL_isStep_131 ?_
        refine lv_iload hx hb dL_isStep_132 (lv_at hl 3 rfl) ?_
        refine rk_isubN hx hb (by omega) dL_isStep_134 ?_
        refine lv_iload hx hb dL_isStep_135 (lv_at hl 2 rfl) ?_
        refine oc_build (G := (fun H => OI E F1 ad1 n (hcN hc) (k + 1) (adA T k (nI a) (nI b) (nI (1 + c9))) (kkN kk hc k) (HAN HA hc T) H)) (rest := [.int (nI (piM (adA T k (nI a) (nI b) (nI (1 + c9))) (k + 1) n))]) ⟨hx, hb, hml, hown, hts⟩ hK hN hA hFA2 hD hP (fun _ _ hfr q => q.kept hap1 hfr) hS (x := (n - 1) - a) (y := (n - 1) - b) (by omega) (by omega) (by omega) (by omega) (by omega) (by omega) (cwV 3 hts gL_isStep_X4_build rfl rfl rfl (by decide +kernel) ⟨by rw [hR]; decide, by rw [hR]; decide⟩) hl.1 rfl (Nat.le_of_ble_eq_true rfl) dL_isStep_137 ⟨Nat.zero_le _, Nat.zero_le _⟩ (fun H locs hD hP hS => ?_)
        obtain ⟨-, lo3, hi3, le3, en3, hT3⟩ := hD.tw
        have hbu := bu_if hT (by omega) ha hb9 hT2
        have hpb := pi_pos hT2
        refine lv_icmp_ne (tgt := 195) hx hb dL_isStep_140 (by decide) (fun q => absurd (congrArg nI (pi_mi hT2 hT3 (ad_mi hT mi (by omega) ha hb9)).symm) q) (fun zc140 => ?_)
        refine lv_iload hx hb dL_isStep_143 (lv_at hl 4 rfl) ?_
        refine lv_iload hx hb dL_isStep_145 (lv_at hl 3 rfl) ?_
        refine rk_neN (tgt := 160) hx hb (by omega) (by omega) dL_isStep_147 (by decide) (fun zc147 => ?_) (fun q => absurd q hab)
        refine lv_iload hx hb dL_isStep_160 (lv_at hl 7 rfl) ?_
        refine lv_bipush (v := nI 30) hx hb dL_isStep_162 (by decide) ?_
        refine rk_neN (tgt := 177) hx hb (by omega) (by omega) dL_isStep_164 (by decide) (fun zc164 => ?_) (fun q => absurd q (by omega))
        refine lv_iload hx hb dL_isStep_177 (lv_at hl 0 rfl) ?_
        refine lv_iload hx hb dL_isStep_179 (lv_at hl 1 rfl) ?_
        refine lv_icmp_ne (tgt := 195) hx hb dL_isStep_181 (by decide) (fun q => absurd hbu.1 q) (fun zc181 => ?_)
        refine lv_iload hx hb dL_isStep_184 (lv_at hl 0 rfl) ?_
        refine lv_iload hx hb dL_isStep_186 (lv_at hl 6 rfl) ?_
        refine rk_gtN (tgt := 195) hx hb (by omega) (by omega) dL_isStep_188 (by decide) (fun q => absurd q (by omega)) (fun zc188 => ?_)
        refine lv_iconst (v := nI 1) hx hb dL_isStep_191 (by decide) ?_
        refine lv_goto (tgt := 196) hx hb dL_isStep_192 (by decide) ?_
        exact rx_z hQ hx hb hr hlocks ⟨hcN hc, k + 1, adA T k (nI a) (nI b) (nI (1 + c9)), adA T' k (nI ((n - 1) - a)) (nI ((n - 1) - b)) (nI (1 + c9)), kkN kk hc k, HAN HA hc T, HAN HA' hc T', hcN_1 _ hc1, ad_mi hT mi (by omega) ha hb9, hm_N hc6 hm mi, hP, hD⟩ hS dL_isStep_196 nz_1 rfl
    · refine lv_iload hx hb dL_isStep_53 (lv_at hl 4 rfl) ?_
      refine lv_bipush (v := nI 6) hx hb dL_isStep_55 (by decide) ?_
      refine lv_ishr hx hb dL_isStep_57 ?_
      refine lv_iload_n hx hb dL_isStep_58 rfl (lv_at hl 7 rfl) ?_
      refine kX_0 (G := (fun H => OI E F1 ad1 n hc k T kk HA H ∧ OI E F2 ad2 n hc k T' kk HA' H)) (E := E) (As := [.int (y >>> ((nI 6) &&& 31)), .int (nI n)]) (rest := []) ⟨hx, hb, hml, hown, hts⟩ (c_L_up (l := l) (E := E) (sz := _) (v := y >>> ((nI 6) &&& 31)) (n := n) (gn0 := by omega) (gn1 := by omega)) (cwS 2 hts gL_isStep_L_up rfl rfl rfl (by decide +kernel) ⟨by rw [hR]; decide, by rw [hR]; decide⟩) hK hN ⟨hP, hD⟩ (fun _ _ hfr q => ⟨q.1.kept (fun _ _ z => z) hfr, q.2.kept (fun _ _ z => z) hfr⟩) hS hA rfl hl.1 rfl (Nat.le_of_ble_eq_true rfl) dL_isStep_59 ⟨Nat.zero_le _, Nat.zero_le _⟩ (fun H locs hG hS => ?_)
      obtain ⟨hP, hD⟩ := hG
      refine lv_goto (tgt := 81) hx hb dL_isStep_62 (by decide) ?_
      obtain ⟨b, eb⟩ : ∃ b, upV (y >>> ((nI 6) &&& 31)) % n = b := ⟨_, rfl⟩
      have hb9 : b < n := by rw [← eb]; exact Nat.mod_lt _ (by omega)
      refine rk_ev (congrArg nI eb) ?_
      refine lv_istore (lv' := [(9, .int (nI b)), (8, .int (nI a)), (7, .int (nI o9)), (6, .int (nI (piM T k n))), (5, .int (nI k)), (4, .int y), (0, .ref (ad1 0)), (1, .ref (ad2 0)), (2, .int (nI n)), (3, .int x)]) hx hb dL_isStep_81 hl (by decide) rfl (fun ls hl => ?_)
      refine lv_iconst (v := nI 1) hx hb dL_isStep_83 (by decide) ?_
      refine lv_iload hx hb dL_isStep_84 (lv_at hl 5 rfl) ?_
      refine lv_bipush (v := nI 11) hx hb dL_isStep_86 (by decide) ?_
      refine lv_ishr hx hb dL_isStep_88 ?_
      refine lv_bipush (v := nI 99) hx hb dL_isStep_89 (by decide) ?_
      refine kX_0 (G := (fun H => OI E F1 ad1 n hc k T kk HA H ∧ OI E F2 ad2 n hc k T' kk HA' H)) (E := E) (As := [.int (y >>> ((nI 11) &&& 31)), .int (nI 99)]) (rest := [.int (nI 1)]) ⟨hx, hb, hml, hown, hts⟩ (c_L_up (l := l) (E := E) (sz := _) (v := y >>> ((nI 11) &&& 31)) (n := 99) (gn0 := by omega) (gn1 := by omega)) (cwS 2 hts gL_isStep_L_up rfl rfl rfl (by decide +kernel) ⟨by rw [hR]; decide, by rw [hR]; decide⟩) hK hN ⟨hP, hD⟩ (fun _ _ hfr q => ⟨q.1.kept (fun _ _ z => z) hfr, q.2.kept (fun _ _ z => z) hfr⟩) hS hA rfl hl.1 rfl (Nat.le_of_ble_eq_true rfl) dL_isStep_91 ⟨Nat.zero_le _, Nat.zero_le _⟩ (fun H locs hG hS => ?_)
      obtain ⟨hP, hD⟩ := hG
      obtain ⟨c9, ec9⟩ : ∃ c9, upV (y >>> (nI 11 &&& 31)) % 99 = c9 := ⟨_, rfl⟩
      have hc9 : c9 < 99 := by rw [← ec9]; exact Nat.mod_lt _ (by omega)
      refine rk_ev (congrArg nI ec9) ?_
      refine rk_iaddN hx hb dL_isStep_94 ?_
      refine lv_istore (lv' := [(10, .int (nI (1 + c9))), (9, .int (nI b)), (8, .int (nI a)), (7, .int (nI o9)), (6, .int (nI (piM T k n))), (5, .int (nI k)), (4, .int y), (0, .ref (ad1 0)), (1, .ref (ad2 0)), (2, .int (nI n)), (3, .int x)]) hx hb dL_isStep_95 hl (by decide) rfl (fun ls hl => ?_)
      rcases (show a = b ∨ (¬ a = b ∧ k = 30) ∨ (¬ a = b ∧ k < 30) by omega) with hab | ⟨hab, hk3⟩ | ⟨hab, hk3⟩
      · subst hab
        refine lv_aload_n hx hb dL_isStep_97 rfl (lv_at hl 7 rfl) ?_
        refine lv_iload hx hb dL_isStep_98 (lv_at hl 2 rfl) ?_
        refine lv_iload hx hb dL_isStep_100 (lv_at hl 1 rfl) ?_
        refine lv_iconst (v := nI 2) hx hb dL_isStep_102 (by decide) ?_
        refine oq_ifs (G := (fun H => OI E F2 ad2 n hc k T' kk HA' H)) (rest := []) ⟨hx, hb, hml, hown, hts⟩ hK hN hA hFA1 hP hD (fun _ _ hfr q => q.kept hap2 hfr) hS (x := a) (by omega) (cwV 3 hts gL_isStep_X4_ifBuilt rfl rfl rfl (by decide +kernel) ⟨by rw [hR]; decide, by rw [hR]; decide⟩) hl.1 rfl (Nat.le_of_ble_eq_true rfl) dL_isStep_103 ⟨Nat.zero_le _, Nat.zero_le _⟩ (fun H locs hP hD hS => ?_)
        refine lv_istore (lv' := [(11, .int ((-2))), (10, .int (nI (1 + c9))), (9, .int (nI a)), (8, .int (nI a)), (7, .int (nI o9)), (6, .int (nI (piM T k n))), (5, .int (nI k)), (4, .int y), (0, .ref (ad1 0)), (1, .ref (ad2 0)), (2, .int (nI n)), (3, .int x)]) hx hb dL_isStep_106 hl (by decide) rfl (fun ls hl => ?_)
        refine lv_aload_n hx hb dL_isStep_108 rfl (lv_at hl 8 rfl) ?_
        refine lv_iload hx hb dL_isStep_109 (lv_at hl 3 rfl) ?_
        refine lv_iload hx hb dL_isStep_111 (lv_at hl 2 rfl) ?_
        refine lv_iload hx hb dL_isStep_113 (lv_at hl 1 rfl) ?_
        refine oc_same (G := (fun H => OI E F2 ad2 n hc k T' kk HA' H)) (rest := []) ⟨hx, hb, hml, hown, hts⟩ hK hN hA hFA1 hP hD (fun _ _ hfr q => q.kept hap2 hfr) hS (x := a) (by omega) (cwV 3 hts gL_isStep_X4_build rfl rfl rfl (by decide +kernel) ⟨by rw [hR]; decide, by rw [hR]; decide⟩) hl.1 rfl (Nat.le_of_ble_eq_true rfl) dL_isStep_115 ⟨Nat.zero_le _, Nat.zero_le _⟩ (fun H locs hP hD hS => ?_)
        refine lv_istore (lv' := [(12, .int ((-2))), (11, .int ((-2))), (10, .int (nI (1 + c9))), (9, .int (nI a)), (8, .int (nI a)), (7, .int (nI o9)), (6, .int (nI (piM T k n))), (5, .int (nI k)), (4, .int y), (0, .ref (ad1 0)), (1, .ref (ad2 0)), (2, .int (nI n)), (3, .int x)]) hx hb dL_isStep_118 hl (by decide) rfl (fun ls hl => ?_)
        refine lv_iload hx hb dL_isStep_120 (lv_at hl 0 rfl) ?_
        refine lv_aload_n hx hb dL_isStep_122 rfl (lv_at hl 10 rfl) ?_
        refine lv_iload_n hx hb dL_isStep_123 rfl (lv_at hl 11 rfl) ?_
        refine lv_iconst (v := nI 1) hx hb dL_isStep_124 (by decide) ?_
        refine rk_isubN hx hb (by omega) dL_isStep_125 ?_
        refine lv_iload hx hb dL_isStep_126 (lv_at hl 4 rfl) ?_
        refine rk_isubN hx hb (by omega) dL_isStep_128 ?_
        refine lv_iload_n hx hb dL_isStep_129 rfl (lv_at hl 11 rfl) ?_
        refine lv_iconst (v := nI 1) hx hb dL_isStep_130 (by decide) ?_
        refine rk_isubN hx hb (by omega) dL_isStep_131 ?_
        refine lv_iload hx hb dL_isStep_132 (lv_at hl 3 rfl) ?_
        refine rk_isubN hx hb (by omega) dL_isStep_134 ?_
        refine lv_iload hx hb dL_isStep_135 (lv_at hl 2 rfl) ?_
        refine oc_same (G := (fun H => OI E F1 ad1 n hc k T kk HA H)) (rest := [.int ((-2))]) ⟨hx, hb, hml, hown, hts⟩ hK hN hA hFA2 hD hP (fun _ _ hfr q => q.kept hap1 hfr) hS (x := (n - 1) - a) (by omega) (cwV 3 hts gL_isStep_X4_build rfl rfl rfl (by decide +kernel) ⟨by rw [hR]; decide, by rw [hR]; decide⟩) hl.1 rfl (Nat.le_of_ble_eq_true rfl) dL_isStep_137 ⟨Nat.zero_le _, Nat.zero_le _⟩ (fun H locs hD hP hS => ?_)
        refine lv_icmp_ne (tgt := 195) hx hb dL_isStep_140 (by decide) (fun q => absurd q (by decide)) (fun _ => ?_)
        refine lv_iload hx hb dL_isStep_143 (lv_at hl 4 rfl) ?_
        refine lv_iload hx hb dL_isStep_145 (lv_at hl 3 rfl) ?_
        refine rk_neN (tgt := 160) hx hb (by omega) (by omega) dL_isStep_147 (by decide) (fun q => absurd rfl q) (fun zc147 => ?_)
        refine lv_iload hx hb dL_isStep_150 (lv_at hl 0 rfl) ?_
        refine lv_bipush (v := (-2)) hx hb dL_isStep_152 (by decide) ?_
        refine lv_icmp_ne (tgt := 195) hx hb dL_isStep_154 (by decide) (fun q => absurd q (by decide)) (fun _ => ?_)
        refine lv_goto (tgt := 191) hx hb dL_isStep_157 (by decide) ?_
        refine lv_iconst (v := nI 1) hx hb dL_isStep_191 (by decide) ?_
        refine lv_goto (tgt := 196) hx hb dL_isStep_192 (by decide) ?_
        exact rx_z hQ hx hb hr hlocks ⟨hc, k, T, T', kk, HA, HA', hc1, mi, hm, hP, hD⟩ hS dL_isStep_196 nz_1 rfl
      · skip
        refine lv_aload_n hx hb dL_isStep_97 rfl (lv_at hl 7 rfl) ?_
        refine lv_iload hx hb dL_isStep_98 (lv_at hl 2 rfl) ?_
        refine lv_iload hx hb dL_isStep_100 (lv_at hl 1 rfl) ?_
        refine lv_iconst (v := nI 2) hx hb dL_isStep_102 (by decide) ?_
        refine oq_ifb (G := (fun H => OI E F2 ad2 n hc k T' kk HA' H)) (rest := []) ⟨hx, hb, hml, hown, hts⟩ hK hN hA hFA1 hP hD (fun _ _ hfr q => q.kept hap2 hfr) hS (x := a) (y := b) (v := 2) (by omega) (by omega) hab (by omega) (cwV 3 hts gL_isStep_X4_ifBuilt rfl rfl rfl (by decide +kernel) ⟨by rw [hR]; decide, by rw [hR]; decide⟩) hl.1 rfl (Nat.le_of_ble_eq_true rfl) dL_isStep_103 ⟨Nat.zero_le _, Nat.zero_le _⟩ (fun H locs hP hD hS => ?_)
        refine lv_istore (lv' := [(11, .int (ifA T k n a b 2)), (10, .int (nI (1 + c9))), (9, .int (nI b)), (8, .int (nI a)), (7, .int (nI o9)), (6, .int (nI (piM T k n))), (5, .int (nI k)), (4, .int y), (0, .ref (ad1 0)), (1, .ref (ad2 0)), (2, .int (nI n)), (3, .int x)]) hx hb dL_isStep_106 hl (by decide) rfl (fun ls hl => ?_)
        refine lv_aload_n hx hb dL_isStep_108 rfl (lv_at hl 8 rfl) ?_
        refine lv_iload hx hb dL_isStep_109 (lv_at hl 3 rfl) ?_
        refine lv_iload hx hb dL_isStep_111 (lv_at hl 2 rfl) ?_
        refine lv_iload hx hb dL_isStep_113 (lv_at hl 1 rfl) ?_
        refine oc_many (G := (fun H => OI E F2 ad2 n hc k T' kk HA' H)) (rest := []) ⟨hx, hb, hml, hown, hts⟩ hK hN hA hFA1 hP hD (fun _ _ hfr q => q.kept hap2 hfr) hS (x := a) (y := b) (by omega) (by omega) (by omega) (by omega) (by omega) (by omega) (cwV 3 hts gL_isStep_X4_build rfl rfl rfl (by decide +kernel) ⟨by rw [hR]; decide, by rw [hR]; decide⟩) hl.1 rfl (Nat.le_of_ble_eq_true rfl) dL_isStep_115 ⟨Nat.zero_le _, Nat.zero_le _⟩ (fun H locs hP hD hS => ?_)
        refine lv_istore (lv' := [(12, .int ((-4))), (11, .int (ifA T k n a b 2)), (10, .int (nI (1 + c9))), (9, .int (nI b)), (8, .int (nI a)), (7, .int (nI o9)), (6, .int (nI (piM T k n))), (5, .int (nI k)), (4, .int y), (0, .ref (ad1 0)), (1, .ref (ad2 0)), (2, .int (nI n)), (3, .int x)]) hx hb dL_isStep_118 hl (by decide) rfl (fun ls hl => ?_)
        refine lv_iload hx hb dL_isStep_120 (lv_at hl 0 rfl) ?_
        refine lv_aload_n hx hb dL_isStep_122 rfl (lv_at hl 10 rfl) ?_
        refine lv_iload_n hx hb dL_isStep_123 rfl (lv_at hl 11 rfl) ?_
        refine lv_iconst (v := nI 1) hx hb dL_isStep_124 (by decide) ?_
        refine rk_isubN hx hb (by omega) dL_isStep_125 ?_
        refine lv_iload hx hb dL_isStep_126 (lv_at hl 4 rfl) ?_
        refine rk_isubN hx hb (by omega) dL_isStep_128 ?_
        refine lv_iload_n hx hb dL_isStep_129 rfl (lv_at hl 11 rfl) ?_
        refine lv_iconst (v := nI 1) hx hb dL_isStep_130 (by decide) ?_
        refine rk_isubN hx hb (by omega) dL_isStep_131 ?_
        refine lv_iload hx hb dL_isStep_132 (lv_at hl 3 rfl) ?_
        refine rk_isubN hx hb (by omega) dL_isStep_134 ?_
        refine lv_iload hx hb dL_isStep_135 (lv_at hl 2 rfl) ?_
        refine oc_many (G := (fun H => OI E F1 ad1 n hc k T kk HA H)) (rest := [.int ((-4))]) ⟨hx, hb, hml, hown, hts⟩ hK hN hA hFA2 hD hP (fun _ _ hfr q => q.kept hap1 hfr) hS (x := (n - 1) - a) (y := (n - 1) - b) (by omega) (by omega) (by omega) (by omega) (by omega) (by omega) (cwV 3 hts gL_isStep_X4_build rfl rfl rfl (by decide +kernel) ⟨by rw [hR]; decide, by rw [hR]; decide⟩) hl.1 rfl (Nat.le_of_ble_eq_true rfl) dL_isStep_137 ⟨Nat.zero_le _, Nat.zero_le _⟩ (fun H locs hD hP hS => ?_)
        refine lv_icmp_ne (tgt := 195) hx hb dL_isStep_140 (by decide) (fun q => absurd q (by decide)) (fun _ => ?_)
        refine lv_iload hx hb dL_isStep_143 (lv_at hl 4 rfl) ?_
        refine lv_iload hx hb dL_isStep_145 (lv_at hl 3 rfl) ?_
        refine rk_neN (tgt := 160) hx hb (by omega) (by omega) dL_isStep_147 (by decide) (fun zc147 => ?_) (fun q => absurd q hab)
        refine lv_iload hx hb dL_isStep_160 (lv_at hl 7 rfl) ?_
        refine lv_bipush (v := nI 30) hx hb dL_isStep_162 (by decide) ?_
        refine rk_neN (tgt := 177) hx hb (by omega) (by omega) dL_isStep_164 (by decide) (fun q => absurd hk3 q) (fun zc164 => ?_)
        refine lv_iload hx hb dL_isStep_167 (lv_at hl 0 rfl) ?_
        refine lv_bipush (v := (-4)) hx hb dL_isStep_169 (by decide) ?_
        refine lv_icmp_ne (tgt := 195) hx hb dL_isStep_171 (by decide) (fun q => absurd q (by decide)) (fun _ => ?_)
        refine lv_goto (tgt := 191) hx hb dL_isStep_174 (by decide) ?_
        refine lv_iconst (v := nI 1) hx hb dL_isStep_191 (by decide) ?_
        refine lv_goto (tgt := 196) hx hb dL_isStep_192 (by decide) ?_
        exact rx_z hQ hx hb hr hlocks ⟨hc, k, T, T', kk, HA, HA', hc1, mi, hm, hP, hD⟩ hS dL_isStep_196 nz_1 rfl
      · skip
        refine lv_aload_n hx hb dL_isStep_97 rfl (lv_at hl 7 rfl) ?_
        refine lv_iload hx hb dL_isStep_98 (lv_at hl 2 rfl) ?_
        refine lv_iload hx hb dL_isStep_100 (lv_at hl 1 rfl) ?_
        refine lv_iconst (v := nI 2) hx hb dL_isStep_102 (by decide) ?_
        refine oq_ifb (G := (fun H => OI E F2 ad2 n hc k T' kk HA' H)) (rest := []) ⟨hx, hb, hml, hown, hts⟩ hK hN hA hFA1 hP hD (fun _ _ hfr q => q.kept hap2 hfr) hS (x := a) (y := b) (v := 2) (by omega) (by omega) hab (by omega) (cwV 3 hts gL_isStep_X4_ifBuilt rfl rfl rfl (by decide +kernel) ⟨by rw [hR]; decide, by rw [hR]; decide⟩) hl.1 rfl (Nat.le_of_ble_eq_true rfl) dL_isStep_103 ⟨Nat.zero_le _, Nat.zero_le _⟩ (fun H locs hP hD hS => ?_)
        refine lv_istore (lv' := [(11, .int (ifA T k n a b 2)), (10, .int (nI (1 + c9))), (9, .int (nI b)), (8, .int (nI a)), (7, .int (nI o9)), (6, .int (nI (piM T k n))), (5, .int (nI k)), (4, .int y), (0, .ref (ad1 0)), (1, .ref (ad2 0)), (2, .int (nI n)), (3, .int x)]) hx hb dL_isStep_106 hl (by decide) rfl (fun ls hl => ?_)
        refine lv_aload_n hx hb dL_isStep_108 rfl (lv_at hl 8 rfl) ?_
        refine lv_iload hx hb dL_isStep_109 (lv_at hl 3 rfl) ?_
        refine lv_iload hx hb dL_isStep_111 (lv_at hl 2 rfl) ?_
        refine lv_iload hx hb dL_isStep_113 (lv_at hl 1 rfl) ?_
        refine oc_build (G := (fun H => OI E F2 ad2 n hc k T' kk HA' H)) (rest := []) ⟨hx, hb, hml, hown, hts⟩ hK hN hA hFA1 hP hD (fun _ _ hfr q => q.kept hap2 hfr) hS (x := a) (y := b) (by omega) (by omega) (by omega) (by omega) (by omega) (by omega) (cwV 3 hts gL_isStep_X4_build rfl rfl rfl (by decide +kernel) ⟨by rw [hR]; decide, by rw [hR]; decide⟩) hl.1 rfl (Nat.le_of_ble_eq_true rfl) dL_isStep_115 ⟨Nat.zero_le _, Nat.zero_le _⟩ (fun H locs hP hD hS => ?_)
        obtain ⟨-, lo2, hi2, le2, en2, hT2⟩ := hP.tw
        refine lv_istore (lv' := [(12, .int (nI (piM (adA T k (nI a) (nI b) (nI (1 + c9))) (k + 1) n))), (11, .int (ifA T k n a b 2)), (10, .int (nI (1 + c9))), (9, .int (nI b)), (8, .int (nI a)), (7, .int (nI o9)), (6, .int (nI (piM T k n))), (5, .int (nI k)), (4, .int y), (0, .ref (ad1 0)), (1, .ref (ad2 0)), (2, .int (nI n)), (3, .int x)]) hx hb dL_isStep_118 hl (by decide) rfl (fun ls hl => ?_)
        refine lv_iload hx hb dL_isStep_120 (lv_at hl 0 rfl) ?_
        refine lv_aload_n hx hb dL_isStep_122 rfl (lv_at hl 10 rfl) ?_
        refine lv_iload_n hx hb dL_isStep_123 rfl (lv_at hl 11 rfl) ?_
        refine lv_iconst (v := nI 1) hx hb dL_isStep_124 (by decide) ?_
        refine rk_isubN hx hb (by omega) dL_isStep_125 ?_
        refine lv_iload hx hb dL_isStep_126 (lv_at hl 4 rfl) ?_
        refine rk_isubN hx hb (by omega) dL_isStep_128 ?_
        refine lv_iload_n hx hb dL_isStep_129 rfl (lv_at hl 11 rfl) ?_
        refine lv_iconst (v := nI 1) hx hb dL_isStep_130 (by decide) ?_
        refine rk_isubN hx hb (by omega) dL_isStep_131 ?_
        refine lv_iload hx hb dL_isStep_132 (lv_at hl 3 rfl) ?_
        refine rk_isubN hx hb (by omega) dL_isStep_134 ?_
        refine lv_iload hx hb dL_isStep_135 (lv_at hl 2 rfl) ?_
        refine oc_build (G := (fun H => OI E F1 ad1 n (hcN hc) (k + 1) (adA T k (nI a) (nI b) (nI (1 + c9))) (kkN kk hc k) (HAN HA hc T) H)) (rest := [.int (nI (piM (adA T k (nI a) (nI b) (nI (1 + c9))) (k + 1) n))]) ⟨hx, hb, hml, hown, hts⟩ hK hN hA hFA2 hD hP (fun _ _ hfr q => q.kept hap1 hfr) hS (x := (n - 1) - a) (y := (n - 1) - b) (by omega) (by omega) (by omega) (by omega) (by omega) (by omega) (cwV 3 hts gL_isStep_X4_build rfl rfl rfl (by decide +kernel) ⟨by rw [hR]; decide, by rw [hR]; decide⟩) hl.1 rfl (Nat.le_of_ble_eq_true rfl) dL_isStep_137 ⟨Nat.zero_le _, Nat.zero_le _⟩ (fun H locs hD hP hS => ?_)
        obtain ⟨-, lo3, hi3, le3, en3, hT3⟩ := hD.tw
        have hbu := bu_if hT (by omega) ha hb9 hT2
        have hpb := pi_pos hT2
        refine lv_icmp_ne (tgt := 195) hx hb dL_isStep_140 (by decide) (fun q => absurd (congrArg nI (pi_mi hT2 hT3 (ad_mi hT mi (by omega) ha hb9)).symm) q) (fun zc140 => ?_)
        refine lv_iload hx hb dL_isStep_143 (lv_at hl 4 rfl) ?_
        refine lv_iload hx hb dL_isStep_145 (lv_at hl 3 rfl) ?_
        refine rk_neN (tgt := 160) hx hb (by omega) (by omega) dL_isStep_147 (by decide) (fun zc147 => ?_) (fun q => absurd q hab)
        refine lv_iload hx hb dL_isStep_160 (lv_at hl 7 rfl) ?_
        refine lv_bipush (v := nI 30) hx hb dL_isStep_162 (by decide) ?_
        refine rk_neN (tgt := 177) hx hb (by omega) (by omega) dL_isStep_164 (by decide) (fun zc164 => ?_) (fun q => absurd q (by omega))
        refine lv_iload hx hb dL_isStep_177 (lv_at hl 0 rfl) ?_
        refine lv_iload hx hb dL_isStep_179 (lv_at hl 1 rfl) ?_
        refine lv_icmp_ne (tgt := 195) hx hb dL_isStep_181 (by decide) (fun q => absurd hbu.1 q) (fun zc181 => ?_)
        refine lv_iload hx hb dL_isStep_184 (lv_at hl 0 rfl) ?_
        refine lv_iload hx hb dL_isStep_186 (lv_at hl 6 rfl) ?_
        refine rk_gtN (tgt := 195) hx hb (by omega) (by omega) dL_isStep_188 (by decide) (fun q => absurd q (by omega)) (fun zc188 => ?_)
        refine lv_iconst (v := nI 1) hx hb dL_isStep_191 (by decide) ?_
        refine lv_goto (tgt := 196) hx hb dL_isStep_192 (by decide) ?_
        exact rx_z hQ hx hb hr hlocks ⟨hcN hc, k + 1, adA T k (nI a) (nI b) (nI (1 + c9)), adA T' k (nI ((n - 1) - a)) (nI ((n - 1) - b)) (nI (1 + c9)), kkN kk hc k, HAN HA hc T, HAN HA' hc T', hcN_1 _ hc1, ad_mi hT mi (by omega) ha hb9, hm_N hc6 hm mi, hP, hD⟩ hS dL_isStep_196 nz_1 rfl
