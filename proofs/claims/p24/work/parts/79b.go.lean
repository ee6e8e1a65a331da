/-! THE LAW: from both new objects to its loop (laid by a program) -/
set_option maxHeartbeats 4000000 in
set_option maxRecDepth 100000 in
theorem law_go {p : Program} {l : Launch} {e : Env} {s : State} {m : MethodId} {below : List Frame} {meth : Method} {c : Code} {b L0 : Nat} {xs : Nat → Int32} {E : EE} {A F1 F2 : Nat → Prop} {ad1 ad2 : Nat → Nat} {T0 : Nat → Int32} {kk : Nat → Nat} {HA : Nat → Nat → Int32} (hr : meth.sig.returnType = ret) (hlocks : meth.locks = false) (C : LCx p s m c b L0 xs E A) (hL0 : L0 ≤ 260) (hAs : ∀ q, A q → s.heap.size ≤ q) (hFA1 : ∀ q, F1 q → A q) (hFA2 : ∀ q, F2 q → A q) (hap1 : ∀ q, F1 q → ¬ F2 q) (hap2 : ∀ q, F2 q → ¬ F1 q) {H : Heap} {locs : List Loc} (hP : OI E F1 ad1 8 0 0 T0 kk HA H) (hD : OI E F2 ad2 8 0 0 T0 kk HA H) (hS : va_S A s.heap H locs) {ls : Array Slot} (hl : lv_has ls 6 [(2, .ref (ad2 0)), (1, .ref (ad1 0)), (0, .ref b)]) : W p l e room_1 s m #[Value.ref b] below meth c H locs 600000 7302250 (lw_Z below #[Value.ref b] s) (F0 m 16 ls []) := by
  obtain ⟨hx, hb, hml, hown, hts, hX, hbl, hbA, hA, hK, hN⟩ := id C
  refine lv_iconst (v := nI 3) hx hb dL_law_16 (by decide) ?_
  refine lv_aload_n hx hb dL_law_17 rfl (lv_at hl 2 rfl) ?_
  refine lv_iconst (v := nI 0) hx hb dL_law_18 (by decide) ?_
  refine kX_i (Post := fun _ => True) (F := fun _ => False) (As := [.ref b, .int (nI 0)]) (rest := [.int (nI 3)]) ⟨hx, hb, hml, hown, hts⟩ (c_L_cell l E _ b L0 0 xs hL0 (by decide)) (fun a U g mk h => ⟨va_X.moved (u := U) (U := U.calling g mk a) (Vm.Alike.refl U.vm) h.1, h.2⟩) (cwS 2 hts gL_law_L_cell rfl rfl rfl (by decide +kernel) ⟨by decide, by decide⟩) hK hN (fun U hU hW => ⟨by rw [hU]; exact (hX.kept (hS.2.1 b hbl hbA)).moved hW.alike, by rw [hU]; exact Nat.lt_of_lt_of_le hbl hS.1⟩) (fun q h => h.elim) hS hA rfl hl.1 rfl (Nat.le_of_ble_eq_true rfl) dL_law_19 ⟨Nat.le_refl _, Nat.le_refl _⟩ (fun H locs _ hS hfr => ?_)
  have hP := hP.kept (fun _ _ z => z) hfr
  have hD := hD.kept (fun _ _ z => z) hfr
  refine lv_bipush (v := nI 10) hx hb dL_law_22 (by decide) ?_
  refine kX_0 (G := fun H => OI E F1 ad1 8 0 0 T0 kk HA H ∧ OI E F2 ad2 8 0 0 T0 kk HA H) (E := E) (As := [.int (clF L0 xs 0), .int (nI 10)]) (rest := [.int (nI 3)]) ⟨hx, hb, hml, hown, hts⟩ (c_L_up (l := l) (E := E) (sz := _) (v := clF L0 xs 0) (n := 10) (gn0 := by decide) (gn1 := by decide)) (cwS 2 hts gL_law_L_up rfl rfl rfl (by decide +kernel) ⟨by decide, by decide⟩) hK hN ⟨hP, hD⟩ (fun _ _ hfr q => ⟨q.1.kept (fun _ _ z => z) hfr, q.2.kept (fun _ _ z => z) hfr⟩) hS hA rfl hl.1 rfl (Nat.le_of_ble_eq_true rfl) dL_law_24 ⟨Nat.le_refl _, Nat.le_refl _⟩ (fun H locs hG hS => ?_)
  obtain ⟨hP, hD⟩ := hG
  refine rk_iaddN hx hb dL_law_27 ?_
  obtain ⟨n, hn⟩ : ∃ n, 3 + upV (clF L0 xs 0) % 10 = n := ⟨_, rfl⟩
  have hnb : 3 ≤ n ∧ n ≤ 12 := by have := Nat.mod_lt (upV (clF L0 xs 0)) (show 0 < 10 by decide); omega
  refine rk_ev (congrArg nI hn) ?_
  refine lv_istore_n (lv' := [(3, .int (nI n)), (2, .ref (ad2 0)), (1, .ref (ad1 0)), (0, .ref b)]) hx hb dL_law_28 rfl hl (by decide) rfl (fun ls hl => ?_)
  refine lv_aload_n hx hb dL_law_29 rfl (lv_at hl 2 rfl) ?_
  refine lv_iload_n hx hb dL_law_30 rfl (lv_at hl 0 rfl) ?_
  refine oc_squares (k := 0) (hc := 0) (G := fun H => OI E F2 ad2 8 0 0 T0 kk HA H) (rest := []) ⟨hx, hb, hml, hown, hts⟩ hK hN hA hFA1 hP hD (fun _ _ hfr q => q.kept hap2 hfr) hS (mm := n) (by omega) (by omega) (cwV 1 hts gL_law_X4_squares rfl rfl rfl (by decide +kernel) ⟨by decide, by decide⟩) hl.1 rfl (Nat.le_of_ble_eq_true rfl) dL_law_31 ⟨Nat.le_refl _, Nat.le_refl _⟩ (fun H locs hP hD hS => ?_)
  refine lv_bipush (v := nI 8) hx hb dL_law_34 (by decide) ?_
  refine lv_icmp_ne (tgt := 53) hx hb dL_law_36 (by decide) (fun q => absurd rfl q) (fun _ => ?_)
  refine lv_aload_n hx hb dL_law_39 rfl (lv_at hl 1 rfl) ?_
  refine lv_iload_n hx hb dL_law_40 rfl (lv_at hl 0 rfl) ?_
  refine oc_squares (k := 0) (hc := 0) (G := fun H => OI E F1 ad1 n 1 0 (upd T0 0 (nI n)) kk HA H) (rest := []) ⟨hx, hb, hml, hown, hts⟩ hK hN hA hFA2 hD hP (fun _ _ hfr q => q.kept hap1 hfr) hS (mm := n) (by omega) (by omega) (cwV 1 hts gL_law_X4_squares rfl rfl rfl (by decide +kernel) ⟨by decide, by decide⟩) hl.1 rfl (Nat.le_of_ble_eq_true rfl) dL_law_41 ⟨Nat.le_refl _, Nat.le_refl _⟩ (fun H locs hD hP hS => ?_)
  refine lv_bipush (v := nI 8) hx hb dL_law_44 (by decide) ?_
  refine lv_icmp_ne (tgt := 53) hx hb dL_law_46 (by decide) (fun q => absurd rfl q) (fun _ => ?_)
  refine lv_iconst (v := nI 1) hx hb dL_law_49 (by decide) ?_
  refine lv_goto (tgt := 54) hx hb dL_law_50 (by decide) ?_
  refine lv_istore (lv' := [(4, .int (nI 1)), (3, .int (nI n)), (2, .ref (ad2 0)), (1, .ref (ad1 0)), (0, .ref b)]) hx hb dL_law_54 hl (by decide) rfl (fun ls hl => ?_)
  refine lv_iconst (v := nI 1) hx hb dL_law_56 (by decide) ?_
  refine lv_istore (lv' := [(5, .int (nI 1)), (4, .int (nI 1)), (3, .int (nI n)), (2, .ref (ad2 0)), (1, .ref (ad1 0)), (0, .ref b)]) hx hb dL_law_57 hl (by decide) rfl (fun ls hl => ?_)
  exact law_loop hr hlocks C hL0 hAs hFA1 hFA2 hap1 hap2 (by omega) (by omega) 36 1 (by omega) (by omega) H locs ⟨1, 0, _, _, kk, HA, HA, Nat.le_refl 1, fun r hr => absurd hr (Nat.not_lt_zero r), fun i q1 q2 => by omega, hP, hD⟩ hS ls hl
