/-! THE LAW: its loop (laid by a program) -/
set_option maxHeartbeats 4000000 in
set_option maxRecDepth 100000 in
theorem law_loop {p : Program} {l : Launch} {e : Env} {s : State} {m : MethodId} {below : List Frame} {meth : Method} {c : Code} {b L0 : Nat} {xs : Nat → Int32} {E : EE} {ad : Nat → Nat} (hr : meth.sig.returnType = ret) (hlocks : meth.locks = false) (C : LCx p s m c b L0 xs E (fun q : Nat => s.heap.size ≤ q)) (hL0 : L0 ≤ 2048) : ∀ (fu i : Nat), L0 - i < fu → i ≤ L0 → ∀ (H : Heap) (locs : List Loc), LInv E (fun q : Nat => s.heap.size ≤ q) ad H → va_S (fun q : Nat => s.heap.size ≤ q) s.heap H locs → ∀ (ls : Array Slot), lv_has ls 4 [(3, .int (nI i)), (2, .ref (ad 29)), (1, .ref (ad 0)), (0, .ref b)] → W p l e room_1 s m #[Value.ref b] below meth c H locs 600000 7302250 (lw_Z below #[Value.ref b] s) (F0 m 18 ls [])
  | 0, i, h, _ => absurd h (Nat.not_lt_zero _)
  | fu + 1, i, hfu, hiL => by
    intro H locs hI hS ls hl
    obtain ⟨hx, hb, hml, hown, hts, hX, hbl, hbA, hA, hK, hN⟩ := id C
    have next : ∀ (H1 : Heap) (locs1 : List Loc), i + 4 ≤ L0 → LInv E (fun q : Nat => s.heap.size ≤ q) ad H1 → va_S (fun q : Nat => s.heap.size ≤ q) s.heap H1 locs1 → W p l e room_1 s m #[Value.ref b] below meth c H1 locs1 600000 7302250 (lw_Z below #[Value.ref b] s) (F0 m 725 ls []) := by
      intro H1 locs1 h4 hI1 hS1
      refine lv_iinc (v := nI (i + 4)) (lv' := [(3, .int (nI (i + 4))), (2, .ref (ad 29)), (1, .ref (ad 0)), (0, .ref b)]) hx hb dL_law_725 hl (k := 0) rfl (by rw [show Int32.ofInt 4 = nI 4 by decide]; exact nI_add _ _) (by decide) rfl (fun ls hl => ?_)
      refine lv_goto (tgt := 18) hx hb dL_law_728 (by decide) ?_
      exact law_loop hr hlocks C hL0 fu (i + 4) (by omega) (by omega) H1 locs1 hI1 hS1 ls hl
    refine lv_iload_n hx hb dL_law_18 rfl (lv_at hl 0 rfl) ?_
    refine lv_aload_n hx hb dL_law_19 rfl (lv_at hl 3 rfl) ?_
    refine va_slen hx hb hX hbl hbA hS dL_law_20 ?_
    refine lv_iconst (v := nI 4) hx hb dL_law_21 (by decide) ?_
    refine lv_isub hx hb dL_law_22 ?_
    refine lv_icmp_gt (tgt := 731) hx hb dL_law_23 (by decide) (fun hz => ?_) (fun hz => ?_)
    · refine lv_iconst (v := 1) hx hb dL_law_731 (by decide) ?_
      refine va_forget (fun q hq => hS.2.2 q hq) ?_
      exact lw_ret hx hb hr hlocks dL_law_732
    have h4 : i + 4 ≤ L0 := by
      have hz2 : ¬ (nI L0 - nI 4 < nI i) := hz
      rw [Int32.lt_iff_toInt_lt, pk_sub_toInt (by omega) (by omega), nI_toInt (by omega)] at hz2
      omega
    have next := fun H1 locs1 => next H1 locs1 h4
    refine lv_aload_n hx hb dL_law_26 rfl (lv_at hl 3 rfl) ?_
    refine lv_iload_n hx hb dL_law_27 rfl (lv_at hl 0 rfl) ?_
    refine va_sld hx hb hX hbl hbA hS (vp_in_nI (show i < L0 by omega) (by omega)) dL_law_28 ?_
    refine lv_bipush (v := nI 31) hx hb dL_law_29 (by decide) ?_
    refine lv_iand hx hb dL_law_31 ?_
    generalize xs (nI i).toNatClampNeg &&& nI 31 = v
    by_cases c0 : v = nI 0
    · subst c0
      refine lv_tableIn (tgt := 132) hx hb dL_law_32 (by decide) (by decide) rfl (by decide) ?_
      exact lc_squares C hL0 (by omega) hI hS hl next
    by_cases c1 : v = nI 1
    · subst c1
      refine lv_tableIn (tgt := 155) hx hb dL_law_32 (by decide) (by decide) rfl (by decide) ?_
      exact lc_build C hL0 (by omega) hI hS hl next
    by_cases c2 : v = nI 2
    · subst c2
      refine lv_tableIn (tgt := 198) hx hb dL_law_32 (by decide) (by decide) rfl (by decide) ?_
      exact lc_lose C hL0 (by omega) hI hS hl next
    by_cases c3 : v = nI 3
    · subst c3
      refine lv_tableIn (tgt := 221) hx hb dL_law_32 (by decide) (by decide) rfl (by decide) ?_
      exact lc_read C hL0 (by omega) hI hS hl next
    by_cases c4 : v = nI 4
    · subst c4
      refine lv_tableIn (tgt := 234) hx hb dL_law_32 (by decide) (by decide) rfl (by decide) ?_
      exact lc_road C hL0 (by omega) hI hS hl next
    by_cases c5 : v = nI 5
    · subst c5
      refine lv_tableIn (tgt := 267) hx hb dL_law_32 (by decide) (by decide) rfl (by decide) ?_
      exact lc_square C hL0 (by omega) hI hS hl next
    by_cases c6 : v = nI 6
    · subst c6
      refine lv_tableIn (tgt := 300) hx hb dL_law_32 (by decide) (by decide) rfl (by decide) ?_
      exact lc_district C hL0 (by omega) hI hS hl next
    by_cases c7 : v = nI 7
    · subst c7
      refine lv_tableIn (tgt := 333) hx hb dL_law_32 (by decide) (by decide) rfl (by decide) ?_
      exact lc_count C hL0 (by omega) hI hS hl next
    by_cases c8 : v = nI 8
    · subst c8
      refine lv_tableIn (tgt := 356) hx hb dL_law_32 (by decide) (by decide) rfl (by decide) ?_
      exact lc_way C hL0 (by omega) hI hS hl next
    by_cases c9 : v = nI 9
    · subst c9
      refine lv_tableIn (tgt := 399) hx hb dL_law_32 (by decide) (by decide) rfl (by decide) ?_
      exact lc_must C hL0 (by omega) hI hS hl next
    by_cases c10 : v = nI 10
    · subst c10
      refine lv_tableIn (tgt := 442) hx hb dL_law_32 (by decide) (by decide) rfl (by decide) ?_
      exact lc_cutOff C hL0 (by omega) hI hS hl next
    by_cases c11 : v = nI 11
    · subst c11
      refine lv_tableIn (tgt := 475) hx hb dL_law_32 (by decide) (by decide) rfl (by decide) ?_
      exact lc_ifBuilt C hL0 (by omega) hI hS hl next
    by_cases c12 : v = nI 12
    · subst c12
      refine lv_tableIn (tgt := 518) hx hb dL_law_32 (by decide) (by decide) rfl (by decide) ?_
      exact lc_bestBuilt C hL0 (by omega) hI hS hl next
    by_cases c13 : v = nI 13
    · subst c13
      refine lv_tableIn (tgt := 541) hx hb dL_law_32 (by decide) (by decide) rfl (by decide) ?_
      exact lc_worstLoss C hL0 (by omega) hI hS hl next
    by_cases c14 : v = nI 14
    · subst c14
      refine lv_tableIn (tgt := 564) hx hb dL_law_32 (by decide) (by decide) rfl (by decide) ?_
      exact lc_needed C hL0 (by omega) hI hS hl next
    by_cases c15 : v = nI 15
    · subst c15
      refine lv_tableIn (tgt := 587) hx hb dL_law_32 (by decide) (by decide) rfl (by decide) ?_
      exact lc_put C hL0 (by omega) hI hS hl next
    by_cases c16 : v = nI 16
    · subst c16
      refine lv_tableIn (tgt := 640) hx hb dL_law_32 (by decide) (by decide) rfl (by decide) ?_
      exact lc_wipe C hL0 (by omega) hI hS hl next
    by_cases c17 : v = nI 17
    · subst c17
      refine lv_tableIn (tgt := 653) hx hb dL_law_32 (by decide) (by decide) rfl (by decide) ?_
      exact lc_fault C hL0 (by omega) hI hS hl next
    by_cases c18 : v = nI 18
    · subst c18
      refine lv_tableIn (tgt := 666) hx hb dL_law_32 (by decide) (by decide) rfl (by decide) ?_
      exact lc_undo C hL0 (by omega) hI hS hl next
    by_cases c19 : v = nI 19
    · subst c19
      refine lv_tableIn (tgt := 679) hx hb dL_law_32 (by decide) (by decide) rfl (by decide) ?_
      exact lc_save C hL0 (by omega) hI hS hl next
    by_cases c20 : v = nI 20
    · subst c20
      refine lv_tableIn (tgt := 702) hx hb dL_law_32 (by decide) (by decide) rfl (by decide) ?_
      exact lc_restore C hL0 (by omega) hI hS hl next
    refine lv_tableOut (tgt := 725) hx hb dL_law_32 (tsw_out (N := 20) (by decide) (fun j hj => by rcases (show j = 0 ∨ j = 1 ∨ j = 2 ∨ j = 3 ∨ j = 4 ∨ j = 5 ∨ j = 6 ∨ j = 7 ∨ j = 8 ∨ j = 9 ∨ j = 10 ∨ j = 11 ∨ j = 12 ∨ j = 13 ∨ j = 14 ∨ j = 15 ∨ j = 16 ∨ j = 17 ∨ j = 18 ∨ j = 19 ∨ j = 20 by omega) with rfl | rfl | rfl | rfl | rfl | rfl | rfl | rfl | rfl | rfl | rfl | rfl | rfl | rfl | rfl | rfl | rfl | rfl | rfl | rfl | rfl <;> assumption)) (by decide) ?_
    exact next _ _ hI hS
