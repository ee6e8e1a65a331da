/-! THE LAW'S SMALL METHODS (laid by a program) -/
theorem ct8_L_up : Cond.constant RL 8 (nI 2147483647) ∈ wsL_up := by decide +kernel
set_option maxHeartbeats 400000 in
set_option maxRecDepth 100000 in
theorem c_L_up (l : Launch) (E : EE) (sz : Nat) (v : Int32) (n : Nat) (gn0 : 0 < n) (gn1 : n < 2 ^ 31) : Ci l yL_up wsL_up 0 0 E [.int v, .int (nI n)] [] sz (nI (upV v % n)) [] := by
  refine C_of (QQ := QI E (nI (upV v % n)) []) (cc := cL_up) (maxL := 2) (ret := (some .int)) (by decide +kernel) rfl (Nat.le_of_ble_eq_true rfl) ?_
  intro p e s m args below meth c A R Q ls hx hb hr hts hown hml hlocks hA hK hN hP hD hS hl hR hQ
  have hown : s.vm.findClass RL = some m.cls := hown
  have hl : lv_has ls 2 [(0, .int v), (1, .int (nI n))] := hl
  refine lv_iload_n hx hb dL_up_0 rfl (lv_at hl 0 rfl) ?_
  refine lv_ldc (v := nI 2147483647) hx hb hown (hts _ ct8_L_up) dL_up_1 ?_
  refine lv_iand hx hb dL_up_3 ?_
  have hup := up_nI v
  refine rk_ev (hup.1) ?_
  refine lv_iload_n hx hb dL_up_4 rfl (lv_at hl 1 rfl) ?_
  refine rk_iremN hx hb (by omega) (by omega) (by omega) dL_up_5 ?_
  exact ret_i hQ hx hb hr hlocks (hP.sub [] rfl) (hD.sub [] (by decide) rfl) hS dL_up_6 (rfl)
set_option maxHeartbeats 400000 in
set_option maxRecDepth 100000 in
theorem c_L_bits (l : Launch) (E : EE) (sz : Nat) (x : Int32) : Ci l yL_bits wsL_bits 0 0 E [.int x] [] sz (nI (bsF x 16)) [] := by
  refine C_of (QQ := QI E (nI (bsF x 16)) []) (cc := cL_bits) (maxL := 3) (ret := (some .int)) (by decide +kernel) rfl (Nat.le_of_ble_eq_true rfl) ?_
  intro p e s m args below meth c A R Q ls hx hb hr hts hown hml hlocks hA hK hN hP hD hS hl hR hQ
  have hown : s.vm.findClass RL = some m.cls := hown
  have hl : lv_has ls 3 [(0, .int x)] := hl
  refine lv_iconst (v := nI 0) hx hb dL_bits_0 (by decide) ?_
  refine lv_istore_n (lv' := [(1, .int (nI 0)), (0, .int x)]) hx hb dL_bits_1 rfl hl (by decide) rfl (fun ls hl => ?_)
  refine lv_iconst (v := nI 0) hx hb dL_bits_2 (by decide) ?_
  refine lv_istore_n (lv' := [(2, .int (nI 0)), (1, .int (nI 0)), (0, .int x)]) hx hb dL_bits_3 rfl hl (by decide) rfl (fun ls hl => ?_)
  have L4 : ∀ (fu : Nat) (z i : Nat), (ez : z = bsF x i) → (gi : i ≤ 16) → 16 - i < fu → ∀ (H : Heap) (locs : List Loc), va_P E.1 vwCl [] H → va_D A [] → va_S A s.heap H locs → ∀ (ls : Array Slot), lv_has ls 3 [(2, .int (nI i)), (1, .int (nI z)), (0, .int x)] → W p l e R s m args below meth c H locs 0 0 Q (F0 m 4 ls []) := by
    intro fu
    induction fu with
    | zero => intro z i ez gi hfu; exact absurd hfu (Nat.not_lt_zero _)
    | succ fu ih4 =>
      intro z i ez gi hfu H locs hP hD hS ls hl
      refine lv_iload_n hx hb dL_bits_4 rfl (lv_at hl 0 rfl) ?_
      refine lv_bipush (v := nI 16) hx hb dL_bits_5 (by decide) ?_
      refine rk_geN (tgt := 24) hx hb (by omega) (by omega) dL_bits_7 (by decide) (fun zc7 => ?_) (fun zc7 => ?_)
      · refine lv_iload_n hx hb dL_bits_24 rfl (lv_at hl 1 rfl) ?_
        exact ret_i hQ hx hb hr hlocks (hP.sub [] rfl) (hD.sub [] (by decide) rfl) hS dL_bits_25 (by obtain rfl : i = 16 := (by omega); rw [ez])
      · refine lv_iload_n hx hb dL_bits_10 rfl (lv_at hl 1 rfl) ?_
        refine lv_iload_n hx hb dL_bits_11 rfl (lv_at hl 2 rfl) ?_
        refine lv_iload_n hx hb dL_bits_12 rfl (lv_at hl 0 rfl) ?_
        refine lv_ishr hx hb dL_bits_13 ?_
        refine lv_iconst (v := nI 1) hx hb dL_bits_14 (by decide) ?_
        refine lv_iand hx hb dL_bits_15 ?_
        refine rk_ev (bs_one (by omega)) ?_
        refine rk_iaddN hx hb dL_bits_16 ?_
        refine lv_istore_n (lv' := [(1, .int (nI (z + (if bt x i = true then 1 else 0)))), (2, .int (nI i)), (0, .int x)]) hx hb dL_bits_17 rfl hl (by decide) rfl (fun ls hl => ?_)
        refine lv_iinc (v := nI (i + 1)) (lv' := [(2, .int (nI (i + 1))), (1, .int (nI (z + (if bt x i = true then 1 else 0)))), (0, .int x)]) hx hb dL_bits_18 hl (k := 1) rfl (by rw [show Int32.ofInt 1 = nI 1 by decide]; exact nI_add _ _) (by decide) rfl (fun ls hl => ?_)
        refine lv_goto (tgt := 4) hx hb dL_bits_21 (by decide) ?_
        exact ih4 (z + (if bt x i = true then 1 else 0)) (i + 1) (by rw [ez]; rfl) (by first | assumption | omega | rfl) (by omega) _ _ (hP.sub [] rfl) (hD.sub [] (by decide) rfl) hS ls (lv_sub hl [0, 1, 2] rfl)
  exact L4 ((16 - 0) + 1) 0 0 (rfl) (by first | assumption | omega | rfl) (Nat.lt_succ_self _) _ _ (hP.sub [] rfl) (hD.sub [] (by decide) rfl) hS ls (lv_sub hl [0, 1, 2] rfl)
set_option maxHeartbeats 400000 in
set_option maxRecDepth 100000 in
theorem c_L_there (l : Launch) (E : EE) (sz : Nat) (x : Int32) (n : Nat) (gn : n ≤ 16) : Ci l yL_there wsL_there 0 0 E [.int x, .int (nI n)] [] sz (thF x n n) [] := by
  refine C_of (QQ := QI E (thF x n n) []) (cc := cL_there) (maxL := 4) (ret := (some .int)) (by decide +kernel) rfl (Nat.le_of_ble_eq_true rfl) ?_
  intro p e s m args below meth c A R Q ls hx hb hr hts hown hml hlocks hA hK hN hP hD hS hl hR hQ
  have hown : s.vm.findClass RL = some m.cls := hown
  have hl : lv_has ls 4 [(0, .int x), (1, .int (nI n))] := hl
  refine lv_iconst (v := nI 0) hx hb dL_there_0 (by decide) ?_
  refine lv_istore_n (lv' := [(2, .int (nI 0)), (0, .int x), (1, .int (nI n))]) hx hb dL_there_1 rfl hl (by decide) rfl (fun ls hl => ?_)
  refine lv_iconst (v := nI 0) hx hb dL_there_2 (by decide) ?_
  refine lv_istore_n (lv' := [(3, .int (nI 0)), (2, .int (nI 0)), (0, .int x), (1, .int (nI n))]) hx hb dL_there_3 rfl hl (by decide) rfl (fun ls hl => ?_)
  have L4 : ∀ (fu : Nat) (z : Int32) (i : Nat), (ez : z = thF x n i) → (gi : i ≤ n) → n - i < fu → ∀ (H : Heap) (locs : List Loc), va_P E.1 vwCl [] H → va_D A [] → va_S A s.heap H locs → ∀ (ls : Array Slot), lv_has ls 4 [(3, .int (nI i)), (2, .int z), (0, .int x), (1, .int (nI n))] → W p l e R s m args below meth c H locs 0 0 Q (F0 m 4 ls []) := by
    intro fu
    induction fu with
    | zero => intro z i ez gi hfu; exact absurd hfu (Nat.not_lt_zero _)
    | succ fu ih4 =>
      intro z i ez gi hfu H locs hP hD hS ls hl
      refine lv_iload_n hx hb dL_there_4 rfl (lv_at hl 0 rfl) ?_
      refine lv_iload_n hx hb dL_there_5 rfl (lv_at hl 3 rfl) ?_
      refine rk_geN (tgt := 29) hx hb (by omega) (by omega) dL_there_6 (by decide) (fun zc6 => ?_) (fun zc6 => ?_)
      · refine lv_iload_n hx hb dL_there_29 rfl (lv_at hl 1 rfl) ?_
        exact ret_i hQ hx hb hr hlocks (hP.sub [] rfl) (hD.sub [] (by decide) rfl) hS dL_there_30 (by obtain rfl : n = i := (by omega); exact ez)
      · refine lv_iload_n hx hb dL_there_9 rfl (lv_at hl 1 rfl) ?_
        refine lv_iload_n hx hb dL_there_10 rfl (lv_at hl 2 rfl) ?_
        refine lv_iload_n hx hb dL_there_11 rfl (lv_at hl 0 rfl) ?_
        refine lv_ishr hx hb dL_there_12 ?_
        refine lv_iconst (v := nI 1) hx hb dL_there_13 (by decide) ?_
        refine lv_iand hx hb dL_there_14 ?_
        refine lv_iload_n hx hb dL_there_15 rfl (lv_at hl 3 rfl) ?_
        refine lv_iconst (v := nI 1) hx hb dL_there_16 (by decide) ?_
        refine rk_isubN hx hb (by omega) dL_there_17 ?_
        refine lv_iload_n hx hb dL_there_18 rfl (lv_at hl 0 rfl) ?_
        refine rk_isubN hx hb (by omega) dL_there_19 ?_
        refine lv_ishl hx hb dL_there_20 ?_
        refine lv_ior hx hb dL_there_21 ?_
        refine lv_istore_n (lv' := [(2, .int (z ||| (((x >>> ((nI i) &&& 31)) &&& (nI 1)) <<< ((nI ((n - 1) - i)) &&& 31)))), (3, .int (nI i)), (0, .int x), (1, .int (nI n))]) hx hb dL_there_22 rfl hl (by decide) rfl (fun ls hl => ?_)
        refine lv_iinc (v := nI (i + 1)) (lv' := [(3, .int (nI (i + 1))), (2, .int (z ||| (((x >>> ((nI i) &&& 31)) &&& (nI 1)) <<< ((nI ((n - 1) - i)) &&& 31)))), (0, .int x), (1, .int (nI n))]) hx hb dL_there_23 hl (k := 1) rfl (by rw [show Int32.ofInt 1 = nI 1 by decide]; exact nI_add _ _) (by decide) rfl (fun ls hl => ?_)
        refine lv_goto (tgt := 4) hx hb dL_there_26 (by decide) ?_
        exact ih4 (z ||| (((x >>> ((nI i) &&& 31)) &&& (nI 1)) <<< ((nI ((n - 1) - i)) &&& 31))) (i + 1) (by rw [ez]; rfl) (by first | assumption | omega | rfl) (by omega) _ _ (hP.sub [] rfl) (hD.sub [] (by decide) rfl) hS ls (lv_sub hl [0, 1, 2, 3] rfl)
  exact L4 ((n - 0) + 1) (nI 0) 0 (rfl) (by first | assumption | omega | rfl) (Nat.lt_succ_self _) _ _ (hP.sub [] rfl) (hD.sub [] (by decide) rfl) hS ls (lv_sub hl [0, 1, 2, 3] rfl)
