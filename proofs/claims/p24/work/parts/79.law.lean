/-! THE LAW: its own methods called, its loop, its start (laid by a program) -/
theorem ctc7 : Cond.constant RL 7 (nI 1779033703) ∈ wsL_cell := by decide +kernel
set_option maxHeartbeats 1000000 in
theorem c_L_cell (l : Launch) (E : EE) (sz : Nat) (b L k : Nat) (xs : Nat → Int32) (hL : L ≤ 260) (hk : k < 1000) : Cx l yL_cell wsL_cell 0 0 E [.ref b, .int (nI k)] (fun _ => False) (fun U => va_X b L xs U U.heap ∧ b < U.heap.size) (fun _ => True) sz (clF L xs k) := by
  refine Cx_of (cc := cL_cell) (maxL := 2) (ret := (some .int)) (by decide +kernel) rfl (Nat.le_of_ble_eq_true rfl) ?_
  intro p e s m args below meth c A R Q ls hx hb hr hts hown hml hlocks hA hFA hAd hK hN hPre hS hl hR hQ
  have hown : s.vm.findClass RL = some m.cls := hown
  have hl : lv_has ls 2 [(0, .ref b), (1, .int (nI k))] := hl
  obtain ⟨hX, hbl⟩ := hPre
  have hbA : ¬ A b := fun q => (hAd b q).elim id (fun z => absurd hbl (Nat.not_lt.mpr z))
  refine lv_iload_n hx hb dL_cell_0 rfl (lv_at hl 1 rfl) ?_
  refine lv_aload_n hx hb dL_cell_1 rfl (lv_at hl 0 rfl) ?_
  refine va_slen hx hb hX hbl hbA hS dL_cell_2 ?_
  refine rk_geN (tgt := 12) hx hb (by omega) (by omega) dL_cell_3 (by decide) (fun hz => ?_) (fun hz => ?_)
  · refine lv_ldc (v := nI 1779033703) hx hb hown (hts _ ctc7) dL_cell_12 ?_
    refine lv_iload_n hx hb dL_cell_14 rfl (lv_at hl 1 rfl) ?_
    refine lv_sipush (v := nI 887) hx hb dL_cell_15 (by decide) ?_
    refine lv_iadd hx hb dL_cell_18 ?_
    refine lv_imul hx hb dL_cell_19 ?_
    exact rx_i hQ hx hb hr hlocks trivial hS dL_cell_20 (by rw [clF, if_neg (by omega)])
  · refine lv_aload_n hx hb dL_cell_6 rfl (lv_at hl 0 rfl) ?_
    refine lv_iload_n hx hb dL_cell_7 rfl (lv_at hl 1 rfl) ?_
    refine va_sld hx hb hX hbl hbA hS (vp_in_nI hz (by omega)) dL_cell_8 ?_
    refine lv_goto (tgt := 20) hx hb dL_cell_9 (by decide) ?_
    exact rx_i hQ hx hb hr hlocks trivial hS dL_cell_20 (by rw [clF, if_pos hz, nI_clamp (by omega)])
theorem TW2.kept {E : EE} {F1 F2 F : Nat → Prop} {ad1 ad2 : Nat → Nat} {n : Nat} {H H1 : Heap} (h : TW2 E F1 F2 ad1 ad2 n H) (h1 : ∀ q, F1 q → ¬ F q) (h2 : ∀ q, F2 q → ¬ F q) (hfr : Fr F H H1) : TW2 E F1 F2 ad1 ad2 n H1 := by
  obtain ⟨hc, k, T, T', kk, HA, HA', hc1, mi, hm, hP, hD⟩ := h
  exact ⟨hc, k, T, T', kk, HA, HA', hc1, mi, hm, hP.kept h1 hfr, hD.kept h2 hfr⟩
section KL
variable {p : Program} {l : Launch} {e : Env} {R : Room} {s : State} {m : MethodId} {args : Array Value} {below : List Frame} {meth : Method} {c : Code} {H : Heap} {locs : List Loc} {cells slots : Nat} {Q : State → Prop}
variable {cc : ByteArray} {pj : Nat} {ls : Array Slot} {st0 rest : List Value} {E : EE} {A F1 F2 : Nat → Prop} {ad1 ad2 : Nat → Nat} {nL n index : Nat} {Ts : List Cond} {own : String}
theorem kL_cell (S : CallFix p m c cc nL s args Ts own) (hK : va_K E.1 vwCl (tyE E) s) (hN : nst s) (hA : ∀ q, s.heap.size ≤ q → A q) (hFA1 : ∀ q, F1 q → A q) (hFA2 : ∀ q, F2 q → A q) (hap1 : ∀ q, F1 q → ¬ F2 q) (hap2 : ∀ q, F2 q → ¬ F1 q) (hP : TW2 E F1 F2 ad1 ad2 n H) (hS : va_S A s.heap H locs) {b L k : Nat} {xs : Nat → Int32} (hL : L ≤ 260) (hk : k < 1000) (hX : va_X b L xs s s.heap) (hbl : b < s.heap.size) (hbA : ¬ A b) (cw : CallB R s args own index yL_cell cL_cell 2 (some .int) wsL_cell (rmO 0 0) 0 0 2 ∧ (Cond.static yL_cell).before args s = true) (hls : ls.size = nL) (hst : st0 = .int (nI k) :: .ref b :: rest) (hrest : (rest.map fun v => v.category).sum ≤ 8) (hdg : decode cc pj = .ok (.invokestatic index, 3)) (hf : cells ≤ R.cells ∧ slots ≤ R.slots) (go : ∀ (H1 : Heap) (locs1 : List Loc), TW2 E F1 F2 ad1 ad2 n H1 → va_S A s.heap H1 locs1 → W p l e R s m args below meth c H1 locs1 cells slots Q (F0 m (pj + 3) ls (.int (clF L xs k) :: rest))) : W p l e R s m args below meth c H locs cells slots Q (F0 m pj ls st0) := by
  subst hst
  exact kX_i S (c_L_cell l E _ b L k xs hL hk) (fun a U g mk h => ⟨va_X.moved (u := U) (U := U.calling g mk a) (Vm.Alike.refl U.vm) h.1, h.2⟩) cw hK hN (fun U hU hW => ⟨by rw [hU]; exact (hX.kept (hS.2.1 b hbl hbA)).moved hW.alike, by rw [hU]; exact Nat.lt_of_lt_of_le hbl hS.1⟩) (fun q h => h.elim) hS hA rfl hls rfl hrest hdg hf (fun H1 locs1 _ hS1 hfr => go H1 locs1 (hP.kept (fun _ _ z => z) (fun _ _ z => z) hfr) hS1)
theorem kL_step (S : CallFix p m c cc nL s args Ts own) (hK : va_K E.1 vwCl (tyE E) s) (hN : nst s) (hA : ∀ q, s.heap.size ≤ q → A q) (hFA1 : ∀ q, F1 q → A q) (hFA2 : ∀ q, F2 q → A q) (hap1 : ∀ q, F1 q → ¬ F2 q) (hap2 : ∀ q, F2 q → ¬ F1 q) (hP : TW2 E F1 F2 ad1 ad2 n H) (hS : va_S A s.heap H locs) (hn2 : 2 ≤ n) (hn16 : n ≤ 16) {x : Int32} (cw : CallB R s args own index yL_isStep cL_isStep 13 (some .boolean) wsL_isStep (rmO 5 115) 0 0 4 ∧ (Cond.static yL_isStep).before args s = true) (hls : ls.size = nL) (hst : st0 = .int x :: .int (nI n) :: .ref (ad2 0) :: .ref (ad1 0) :: rest) (hrest : (rest.map fun v => v.category).sum ≤ 8) (hdg : decode cc pj = .ok (.invokestatic index, 3)) (hf : cells ≤ R.cells ∧ slots ≤ R.slots) (go : ∀ (H1 : Heap) (locs1 : List Loc), TW2 E F1 F2 ad1 ad2 n H1 → va_S A s.heap H1 locs1 → W p l e R s m args below meth c H1 locs1 cells slots Q (F0 m (pj + 3) ls (.int (nI 1) :: rest))) : W p l e R s m args below meth c H locs cells slots Q (F0 m pj ls st0) := by
  subst hst
  exact kX_i S (c_L_isStep l E _ F1 F2 hap1 hap2 ad1 ad2 n hn2 hn16 x) (Bl_heap (P := TW2 E F1 F2 ad1 ad2 n)) cw hK hN (fun U hU _ => by rw [hU]; exact hP) (fun q h => h.elim (hFA1 q) (hFA2 q)) hS hA rfl hls rfl hrest hdg hf (fun H1 locs1 h1 hS1 _ => go H1 locs1 h1 hS1)
theorem kL_tree (S : CallFix p m c cc nL s args Ts own) (hK : va_K E.1 vwCl (tyE E) s) (hN : nst s) (hA : ∀ q, s.heap.size ≤ q → A q) (hFA1 : ∀ q, F1 q → A q) (hFA2 : ∀ q, F2 q → A q) (hap1 : ∀ q, F1 q → ¬ F2 q) (hap2 : ∀ q, F2 q → ¬ F1 q) (hP : TW2 E F1 F2 ad1 ad2 n H) (hS : va_S A s.heap H locs) (cw : CallB R s args own index yL_isTree cL_isTree 13 (some .boolean) wsL_isTree (rmO 5 118) 0 0 2 ∧ (Cond.static yL_isTree).before args s = true) (hls : ls.size = nL) (hst : st0 = .int (nI n) :: .ref (ad1 0) :: rest) (hrest : (rest.map fun v => v.category).sum ≤ 8) (hdg : decode cc pj = .ok (.invokestatic index, 3)) (hf : cells ≤ R.cells ∧ slots ≤ R.slots) (go : ∀ (H1 : Heap) (locs1 : List Loc), TW2 E F1 F2 ad1 ad2 n H1 → va_S A s.heap H1 locs1 → W p l e R s m args below meth c H1 locs1 cells slots Q (F0 m (pj + 3) ls (.int (nI 1) :: rest))) : W p l e R s m args below meth c H locs cells slots Q (F0 m pj ls st0) := by
  subst hst
  obtain ⟨hc, k, T, T', kk, HA, HA', hc1, mi, hm, hP, hD⟩ := hP
  exact kX_i S (c_L_isTree l E _ F1 ad1 n hc k T kk HA) (Bl_heap (P := OI E F1 ad1 n hc k T kk HA)) cw hK hN (fun U hU _ => by rw [hU]; exact hP) hFA1 hS hA rfl hls rfl hrest hdg hf (fun H1 locs1 h1 hS1 hfr => go H1 locs1 ⟨hc, k, T, T', kk, HA, HA', hc1, mi, hm, h1, hD.kept hap2 hfr⟩ hS1)
theorem kL_alike (S : CallFix p m c cc nL s args Ts own) (hK : va_K E.1 vwCl (tyE E) s) (hN : nst s) (hA : ∀ q, s.heap.size ≤ q → A q) (hFA1 : ∀ q, F1 q → A q) (hFA2 : ∀ q, F2 q → A q) (hap1 : ∀ q, F1 q → ¬ F2 q) (hap2 : ∀ q, F2 q → ¬ F1 q) (hP : TW2 E F1 F2 ad1 ad2 n H) (hS : va_S A s.heap H locs) {x : Int32} (cw : CallB R s args own index yL_areAlike cL_areAlike 9 (some .boolean) wsL_areAlike (rmO 5 118) 0 0 4 ∧ (Cond.static yL_areAlike).before args s = true) (hls : ls.size = nL) (hst : st0 = .int x :: .int (nI n) :: .ref (ad2 0) :: .ref (ad1 0) :: rest) (hrest : (rest.map fun v => v.category).sum ≤ 8) (hdg : decode cc pj = .ok (.invokestatic index, 3)) (hf : cells ≤ R.cells ∧ slots ≤ R.slots) (go : ∀ (H1 : Heap) (locs1 : List Loc), TW2 E F1 F2 ad1 ad2 n H1 → va_S A s.heap H1 locs1 → W p l e R s m args below meth c H1 locs1 cells slots Q (F0 m (pj + 3) ls (.int (nI 1) :: rest))) : W p l e R s m args below meth c H locs cells slots Q (F0 m pj ls st0) := by
  subst hst
  obtain ⟨hc, k, T, T', kk, HA, HA', hc1, mi, hm, hP, hD⟩ := hP
  exact kX_i S (c_L_areAlike l E _ F1 F2 hap1 hap2 ad1 ad2 n hc k T T' kk HA HA' mi x) (Bl_heap (P := fun H => OI E F1 ad1 n hc k T kk HA H ∧ OI E F2 ad2 n hc k T' kk HA' H)) cw hK hN (fun U hU _ => by rw [hU]; exact ⟨hP, hD⟩) (fun q h => h.elim (hFA1 q) (hFA2 q)) hS hA rfl hls rfl hrest hdg hf (fun H1 locs1 h1 hS1 _ => go H1 locs1 ⟨hc, k, T, T', kk, HA, HA', hc1, mi, hm, h1.1, h1.2⟩ hS1)
end KL
/-- the law's own: the machine at its entry -/
def LCx (p : Program) (s : State) (m : MethodId) (c : Code) (b L0 : Nat) (xs : Nat → Int32) (E : EE) (A : Nat → Prop) : Prop := p.tables.exec = Jvm.exec ∧ c.code = cL_law ∧ c.maxLocals = 6 ∧ s.vm.findClass RL = some m.cls ∧ (∀ w ∈ wsL_law, w.before #[Value.ref b] s = true) ∧ va_X b L0 xs s s.heap ∧ b < s.heap.size ∧ ¬ A b ∧ (∀ q, s.heap.size ≤ q → A q) ∧ va_K E.1 vwCl (tyE E) s ∧ nst s
set_option maxHeartbeats 4000000 in
set_option maxRecDepth 100000 in
theorem law_loop {p : Program} {l : Launch} {e : Env} {s : State} {m : MethodId} {below : List Frame} {meth : Method} {c : Code} {b L0 : Nat} {xs : Nat → Int32} {E : EE} {A F1 F2 : Nat → Prop} {ad1 ad2 : Nat → Nat} {n : Nat} (hr : meth.sig.returnType = ret) (hlocks : meth.locks = false) (C : LCx p s m c b L0 xs E A) (hL0 : L0 ≤ 260) (hAs : ∀ q, A q → s.heap.size ≤ q) (hFA1 : ∀ q, F1 q → A q) (hFA2 : ∀ q, F2 q → A q) (hap1 : ∀ q, F1 q → ¬ F2 q) (hap2 : ∀ q, F2 q → ¬ F1 q) (hn2 : 2 ≤ n) (hn16 : n ≤ 16) : ∀ (fu k : Nat), 36 - k < fu → k ≤ 36 → ∀ (H : Heap) (locs : List Loc), TW2 E F1 F2 ad1 ad2 n H → va_S A s.heap H locs → ∀ (ls : Array Slot), lv_has ls 6 [(5, .int (nI k)), (4, .int (nI 1)), (3, .int (nI n)), (2, .ref (ad2 0)), (1, .ref (ad1 0)), (0, .ref b)] → W p l e room_1 s m #[Value.ref b] below meth c H locs 600000 7302250 (lw_Z below #[Value.ref b] s) (F0 m 59 ls [])
  | 0, k, h, _ => absurd h (Nat.not_lt_zero _)
  | fu + 1, k, hfu, hk6 => by
    intro H locs hP hS ls hl
    obtain ⟨hx, hb, hml, hown, hts, hX, hbl, hbA, hA, hK, hN⟩ := id C
    refine lv_iload hx hb dL_law_59 (lv_at hl 0 rfl) ?_
    refine lv_bipush (v := nI 36) hx hb dL_law_61 (by decide) ?_
    refine rk_geN (tgt := 115) hx hb (by omega) (by omega) dL_law_63 (by decide) (fun hz => ?_) (fun hz => ?_)
    · refine lv_iload hx hb dL_law_115 (lv_at hl 1 rfl) ?_
      refine lv_if_eq (tgt := 147) hx hb dL_law_117 (by decide) (fun q => absurd q (by decide)) (fun _ => ?_)
      refine lv_aload_n hx hb dL_law_120 rfl (lv_at hl 4 rfl) ?_
      refine lv_iload_n hx hb dL_law_121 rfl (lv_at hl 2 rfl) ?_
      refine kL_tree (rest := []) ⟨hx, hb, hml, hown, hts⟩ hK hN hA hFA1 hFA2 hap1 hap2 hP hS  (cwS 2 hts gL_law_L_isTree rfl rfl rfl (by decide +kernel) ⟨by decide, by decide⟩) hl.1 rfl (Nat.le_of_ble_eq_true rfl) dL_law_122 ⟨Nat.le_refl _, Nat.le_refl _⟩ (fun H locs hP hS => ?_)
      refine lv_if_eq (tgt := 147) hx hb dL_law_125 (by decide) (fun q => absurd q (by decide)) (fun _ => ?_)
      refine lv_aload_n hx hb dL_law_128 rfl (lv_at hl 4 rfl) ?_
      refine lv_aload_n hx hb dL_law_129 rfl (lv_at hl 3 rfl) ?_
      refine lv_iload_n hx hb dL_law_130 rfl (lv_at hl 2 rfl) ?_
      refine lv_aload_n hx hb dL_law_131 rfl (lv_at hl 5 rfl) ?_
      refine lv_bipush (v := nI 36) hx hb dL_law_132 (by decide) ?_
      refine kL_cell (rest := [.int (nI n), .ref (ad2 0), .ref (ad1 0)]) ⟨hx, hb, hml, hown, hts⟩ hK hN hA hFA1 hFA2 hap1 hap2 hP hS hL0 (k := 36) (by decide) hX hbl hbA (cwS 2 hts gL_law_L_cell rfl rfl rfl (by decide +kernel) ⟨by decide, by decide⟩) hl.1 rfl (Nat.le_of_ble_eq_true rfl) dL_law_134 ⟨Nat.le_refl _, Nat.le_refl _⟩ (fun H locs hP hS => ?_)
      refine kL_alike (rest := []) ⟨hx, hb, hml, hown, hts⟩ hK hN hA hFA1 hFA2 hap1 hap2 hP hS  (cwS 4 hts gL_law_L_areAlike rfl rfl rfl (by decide +kernel) ⟨by decide, by decide⟩) hl.1 rfl (Nat.le_of_ble_eq_true rfl) dL_law_137 ⟨Nat.le_refl _, Nat.le_refl _⟩ (fun H locs hP hS => ?_)
      refine lv_if_eq (tgt := 147) hx hb dL_law_140 (by decide) (fun q => absurd q (by decide)) (fun _ => ?_)
      refine lv_iconst (v := 1) hx hb dL_law_143 (by decide) ?_
      refine lv_goto (tgt := 148) hx hb dL_law_144 (by decide) ?_
      refine va_forget (fun q hq => hAs _ (hS.2.2 q hq)) ?_
      exact lw_ret hx hb hr hlocks dL_law_148
    refine lv_iload hx hb dL_law_66 (lv_at hl 1 rfl) ?_
    refine lv_if_eq (tgt := 115) hx hb dL_law_68 (by decide) (fun q => absurd q (by decide)) (fun _ => ?_)
    refine lv_aload_n hx hb dL_law_71 rfl (lv_at hl 4 rfl) ?_
    refine lv_aload_n hx hb dL_law_72 rfl (lv_at hl 3 rfl) ?_
    refine lv_iload_n hx hb dL_law_73 rfl (lv_at hl 2 rfl) ?_
    refine lv_aload_n hx hb dL_law_74 rfl (lv_at hl 5 rfl) ?_
    refine lv_iload hx hb dL_law_75 (lv_at hl 0 rfl) ?_
    refine kL_cell (rest := [.int (nI n), .ref (ad2 0), .ref (ad1 0)]) ⟨hx, hb, hml, hown, hts⟩ hK hN hA hFA1 hFA2 hap1 hap2 hP hS hL0 (k := k) (by omega) hX hbl hbA (cwS 2 hts gL_law_L_cell rfl rfl rfl (by decide +kernel) ⟨by decide, by decide⟩) hl.1 rfl (Nat.le_of_ble_eq_true rfl) dL_law_77 ⟨Nat.le_refl _, Nat.le_refl _⟩ (fun H locs hP hS => ?_)
    refine kL_step (rest := []) ⟨hx, hb, hml, hown, hts⟩ hK hN hA hFA1 hFA2 hap1 hap2 hP hS hn2 hn16 (cwS 4 hts gL_law_L_isStep rfl rfl rfl (by decide +kernel) ⟨by decide, by decide⟩) hl.1 rfl (Nat.le_of_ble_eq_true rfl) dL_law_80 ⟨Nat.le_refl _, Nat.le_refl _⟩ (fun H locs hP hS => ?_)
    refine lv_if_eq (tgt := 106) hx hb dL_law_83 (by decide) (fun q => absurd q (by decide)) (fun _ => ?_)
    have next : ∀ (H1 : Heap) (locs1 : List Loc), TW2 E F1 F2 ad1 ad2 n H1 → va_S A s.heap H1 locs1 → W p l e room_1 s m #[Value.ref b] below meth c H1 locs1 600000 7302250 (lw_Z below #[Value.ref b] s) (F0 m 102 ls []) := by
      intro H1 locs1 hP1 hS1
      refine lv_iconst (v := nI 1) hx hb dL_law_102 (by decide) ?_
      refine lv_goto (tgt := 107) hx hb dL_law_103 (by decide) ?_
      refine lv_istore (lv' := [(4, .int (nI 1)), (5, .int (nI k)), (3, .int (nI n)), (2, .ref (ad2 0)), (1, .ref (ad1 0)), (0, .ref b)]) hx hb dL_law_107 hl (by decide) rfl (fun ls hl => ?_)
      refine lv_iinc (v := nI (k + 1)) (lv' := [(5, .int (nI (k + 1))), (4, .int (nI 1)), (3, .int (nI n)), (2, .ref (ad2 0)), (1, .ref (ad1 0)), (0, .ref b)]) hx hb dL_law_109 hl (k := 1) rfl (by rw [show Int32.ofInt 1 = nI 1 by decide]; exact nI_add _ _) (by decide) rfl (fun ls hl => ?_)
      refine lv_goto (tgt := 59) hx hb dL_law_112 (by decide) ?_
      exact law_loop hr hlocks C hL0 hAs hFA1 hFA2 hap1 hap2 hn2 hn16 fu (k + 1) (by omega) (by omega) H1 locs1 hP1 hS1 ls hl
    refine lv_iload hx hb dL_law_86 (lv_at hl 0 rfl) ?_
    refine lv_bipush (v := nI 6) hx hb dL_law_88 (by decide) ?_
    refine rk_iremN hx hb (by omega) (by omega) (by omega) dL_law_90 ?_
    refine rk_if_gtN (tgt := 102) hx hb (by omega) dL_law_91 (by decide) (fun _ => ?_) (fun _ => ?_)
    · exact next _ _ hP hS
    · refine lv_aload_n hx hb dL_law_94 rfl (lv_at hl 4 rfl) ?_
      refine lv_iload_n hx hb dL_law_95 rfl (lv_at hl 2 rfl) ?_
      refine kL_tree (rest := []) ⟨hx, hb, hml, hown, hts⟩ hK hN hA hFA1 hFA2 hap1 hap2 hP hS  (cwS 2 hts gL_law_L_isTree rfl rfl rfl (by decide +kernel) ⟨by decide, by decide⟩) hl.1 rfl (Nat.le_of_ble_eq_true rfl) dL_law_96 ⟨Nat.le_refl _, Nat.le_refl _⟩ (fun H locs hP hS => ?_)
      refine lv_if_eq (tgt := 106) hx hb dL_law_99 (by decide) (fun q => absurd q (by decide)) (fun _ => ?_)
      exact next _ _ hP hS
