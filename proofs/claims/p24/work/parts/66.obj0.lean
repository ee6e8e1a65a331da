/-! AN OBJECT OF THE CLASS: its cells, calls that change them in their places, and what lies beside them (begun out of own parts of whole) -/
def setL (ws : va_W) : List Nat → va_W → va_W
  | i :: is, w :: W => setL (ws.set i w) is W
  | _, _ => ws
theorem setL_get : ∀ (is : List Nat) (W ws : va_W) (k : Nat) (q : Nat × va_E), is.length = W.length → (setL ws is W)[k]? = some q → q ∈ W ∨ (ws[k]? = some q ∧ k ∉ is)
  | [], _, _, _, _, _, h => Or.inr ⟨by simpa [setL] using h, List.not_mem_nil⟩
  | i :: is, [], _, _, _, hlen, _ => absurd hlen (by simp)
  | i :: is, w :: W, ws, k, q, hlen, h => by
    have h' : (setL (ws.set i w) is W)[k]? = some q := h
    rcases setL_get is W (ws.set i w) k q (by simpa using hlen) h' with z | ⟨z1, z2⟩
    · exact Or.inl (List.mem_cons_of_mem _ z)
    · rw [List.getElem?_set] at z1
      by_cases e : i = k
      · rw [if_pos e] at z1
        split at z1
        · exact Or.inl (by rw [← Option.some.inj z1]; exact List.mem_cons_self)
        · cases z1
      · rw [if_neg e] at z1
        refine Or.inr ⟨z1, fun m => ?_⟩
        rcases List.mem_cons.mp m with e2 | m2
        · exact e e2.symm
        · exact z2 m2
theorem set_fst {ws : va_W} {i : Nat} {w : Nat × va_E} (h : (ws.map (fun q => q.1))[i]? = some w.1) : (ws.set i w).map (fun q => q.1) = ws.map (fun q => q.1) := by
  rw [List.map_set]
  apply List.ext_getElem?
  intro j
  rw [List.getElem?_set]
  by_cases e : i = j
  · subst e
    rw [if_pos rfl]
    have hlt := (List.getElem?_eq_some_iff.mp h).1
    rw [if_pos hlt, h]
  · rw [if_neg e]
theorem setL_fst : ∀ (is : List Nat) (W ws : va_W), is.map (fun i => (ws.map (fun q => q.1))[i]?) = W.map (fun q => some q.1) → (setL ws is W).map (fun q => q.1) = ws.map (fun q => q.1)
  | [], _, _, _ => by simp [setL]
  | i :: is, [], _, _ => by simp [setL]
  | i :: is, w :: W, ws, h => by
    rw [List.map_cons, List.map_cons] at h
    injection h with h1 h2
    have e := set_fst h1
    show (setL (ws.set i w) is W).map (fun q => q.1) = _
    rw [setL_fst is W (ws.set i w) (by rw [e]; exact h2), e]
theorem va_D_fst {A : Nat → Prop} {ws ws' : va_W} (h : ws'.map (fun q => q.1) = ws.map (fun q => q.1)) (hD : va_D A ws) : va_D A ws' := by
  have key : ∀ (i : Nat) (p : Nat × va_E), ws'[i]? = some p → ∃ p0, ws[i]? = some p0 ∧ p0.1 = p.1 := fun i p hp => by
    have h1 : (ws'.map (fun q => q.1))[i]? = some p.1 := by rw [List.getElem?_map, hp]; rfl
    rw [h, List.getElem?_map] at h1
    cases h2 : ws[i]? with
    | none => rw [h2] at h1; cases h1
    | some p0 => rw [h2] at h1; exact ⟨p0, rfl, Option.some.inj h1⟩
  refine ⟨fun i j p q hp hq e => ?_, fun i p hp => ?_⟩
  · obtain ⟨p0, hp0, ep⟩ := key i p hp
    obtain ⟨q0, hq0, eq⟩ := key j q hq
    exact hD.1 i j p0 q0 hp0 hq0 (by rw [ep, eq, e])
  · obtain ⟨p0, hp0, ep⟩ := key i p hp
    rw [← ep]
    exact hD.2 i p0 hp0
theorem inpl {A0 : Nat → Prop} {D : va_G} {cl : List vw_C} {ws wc w1 : va_W} {H H1 : Heap} (hP : va_P D cl ws H) (hD : va_D A0 ws) (isC : List Nat) (hC : isC.map (fun i => ws[i]?) = wc.map some) (hf : wc.map (fun q => q.1) = w1.map (fun q => q.1))
    (hk : ∀ q : Nat, q < H.size → ¬ va_A wc H.size q → H1[q]? = H[q]?) (hP1 : va_P D cl w1 H1) : va_P D cl (setL ws isC w1) H1 ∧ va_D A0 (setL ws isC w1) := by
  have hlen : isC.length = w1.length := by
    have h1 := congrArg List.length hC
    have h2 := congrArg List.length hf
    simp only [List.length_map] at h1 h2
    omega
  constructor
  · intro k q hq
    rcases setL_get isC w1 ws k q hlen hq with z | ⟨z1, z2⟩
    · obtain ⟨j, hj⟩ := List.getElem?_of_mem z
      exact hP1 j q hj
    · have hl := (hP k q z1).lt
      refine (hP k q z1).kept (hk q.1 hl (fun h => ?_))
      rcases h with ⟨k2, e, h⟩ | h
      · have h1 : (isC.map (fun i => ws[i]?))[k2]? = some (some (q.1, e)) := by rw [hC, List.getElem?_map, h]; rfl
        rw [List.getElem?_map] at h1
        cases hi : isC[k2]? with
        | none => rw [hi] at h1; cases h1
        | some i =>
          rw [hi] at h1
          have h2 := Option.some.inj h1
          have h3 := hD.1 k i q (q.1, e) z1 h2 rfl
          exact z2 (by rw [h3]; exact List.mem_of_getElem? hi)
      · omega
  · refine va_D_fst (setL_fst isC w1 ws ?_) hD
    have e1 : isC.map (fun i => (ws.map (fun q => q.1))[i]?) = (isC.map (fun i => ws[i]?)).map (fun o => o.map (fun q => q.1)) := by
      rw [List.map_map]
      refine List.map_congr_left (fun i _ => ?_)
      rw [List.getElem?_map]
      rfl
    rw [e1, hC, List.map_map]
    have e2 : wc.map ((fun o : Option (Nat × va_E) => o.map (fun q => q.1)) ∘ some) = (wc.map (fun q => q.1)).map some := by
      rw [List.map_map]
      rfl
    rw [e2, hf, List.map_map]
    rfl
theorem inplq {A0 : Nat → Prop} {D : va_G} {cl : List vw_C} {ws ws' wc w1 wr : va_W} {H H1 : Heap} (hP : va_P D cl ws H) (hD : va_D A0 ws) (N : Nat) (isC isR : List Nat) (hC : isC.map (fun i => ws[i]?) = wc.map some) (hC' : isC.map (fun i => ws'[i]?) = w1.map some) (hR : isR.map (fun i => ws[i]?) = wr.map some) (hR' : isR.map (fun i => ws'[i]?) = wr.map some) (hf : wc.map (fun q => q.1) = w1.map (fun q => q.1)) (hN : ws'.length ≤ N) (hcov : (List.range N).all (fun k => isC.contains k || isR.contains k) = true)
    (hk : ∀ q : Nat, q < H.size → ¬ va_A wc H.size q → H1[q]? = H[q]?) (hP1 : va_P D cl w1 H1) : va_P D cl ws' H1 ∧ va_D A0 ws' := by
  have at' : ∀ {is : List Nat} {u w : va_W}, is.map (fun i => u[i]?) = w.map some → ∀ (j i : Nat), is[j]? = some i → ∃ q, w[j]? = some q ∧ u[i]? = some q := by
    intro is u w hs j i hj
    have h1 : (is.map (fun i => u[i]?))[j]? = some (u[i]?) := by rw [List.getElem?_map, hj]; rfl
    rw [hs, List.getElem?_map] at h1
    cases hw : w[j]? with
    | none => rw [hw] at h1; cases h1
    | some q => rw [hw] at h1; exact ⟨q, rfl, (Option.some.inj h1).symm⟩
  have cov : ∀ (k : Nat) (q : Nat × va_E), ws'[k]? = some q → (∃ (j : Nat) (q0 : Nat × va_E), wc[j]? = some q0 ∧ w1[j]? = some q ∧ ws[k]? = some q0 ∧ q0.1 = q.1 ∧ isC[j]? = some k) ∨ (ws[k]? = some q ∧ k ∉ isC) := by
    intro k q hq
    have hlt : k < ws'.length := (List.getElem?_eq_some_iff.mp hq).1
    have h1 := List.all_eq_true.mp hcov k (List.mem_range.mpr (by omega))
    by_cases hin : k ∈ isC
    · obtain ⟨j, hj⟩ := List.getElem?_of_mem hin
      obtain ⟨q1, a1, a2⟩ := at' hC' j k hj
      obtain ⟨q0, b1, b2⟩ := at' hC j k hj
      have e1 : q1 = q := Option.some.inj (a2.symm.trans hq)
      subst e1
      refine Or.inl ⟨j, q0, b1, a1, b2, ?_, hj⟩
      have h2 : (wc.map (fun q => q.1))[j]? = some q0.1 := by rw [List.getElem?_map, b1]; rfl
      rw [hf, List.getElem?_map, a1] at h2
      exact (Option.some.inj h2).symm
    · have hr : k ∈ isR := by
        simp only [Bool.or_eq_true, List.contains_iff_mem] at h1
        exact h1.resolve_left hin
      obtain ⟨j, hj⟩ := List.getElem?_of_mem hr
      obtain ⟨q1, a1, a2⟩ := at' hR' j k hj
      obtain ⟨q0, b1, b2⟩ := at' hR j k hj
      have e1 : q1 = q0 := Option.some.inj (a1.symm.trans b1)
      have e2 : q1 = q := Option.some.inj (a2.symm.trans hq)
      exact Or.inr ⟨by rw [b2, ← e1, e2], hin⟩
  refine ⟨fun k q hq => ?_, ⟨fun i j p q hp hq e => ?_, fun i p hp => ?_⟩⟩
  · rcases cov k q hq with ⟨j, q0, a1, a2, a3, a4, a5⟩ | ⟨a1, a2⟩
    · exact hP1 j q a2
    · have hl := (hP k q a1).lt
      refine (hP k q a1).kept (hk q.1 hl (fun h => ?_))
      rcases h with ⟨k2, e, h⟩ | h
      · have h1 : (isC.map (fun i => ws[i]?))[k2]? = some (some (q.1, e)) := by rw [hC, List.getElem?_map, h]; rfl
        rw [List.getElem?_map] at h1
        cases hi : isC[k2]? with
        | none => rw [hi] at h1; cases h1
        | some i =>
          rw [hi] at h1
          have h2 := Option.some.inj h1
          have h3 := hD.1 k i q (q.1, e) a1 h2 rfl
          exact a2 (by rw [h3]; exact List.mem_of_getElem? hi)
      · omega
  · have key : ∀ (k : Nat) (q : Nat × va_E), ws'[k]? = some q → ∃ q0, ws[k]? = some q0 ∧ q0.1 = q.1 := fun k q hq => by
      rcases cov k q hq with ⟨j, q0, a1, a2, a3, a4, a5⟩ | ⟨a1, a2⟩
      · exact ⟨q0, a3, a4⟩
      · exact ⟨q, a1, rfl⟩
    obtain ⟨p0, hp0, ep⟩ := key i p hp
    obtain ⟨q0, hq0, eq⟩ := key j q hq
    exact hD.1 i j p0 q0 hp0 hq0 (by rw [ep, eq, e])
  · rcases cov i p hp with ⟨j, q0, a1, a2, a3, a4, a5⟩ | ⟨a1, a2⟩
    · rw [← a4]; exact hD.2 i q0 a3
    · exact hD.2 i p a1
section RO
variable {p : Program} {l : Launch} {e : Env} {R : Room} {s : State} {m : MethodId} {args : Array Value} {below : List Frame} {meth : Method} {c : Code} {H : Heap} {locs : List Loc} {cells slots : Nat} {Q : State → Prop}
variable {cc : ByteArray} {pc : Nat} {ls : Array Slot} {st0 rest : List Value} {E : EE} {A F : Nat → Prop} {b nL n index fr lo : Nat} {ws ws' wr : va_W} {y : MethodName} {bytes : ByteArray} {maxL : Nat} {ret : Option FieldType} {wsY Ts : List Cond} {own C : String} {As : List Value} {Wc W1 : va_W} {r : Int32}
/-- what lies outside F stays -/
def Fr (F : Nat → Prop) (H H1 : Heap) : Prop := ∀ q : Nat, q < H.size → ¬ F q → H1[q]? = H[q]?
theorem out_of {isC : List Nat} (hD : va_D F ws) (hC : isC.map (fun i => ws[i]?) = Wc.map some) {H1 : Heap} (hk1 : ∀ q : Nat, q < H.size → ¬ va_A Wc H.size q → H1[q]? = H[q]?) : Fr F H H1 := fun q hq hn => hk1 q hq (fun hz => by
  rcases hz with ⟨k2, e2, hz⟩ | hz
  · have h1 : (isC.map (fun i => ws[i]?))[k2]? = some (some (q, e2)) := by rw [hC, List.getElem?_map, hz]; rfl
    rw [List.getElem?_map] at h1
    cases hi : isC[k2]? with
    | none => rw [hi] at h1; cases h1
    | some i =>
      rw [hi] at h1
      exact hn (hD.2 i (q, e2) (Option.some.inj h1))
  · omega)
/-- a call (V) that answers an int, its cells changed in their places, with what stays -/
theorem kO_p (S : CallFix p m c cc nL s args Ts own) (hM : Ci l y wsY fr lo E (.ref b :: As) Wc H.size r W1) (cw : CallW R s args own C index y bytes maxL ret wsY (rmO fr lo) 0 0 n) (hK : va_K E.1 vwCl (tyE E) s) (hN : nst s) (hP : va_P E.1 vwCl ws H) (hD : va_D F ws) (hFA : ∀ q, F q → A q) (hS : va_S A s.heap H locs) (hA : ∀ q, s.heap.size ≤ q → A q) (isC : List Nat) (hC : isC.map (fun i => ws[i]?) = Wc.map some) (hC2 : va_nd isC = true) (hf1 : Wc.map (fun q => q.1) = W1.map (fun q => q.1)) (hws : setL ws isC W1 = ws')
    (q0 ci : Nat) {fs : List Value} {T : u_T} {N : Nat} (hci : vwCl[ci]? = some (C, T, N)) (hre : ws[q0]? = some (b, .inr (ci, fs))) (hn : As.length = n) (hls : ls.size = nL) (hst : st0 = As.reverse ++ .ref b :: rest) (hrest : (rest.map fun v => v.category).sum ≤ 8) (hdg : decode cc pc = .ok (.invokevirtual index, 3)) (hf : cells ≤ R.cells ∧ slots ≤ R.slots)
    (kk : ∀ (H1 : Heap) (locs1 : List Loc), va_P E.1 vwCl ws' H1 → va_D F ws' → va_S A s.heap H1 locs1 → Fr F H H1 → W p l e R s m args below meth c H1 locs1 cells slots Q (F0 m (pc + 3) ls (.int r :: rest))) : W p l e R s m args below meth c H locs cells slots Q (F0 m pc ls st0) := by
  have hDA : va_D A ws := hD.weaken (fun _ _ _ h => hFA _ h)
  have hPc : va_P E.1 vwCl Wc H := hP.sub isC (fm_of hC)
  have hDc := hDA.sub isC hC2 hC
  have hFc := va_free hDA hS hA isC hC
  refine va_calli (mc := 0) (ms := 0) (va_runV (g := F0 m pc ls st0) S hM cw ⟨Pr_blind, va_recv (q := (C, T, N)) hK hP hci hre, fun U hU hW => ⟨rfl, by rw [hU], by rw [hU]; exact hPc, ⟨va_K.moved hW.alike hK, nst_warm hW hN⟩, hDc.weaken (fun _ _ _ _ => trivial)⟩⟩ rfl hn hls hst (lv_room hrest) hdg hf) hS (fun q _ h => hFc q h) hFc (fun r' u t H1 locs1 ht hvm hw hB hz1 hk1 hS1 => ?_)
  obtain ⟨hP1, hD1⟩ := hB
  rw [ht] at hP1
  subst hw
  obtain ⟨hP2, hD2⟩ := inpl hP hD isC hC hf1 hk1 hP1
  rw [hws] at hP2 hD2
  exact kk H1 locs1 hP2 hD2 hS1 (out_of hD hC hk1)
theorem kO_q (S : CallFix p m c cc nL s args Ts own) (hM : Ci l y wsY fr lo E (.ref b :: As) Wc H.size r W1) (cw : CallW R s args own C index y bytes maxL ret wsY (rmO fr lo) 0 0 n) (hK : va_K E.1 vwCl (tyE E) s) (hN : nst s) (hP : va_P E.1 vwCl ws H) (hD : va_D F ws) (hFA : ∀ q, F q → A q) (hS : va_S A s.heap H locs) (hA : ∀ q, s.heap.size ≤ q → A q) (isC isR : List Nat) (hC : isC.map (fun i => ws[i]?) = Wc.map some) (hC2 : va_nd isC = true) (hC' : isC.map (fun i => ws'[i]?) = W1.map some) (hR : isR.map (fun i => ws[i]?) = wr.map some) (hR' : isR.map (fun i => ws'[i]?) = wr.map some) (hf1 : Wc.map (fun q => q.1) = W1.map (fun q => q.1)) (hlen : ws'.length ≤ 49) (hcov : (List.range 49).all (fun k => isC.contains k || isR.contains k) = true)
    (q0 ci : Nat) {fs : List Value} {T : u_T} {N : Nat} (hci : vwCl[ci]? = some (C, T, N)) (hre : ws[q0]? = some (b, .inr (ci, fs))) (hn : As.length = n) (hls : ls.size = nL) (hst : st0 = As.reverse ++ .ref b :: rest) (hrest : (rest.map fun v => v.category).sum ≤ 8) (hdg : decode cc pc = .ok (.invokevirtual index, 3)) (hf : cells ≤ R.cells ∧ slots ≤ R.slots)
    (kk : ∀ (H1 : Heap) (locs1 : List Loc), va_P E.1 vwCl ws' H1 → va_D F ws' → va_S A s.heap H1 locs1 → Fr F H H1 → W p l e R s m args below meth c H1 locs1 cells slots Q (F0 m (pc + 3) ls (.int r :: rest))) : W p l e R s m args below meth c H locs cells slots Q (F0 m pc ls st0) := by
  have hDA : va_D A ws := hD.weaken (fun _ _ _ h => hFA _ h)
  have hPc : va_P E.1 vwCl Wc H := hP.sub isC (fm_of hC)
  have hDc := hDA.sub isC hC2 hC
  have hFc := va_free hDA hS hA isC hC
  refine va_calli (mc := 0) (ms := 0) (va_runV (g := F0 m pc ls st0) S hM cw ⟨Pr_blind, va_recv (q := (C, T, N)) hK hP hci hre, fun U hU hW => ⟨rfl, by rw [hU], by rw [hU]; exact hPc, ⟨va_K.moved hW.alike hK, nst_warm hW hN⟩, hDc.weaken (fun _ _ _ _ => trivial)⟩⟩ rfl hn hls hst (lv_room hrest) hdg hf) hS (fun q _ h => hFc q h) hFc (fun r' u t H1 locs1 ht hvm hw hB hz1 hk1 hS1 => ?_)
  obtain ⟨hP1, hD1⟩ := hB
  rw [ht] at hP1
  subst hw
  obtain ⟨hP2, hD2⟩ := inplq hP hD 49 isC isR hC hC' hR hR' hf1 hlen hcov hk1 hP1
  exact kk H1 locs1 hP2 hD2 hS1 (out_of hD hC hk1)
end RO
/-- a town's five cells: of the history's i-th -/
def gpT (E : EE) (hu : Nat → Nat) (hw : Nat → Nat → Nat) (hn hk : Nat → Nat) (ha : Nat → Nat → Nat → Int32) (i : Nat) : va_W := [(hu i, .inr (3, [.int (nI (hn i)), .int (nI (hk i)), .ref (hw i 1), .ref (hw i 2), .ref (hw i 3), .ref (hw i 4)])), (hw i 1, aI E 30 (ha i 1)), (hw i 2, aI E 30 (ha i 2)), (hw i 3, aI E 30 (ha i 3)), (hw i 4, aI E 30 (ha i 4))]
def HG (E : EE) (hu : Nat → Nat) (hw : Nat → Nat → Nat) (hn hk : Nat → Nat) (ha : Nat → Nat → Nat → Int32) : va_W := gpT E hu hw hn hk ha 0 ++ (gpT E hu hw hn hk ha 1 ++ (gpT E hu hw hn hk ha 2 ++ (gpT E hu hw hn hk ha 3 ++ (gpT E hu hw hn hk ha 4 ++ gpT E hu hw hn hk ha 5))))
def ot (i j : Nat) : Nat := if j < i then j else j + 1
def OT (E : EE) (hu : Nat → Nat) (hw : Nat → Nat → Nat) (hn hk : Nat → Nat) (ha : Nat → Nat → Nat → Int32) (i : Nat) : va_W := gpT E hu hw hn hk ha (ot i 0) ++ (gpT E hu hw hn hk ha (ot i 1) ++ (gpT E hu hw hn hk ha (ot i 2) ++ (gpT E hu hw hn hk ha (ot i 3) ++ gpT E hu hw hn hk ha (ot i 4))))
def LO (E : EE) (ad : Nat → Nat) (n k : Nat) (lo hi le en po dO dS lS di : Nat → Int32) (pc ds : Nat) (pr : Int32) (L : Nat) (pb pd : Int32) (cf f0 : Nat → Int32) (hc : Nat) (sf sl : Nat → Option Nat) (sv : Nat → Int32) : va_W :=
  [(ad 0, .inr (4, [.ref (ad 1), .ref (ad 6), .ref (ad 12), .ref (ad 15), .ref (ad 17), .ref (ad 18)])), (ad 1, .inr (3, [.int (nI n), .int (nI k), .ref (ad 2), .ref (ad 3), .ref (ad 4), .ref (ad 5)])), (ad 2, aI E 30 lo), (ad 3, aI E 30 hi), (ad 4, aI E 30 le), (ad 5, aI E 30 en), (ad 6, .inr (2, [.ref (ad 1), .ref (ad 7), .ref (ad 8), .ref (ad 9), .ref (ad 10), .ref (ad 11), .int (nI pc), .int (nI ds), .int pr])), (ad 7, aI E 16 po), (ad 8, aI E 16 dO), (ad 9, aI E 16 dS), (ad 10, aI E 30 lS), (ad 11, aI E 16 di), (ad 12, .inr (1, [.ref (ad 13), .int (nI L), .ref (ad 14), .int pb, .int pd])), (ad 13, aC E 80 cf), (ad 14, aI E 80 f0), (ad 15, .inr (0, [.ref (ad 16), .int (nI hc)])), (ad 16, aO E 6 sf), (ad 17, aO E 2 sl), (ad 18, aZ E 2 sv)]
set_option maxRecDepth 100000 in
theorem pullL {A : Nat → Prop} {E : EE} {H : Heap} {c0 c1 c2 c3 c4 c5 c6 c7 c8 c9 c10 c11 c12 c13 c14 c15 c16 c17 c18 : Nat × va_E} {hu : Nat → Nat} {hw : Nat → Nat → Nat} {hn hk : Nat → Nat} {ha : Nat → Nat → Nat → Int32} : ∀ {i : Nat}, i < 6 → va_P E.1 vwCl ([c0, c1, c2, c3, c4, c5, c6, c7, c8, c9, c10, c11, c12, c13, c14, c15, c16, c17, c18] ++ HG E hu hw hn hk ha) H → va_D A ([c0, c1, c2, c3, c4, c5, c6, c7, c8, c9, c10, c11, c12, c13, c14, c15, c16, c17, c18] ++ HG E hu hw hn hk ha) → va_P E.1 vwCl ([c0, c1, c2, c3, c4, c5, c6, c7, c8, c9, c10, c11, c12, c13, c14, c15, c16, c17, c18] ++ (gpT E hu hw hn hk ha i ++ OT E hu hw hn hk ha i)) H ∧ va_D A ([c0, c1, c2, c3, c4, c5, c6, c7, c8, c9, c10, c11, c12, c13, c14, c15, c16, c17, c18] ++ (gpT E hu hw hn hk ha i ++ OT E hu hw hn hk ha i))
  | 0, _, hP, hD => ⟨hP.sub [0, 1, 2, 3, 4, 5, 6, 7, 8, 9, 10, 11, 12, 13, 14, 15, 16, 17, 18, 19, 20, 21, 22, 23, 24, 25, 26, 27, 28, 29, 30, 31, 32, 33, 34, 35, 36, 37, 38, 39, 40, 41, 42, 43, 44, 45, 46, 47, 48] rfl, hD.sub [0, 1, 2, 3, 4, 5, 6, 7, 8, 9, 10, 11, 12, 13, 14, 15, 16, 17, 18, 19, 20, 21, 22, 23, 24, 25, 26, 27, 28, 29, 30, 31, 32, 33, 34, 35, 36, 37, 38, 39, 40, 41, 42, 43, 44, 45, 46, 47, 48] (by decide) rfl⟩
  | 1, _, hP, hD => ⟨hP.sub [0, 1, 2, 3, 4, 5, 6, 7, 8, 9, 10, 11, 12, 13, 14, 15, 16, 17, 18, 24, 25, 26, 27, 28, 19, 20, 21, 22, 23, 29, 30, 31, 32, 33, 34, 35, 36, 37, 38, 39, 40, 41, 42, 43, 44, 45, 46, 47, 48] rfl, hD.sub [0, 1, 2, 3, 4, 5, 6, 7, 8, 9, 10, 11, 12, 13, 14, 15, 16, 17, 18, 24, 25, 26, 27, 28, 19, 20, 21, 22, 23, 29, 30, 31, 32, 33, 34, 35, 36, 37, 38, 39, 40, 41, 42, 43, 44, 45, 46, 47, 48] (by decide) rfl⟩
  | 2, _, hP, hD => ⟨hP.sub [0, 1, 2, 3, 4, 5, 6, 7, 8, 9, 10, 11, 12, 13, 14, 15, 16, 17, 18, 29, 30, 31, 32, 33, 19, 20, 21, 22, 23, 24, 25, 26, 27, 28, 34, 35, 36, 37, 38, 39, 40, 41, 42, 43, 44, 45, 46, 47, 48] rfl, hD.sub [0, 1, 2, 3, 4, 5, 6, 7, 8, 9, 10, 11, 12, 13, 14, 15, 16, 17, 18, 29, 30, 31, 32, 33, 19, 20, 21, 22, 23, 24, 25, 26, 27, 28, 34, 35, 36, 37, 38, 39, 40, 41, 42, 43, 44, 45, 46, 47, 48] (by decide) rfl⟩
  | 3, _, hP, hD => ⟨hP.sub [0, 1, 2, 3, 4, 5, 6, 7, 8, 9, 10, 11, 12, 13, 14, 15, 16, 17, 18, 34, 35, 36, 37, 38, 19, 20, 21, 22, 23, 24, 25, 26, 27, 28, 29, 30, 31, 32, 33, 39, 40, 41, 42, 43, 44, 45, 46, 47, 48] rfl, hD.sub [0, 1, 2, 3, 4, 5, 6, 7, 8, 9, 10, 11, 12, 13, 14, 15, 16, 17, 18, 34, 35, 36, 37, 38, 19, 20, 21, 22, 23, 24, 25, 26, 27, 28, 29, 30, 31, 32, 33, 39, 40, 41, 42, 43, 44, 45, 46, 47, 48] (by decide) rfl⟩
  | 4, _, hP, hD => ⟨hP.sub [0, 1, 2, 3, 4, 5, 6, 7, 8, 9, 10, 11, 12, 13, 14, 15, 16, 17, 18, 39, 40, 41, 42, 43, 19, 20, 21, 22, 23, 24, 25, 26, 27, 28, 29, 30, 31, 32, 33, 34, 35, 36, 37, 38, 44, 45, 46, 47, 48] rfl, hD.sub [0, 1, 2, 3, 4, 5, 6, 7, 8, 9, 10, 11, 12, 13, 14, 15, 16, 17, 18, 39, 40, 41, 42, 43, 19, 20, 21, 22, 23, 24, 25, 26, 27, 28, 29, 30, 31, 32, 33, 34, 35, 36, 37, 38, 44, 45, 46, 47, 48] (by decide) rfl⟩
  | 5, _, hP, hD => ⟨hP.sub [0, 1, 2, 3, 4, 5, 6, 7, 8, 9, 10, 11, 12, 13, 14, 15, 16, 17, 18, 44, 45, 46, 47, 48, 19, 20, 21, 22, 23, 24, 25, 26, 27, 28, 29, 30, 31, 32, 33, 34, 35, 36, 37, 38, 39, 40, 41, 42, 43] rfl, hD.sub [0, 1, 2, 3, 4, 5, 6, 7, 8, 9, 10, 11, 12, 13, 14, 15, 16, 17, 18, 44, 45, 46, 47, 48, 19, 20, 21, 22, 23, 24, 25, 26, 27, 28, 29, 30, 31, 32, 33, 34, 35, 36, 37, 38, 39, 40, 41, 42, 43] (by decide) rfl⟩
  | i + 6, h, _, _ => absurd h (by omega)
set_option maxRecDepth 100000 in
theorem pushL {A : Nat → Prop} {E : EE} {H : Heap} {c0 c1 c2 c3 c4 c5 c6 c7 c8 c9 c10 c11 c12 c13 c14 c15 c16 c17 c18 : Nat × va_E} {hu : Nat → Nat} {hw : Nat → Nat → Nat} {hn hk : Nat → Nat} {ha : Nat → Nat → Nat → Int32} {n k : Nat} (g : Nat → Nat → Int32) : ∀ {i : Nat}, i < 6 → va_P E.1 vwCl ([c0, c1, c2, c3, c4, c5, c6, c7, c8, c9, c10, c11, c12, c13, c14, c15, c16, c17, c18] ++ ([(hu i, .inr (3, [.int (nI n), .int (nI k), .ref (hw i 1), .ref (hw i 2), .ref (hw i 3), .ref (hw i 4)])), (hw i 1, aI E 30 (g 1)), (hw i 2, aI E 30 (g 2)), (hw i 3, aI E 30 (g 3)), (hw i 4, aI E 30 (g 4))] ++ OT E hu hw hn hk ha i)) H → va_D A ([c0, c1, c2, c3, c4, c5, c6, c7, c8, c9, c10, c11, c12, c13, c14, c15, c16, c17, c18] ++ ([(hu i, .inr (3, [.int (nI n), .int (nI k), .ref (hw i 1), .ref (hw i 2), .ref (hw i 3), .ref (hw i 4)])), (hw i 1, aI E 30 (g 1)), (hw i 2, aI E 30 (g 2)), (hw i 3, aI E 30 (g 3)), (hw i 4, aI E 30 (g 4))] ++ OT E hu hw hn hk ha i)) → va_P E.1 vwCl ([c0, c1, c2, c3, c4, c5, c6, c7, c8, c9, c10, c11, c12, c13, c14, c15, c16, c17, c18] ++ HG E hu hw (upN hn i n) (upN hk i k) (upA ha i g)) H ∧ va_D A ([c0, c1, c2, c3, c4, c5, c6, c7, c8, c9, c10, c11, c12, c13, c14, c15, c16, c17, c18] ++ HG E hu hw (upN hn i n) (upN hk i k) (upA ha i g))
  | 0, _, hP, hD => ⟨hP.sub [0, 1, 2, 3, 4, 5, 6, 7, 8, 9, 10, 11, 12, 13, 14, 15, 16, 17, 18, 19, 20, 21, 22, 23, 24, 25, 26, 27, 28, 29, 30, 31, 32, 33, 34, 35, 36, 37, 38, 39, 40, 41, 42, 43, 44, 45, 46, 47, 48] rfl, hD.sub [0, 1, 2, 3, 4, 5, 6, 7, 8, 9, 10, 11, 12, 13, 14, 15, 16, 17, 18, 19, 20, 21, 22, 23, 24, 25, 26, 27, 28, 29, 30, 31, 32, 33, 34, 35, 36, 37, 38, 39, 40, 41, 42, 43, 44, 45, 46, 47, 48] (by decide) rfl⟩
  | 1, _, hP, hD => ⟨hP.sub [0, 1, 2, 3, 4, 5, 6, 7, 8, 9, 10, 11, 12, 13, 14, 15, 16, 17, 18, 24, 25, 26, 27, 28, 19, 20, 21, 22, 23, 29, 30, 31, 32, 33, 34, 35, 36, 37, 38, 39, 40, 41, 42, 43, 44, 45, 46, 47, 48] rfl, hD.sub [0, 1, 2, 3, 4, 5, 6, 7, 8, 9, 10, 11, 12, 13, 14, 15, 16, 17, 18, 24, 25, 26, 27, 28, 19, 20, 21, 22, 23, 29, 30, 31, 32, 33, 34, 35, 36, 37, 38, 39, 40, 41, 42, 43, 44, 45, 46, 47, 48] (by decide) rfl⟩
  | 2, _, hP, hD => ⟨hP.sub [0, 1, 2, 3, 4, 5, 6, 7, 8, 9, 10, 11, 12, 13, 14, 15, 16, 17, 18, 24, 25, 26, 27, 28, 29, 30, 31, 32, 33, 19, 20, 21, 22, 23, 34, 35, 36, 37, 38, 39, 40, 41, 42, 43, 44, 45, 46, 47, 48] rfl, hD.sub [0, 1, 2, 3, 4, 5, 6, 7, 8, 9, 10, 11, 12, 13, 14, 15, 16, 17, 18, 24, 25, 26, 27, 28, 29, 30, 31, 32, 33, 19, 20, 21, 22, 23, 34, 35, 36, 37, 38, 39, 40, 41, 42, 43, 44, 45, 46, 47, 48] (by decide) rfl⟩
  | 3, _, hP, hD => ⟨hP.sub [0, 1, 2, 3, 4, 5, 6, 7, 8, 9, 10, 11, 12, 13, 14, 15, 16, 17, 18, 24, 25, 26, 27, 28, 29, 30, 31, 32, 33, 34, 35, 36, 37, 38, 19, 20, 21, 22, 23, 39, 40, 41, 42, 43, 44, 45, 46, 47, 48] rfl, hD.sub [0, 1, 2, 3, 4, 5, 6, 7, 8, 9, 10, 11, 12, 13, 14, 15, 16, 17, 18, 24, 25, 26, 27, 28, 29, 30, 31, 32, 33, 34, 35, 36, 37, 38, 19, 20, 21, 22, 23, 39, 40, 41, 42, 43, 44, 45, 46, 47, 48] (by decide) rfl⟩
  | 4, _, hP, hD => ⟨hP.sub [0, 1, 2, 3, 4, 5, 6, 7, 8, 9, 10, 11, 12, 13, 14, 15, 16, 17, 18, 24, 25, 26, 27, 28, 29, 30, 31, 32, 33, 34, 35, 36, 37, 38, 39, 40, 41, 42, 43, 19, 20, 21, 22, 23, 44, 45, 46, 47, 48] rfl, hD.sub [0, 1, 2, 3, 4, 5, 6, 7, 8, 9, 10, 11, 12, 13, 14, 15, 16, 17, 18, 24, 25, 26, 27, 28, 29, 30, 31, 32, 33, 34, 35, 36, 37, 38, 39, 40, 41, 42, 43, 19, 20, 21, 22, 23, 44, 45, 46, 47, 48] (by decide) rfl⟩
  | 5, _, hP, hD => ⟨hP.sub [0, 1, 2, 3, 4, 5, 6, 7, 8, 9, 10, 11, 12, 13, 14, 15, 16, 17, 18, 24, 25, 26, 27, 28, 29, 30, 31, 32, 33, 34, 35, 36, 37, 38, 39, 40, 41, 42, 43, 44, 45, 46, 47, 48, 19, 20, 21, 22, 23] rfl, hD.sub [0, 1, 2, 3, 4, 5, 6, 7, 8, 9, 10, 11, 12, 13, 14, 15, 16, 17, 18, 24, 25, 26, 27, 28, 29, 30, 31, 32, 33, 34, 35, 36, 37, 38, 39, 40, 41, 42, 43, 44, 45, 46, 47, 48, 19, 20, 21, 22, 23] (by decide) rfl⟩
  | i + 6, h, _, _ => absurd h (by omega)
set_option maxRecDepth 100000 in
theorem pushS {A : Nat → Prop} {E : EE} {H : Heap} {c0 c1 c2 c3 c4 c5 c6 c7 c8 c9 c10 c11 c12 c13 c14 c15 c16 c17 c18 : Nat × va_E} {hu : Nat → Nat} {hw : Nat → Nat → Nat} {hn hk : Nat → Nat} {ha : Nat → Nat → Nat → Int32} : ∀ {i : Nat}, i < 6 → va_P E.1 vwCl ([c0, c1, c2, c3, c4, c5, c6, c7, c8, c9, c10, c11, c12, c13, c14, c15, c16, c17, c18] ++ (gpT E hu hw hn hk ha i ++ OT E hu hw hn hk ha i)) H → va_D A ([c0, c1, c2, c3, c4, c5, c6, c7, c8, c9, c10, c11, c12, c13, c14, c15, c16, c17, c18] ++ (gpT E hu hw hn hk ha i ++ OT E hu hw hn hk ha i)) → va_P E.1 vwCl ([c0, c1, c2, c3, c4, c5, c6, c7, c8, c9, c10, c11, c12, c13, c14, c15, c16, c17, c18] ++ HG E hu hw hn hk ha) H ∧ va_D A ([c0, c1, c2, c3, c4, c5, c6, c7, c8, c9, c10, c11, c12, c13, c14, c15, c16, c17, c18] ++ HG E hu hw hn hk ha)
  | 0, _, hP, hD => ⟨hP.sub [0, 1, 2, 3, 4, 5, 6, 7, 8, 9, 10, 11, 12, 13, 14, 15, 16, 17, 18, 19, 20, 21, 22, 23, 24, 25, 26, 27, 28, 29, 30, 31, 32, 33, 34, 35, 36, 37, 38, 39, 40, 41, 42, 43, 44, 45, 46, 47, 48] rfl, hD.sub [0, 1, 2, 3, 4, 5, 6, 7, 8, 9, 10, 11, 12, 13, 14, 15, 16, 17, 18, 19, 20, 21, 22, 23, 24, 25, 26, 27, 28, 29, 30, 31, 32, 33, 34, 35, 36, 37, 38, 39, 40, 41, 42, 43, 44, 45, 46, 47, 48] (by decide) rfl⟩
  | 1, _, hP, hD => ⟨hP.sub [0, 1, 2, 3, 4, 5, 6, 7, 8, 9, 10, 11, 12, 13, 14, 15, 16, 17, 18, 24, 25, 26, 27, 28, 19, 20, 21, 22, 23, 29, 30, 31, 32, 33, 34, 35, 36, 37, 38, 39, 40, 41, 42, 43, 44, 45, 46, 47, 48] rfl, hD.sub [0, 1, 2, 3, 4, 5, 6, 7, 8, 9, 10, 11, 12, 13, 14, 15, 16, 17, 18, 24, 25, 26, 27, 28, 19, 20, 21, 22, 23, 29, 30, 31, 32, 33, 34, 35, 36, 37, 38, 39, 40, 41, 42, 43, 44, 45, 46, 47, 48] (by decide) rfl⟩
  | 2, _, hP, hD => ⟨hP.sub [0, 1, 2, 3, 4, 5, 6, 7, 8, 9, 10, 11, 12, 13, 14, 15, 16, 17, 18, 24, 25, 26, 27, 28, 29, 30, 31, 32, 33, 19, 20, 21, 22, 23, 34, 35, 36, 37, 38, 39, 40, 41, 42, 43, 44, 45, 46, 47, 48] rfl, hD.sub [0, 1, 2, 3, 4, 5, 6, 7, 8, 9, 10, 11, 12, 13, 14, 15, 16, 17, 18, 24, 25, 26, 27, 28, 29, 30, 31, 32, 33, 19, 20, 21, 22, 23, 34, 35, 36, 37, 38, 39, 40, 41, 42, 43, 44, 45, 46, 47, 48] (by decide) rfl⟩
  | 3, _, hP, hD => ⟨hP.sub [0, 1, 2, 3, 4, 5, 6, 7, 8, 9, 10, 11, 12, 13, 14, 15, 16, 17, 18, 24, 25, 26, 27, 28, 29, 30, 31, 32, 33, 34, 35, 36, 37, 38, 19, 20, 21, 22, 23, 39, 40, 41, 42, 43, 44, 45, 46, 47, 48] rfl, hD.sub [0, 1, 2, 3, 4, 5, 6, 7, 8, 9, 10, 11, 12, 13, 14, 15, 16, 17, 18, 24, 25, 26, 27, 28, 29, 30, 31, 32, 33, 34, 35, 36, 37, 38, 19, 20, 21, 22, 23, 39, 40, 41, 42, 43, 44, 45, 46, 47, 48] (by decide) rfl⟩
  | 4, _, hP, hD => ⟨hP.sub [0, 1, 2, 3, 4, 5, 6, 7, 8, 9, 10, 11, 12, 13, 14, 15, 16, 17, 18, 24, 25, 26, 27, 28, 29, 30, 31, 32, 33, 34, 35, 36, 37, 38, 39, 40, 41, 42, 43, 19, 20, 21, 22, 23, 44, 45, 46, 47, 48] rfl, hD.sub [0, 1, 2, 3, 4, 5, 6, 7, 8, 9, 10, 11, 12, 13, 14, 15, 16, 17, 18, 24, 25, 26, 27, 28, 29, 30, 31, 32, 33, 34, 35, 36, 37, 38, 39, 40, 41, 42, 43, 19, 20, 21, 22, 23, 44, 45, 46, 47, 48] (by decide) rfl⟩
  | 5, _, hP, hD => ⟨hP.sub [0, 1, 2, 3, 4, 5, 6, 7, 8, 9, 10, 11, 12, 13, 14, 15, 16, 17, 18, 24, 25, 26, 27, 28, 29, 30, 31, 32, 33, 34, 35, 36, 37, 38, 39, 40, 41, 42, 43, 44, 45, 46, 47, 48, 19, 20, 21, 22, 23] rfl, hD.sub [0, 1, 2, 3, 4, 5, 6, 7, 8, 9, 10, 11, 12, 13, 14, 15, 16, 17, 18, 24, 25, 26, 27, 28, 29, 30, 31, 32, 33, 34, 35, 36, 37, 38, 39, 40, 41, 42, 43, 44, 45, 46, 47, 48, 19, 20, 21, 22, 23] (by decide) rfl⟩
  | i + 6, h, _, _ => absurd h (by omega)
set_option maxRecDepth 100000 in
theorem pushR {A : Nat → Prop} {E : EE} {H : Heap} {c0 c1 c2 c3 c4 c5 c6 c7 c8 c9 c10 c11 c12 c13 c14 c15 c16 c17 c18 : Nat × va_E} {hu : Nat → Nat} {hw : Nat → Nat → Nat} {hn hk : Nat → Nat} {ha : Nat → Nat → Nat → Int32} {n k : Nat} (g : Nat → Nat → Int32) (hP : va_P E.1 vwCl ([c0, c1, c2, c3, c4, c5, c6, c7, c8, c9, c10, c11, c12, c13, c14, c15, c16, c17, c18] ++ ([(hu 0, .inr (3, [.int (nI n), .int (nI k), .ref (hw 0 1), .ref (hw 0 2), .ref (hw 0 3), .ref (hw 0 4)])), (hw 0 1, aI E 30 (g 1)), (hw 0 2, aI E 30 (g 2)), (hw 0 3, aI E 30 (g 3)), (hw 0 4, aI E 30 (g 4))] ++ (gpT E hu hw hn hk ha 1 ++ (gpT E hu hw hn hk ha 2 ++ (gpT E hu hw hn hk ha 3 ++ (gpT E hu hw hn hk ha 4 ++ (gpT E hu hw hn hk ha 5))))))) H) (hD : va_D A ([c0, c1, c2, c3, c4, c5, c6, c7, c8, c9, c10, c11, c12, c13, c14, c15, c16, c17, c18] ++ ([(hu 0, .inr (3, [.int (nI n), .int (nI k), .ref (hw 0 1), .ref (hw 0 2), .ref (hw 0 3), .ref (hw 0 4)])), (hw 0 1, aI E 30 (g 1)), (hw 0 2, aI E 30 (g 2)), (hw 0 3, aI E 30 (g 3)), (hw 0 4, aI E 30 (g 4))] ++ (gpT E hu hw hn hk ha 1 ++ (gpT E hu hw hn hk ha 2 ++ (gpT E hu hw hn hk ha 3 ++ (gpT E hu hw hn hk ha 4 ++ (gpT E hu hw hn hk ha 5)))))))) : va_P E.1 vwCl ([c0, c1, c2, c3, c4, c5, c6, c7, c8, c9, c10, c11, c12, c13, c14, c15, c16, c17, c18] ++ HG E (fun i => hu (rt i)) (fun i => hw (rt i)) (rtN hn n) (rtN hk k) (rtA ha g)) H ∧ va_D A ([c0, c1, c2, c3, c4, c5, c6, c7, c8, c9, c10, c11, c12, c13, c14, c15, c16, c17, c18] ++ HG E (fun i => hu (rt i)) (fun i => hw (rt i)) (rtN hn n) (rtN hk k) (rtA ha g)) := ⟨hP.sub [0, 1, 2, 3, 4, 5, 6, 7, 8, 9, 10, 11, 12, 13, 14, 15, 16, 17, 18, 24, 25, 26, 27, 28, 29, 30, 31, 32, 33, 34, 35, 36, 37, 38, 39, 40, 41, 42, 43, 44, 45, 46, 47, 48, 19, 20, 21, 22, 23] rfl, hD.sub [0, 1, 2, 3, 4, 5, 6, 7, 8, 9, 10, 11, 12, 13, 14, 15, 16, 17, 18, 24, 25, 26, 27, 28, 29, 30, 31, 32, 33, 34, 35, 36, 37, 38, 39, 40, 41, 42, 43, 44, 45, 46, 47, 48, 19, 20, 21, 22, 23] (by decide) rfl⟩
theorem rot_sf {sf : Nat → Option Nat} {hu : Nat → Nat} : ∀ i, i < 6 → (va_up (va_up (va_up (va_up (va_up (va_up sf (1 - 1) (some (hu 1))) (2 - 1) (some (hu 2))) (3 - 1) (some (hu 3))) (4 - 1) (some (hu 4))) (5 - 1) (some (hu 5))) 5 (some (hu 0))) i = some ((fun i => hu (rt i)) i)
  | 0, _ => rfl
  | 1, _ => rfl
  | 2, _ => rfl
  | 3, _ => rfl
  | 4, _ => rfl
  | 5, _ => rfl
  | i + 6, h => absurd h (by omega)
/-- the towns kept, as ghosts -/
def upH (f : Nat → Nat → Int32) (i : Nat) (g : Nat → Int32) : Nat → Nat → Int32 := fun j => if j = i then g else f j
def rtH (f : Nat → Nat → Int32) (g : Nat → Int32) : Nat → Nat → Int32 := fun i => if i = 5 then g else f (i + 1)
def hcN (hc : Nat) : Nat := if hc < 6 then hc + 1 else 6
def kkN (kk : Nat → Nat) (hc k : Nat) : Nat → Nat := if hc < 6 then upN kk hc k else rtN kk k
def HAN (HA : Nat → Nat → Int32) (hc : Nat) (T : Nat → Int32) : Nat → Nat → Int32 := if hc < 6 then upH HA hc T else rtH HA T
def HsO (n hc : Nat) (hn hk : Nat → Nat) (ha : Nat → Nat → Nat → Int32) (kk : Nat → Nat) (HA : Nat → Nat → Int32) : Prop := ∀ i, 1 ≤ i → i < hc → (hn i = n ∧ hk i = kk i) ∧ Tw4 (kk i) n (ha i) (HA i)
/-- an object of the class: its town is T's, of n squares and k roads, with hc changes to take back -/
def OI (E : EE) (F : Nat → Prop) (ad : Nat → Nat) (n hc k : Nat) (T : Nat → Int32) (kk : Nat → Nat) (HA : Nat → Nat → Int32) (H : Heap) : Prop := ∃ (lo hi le en po dO dS lS di : Nat → Int32) (pc ds : Nat) (pr : Int32) (L : Nat) (pb pd : Int32) (cf f0 : Nat → Int32) (sf sl : Nat → Option Nat) (sv : Nat → Int32) (hu : Nat → Nat) (hw : Nat → Nat → Nat) (hn hk : Nat → Nat) (ha : Nat → Nat → Nat → Int32), TwR k n lo hi le en T ∧ SvF k n T po dO dS lS pc ds pr ∧ (hc ≤ 6 ∧ HsO n hc hn hk ha kk HA) ∧ (∀ i, i < 6 → sf i = some (hu i)) ∧ va_P E.1 vwCl (LO E ad n k lo hi le en po dO dS lS di pc ds pr L pb pd cf f0 hc sf sl sv ++ HG E hu hw hn hk ha) H ∧ va_D F (LO E ad n k lo hi le en po dO dS lS di pc ds pr L pb pd cf f0 hc sf sl sv ++ HG E hu hw hn hk ha)
theorem OI.tw {E : EE} {F : Nat → Prop} {ad : Nat → Nat} {n hc k : Nat} {T : Nat → Int32} {kk : Nat → Nat} {HA : Nat → Nat → Int32} {H : Heap} (h : OI E F ad n hc k T kk HA H) : hc ≤ 6 ∧ ∃ lo hi le en : Nat → Int32, TwR k n lo hi le en T := by
  obtain ⟨lo, hi, le, en, po, dO, dS, lS, di, pc, ds, pr, L, pb, pd, cf, f0, sf, sl, sv, hu, hw, hn, hk, ha, hT, hV, ⟨hc6, hH⟩, hsf, hP, hD⟩ := h
  exact ⟨hc6, lo, hi, le, en, hT⟩
/-- an object stays as it is where only others' cells change -/
theorem OI.kept {E : EE} {F F2 : Nat → Prop} {ad : Nat → Nat} {n hc k : Nat} {T : Nat → Int32} {kk : Nat → Nat} {HA : Nat → Nat → Int32} {H H1 : Heap} (h : OI E F ad n hc k T kk HA H) (hap : ∀ q, F q → ¬ F2 q) (hfr : Fr F2 H H1) : OI E F ad n hc k T kk HA H1 := by
  obtain ⟨lo, hi, le, en, po, dO, dS, lS, di, pc, ds, pr, L, pb, pd, cf, f0, sf, sl, sv, hu, hw, hn, hk, ha, hT, hV, hH, hsf, hP, hD⟩ := h
  exact ⟨lo, hi, le, en, po, dO, dS, lS, di, pc, ds, pr, L, pb, pd, cf, f0, sf, sl, sv, hu, hw, hn, hk, ha, hT, hV, hH, hsf, fun k q hq => (hP k q hq).kept (hfr q.1 (hP k q hq).lt (hap _ (hD.2 k q hq))), hD⟩
theorem hso_lt {n hc k : Nat} {hn hk : Nat → Nat} {ha : Nat → Nat → Nat → Int32} {kk : Nat → Nat} {HA : Nat → Nat → Int32} {lo hi le en T : Nat → Int32} (h6 : hc < 6) (h : HsO n hc hn hk ha kk HA) (t : TwR k n lo hi le en T) (g : Nat → Nat → Int32) : HsO n (hcN hc) (upN hn hc n) (upN hk hc k) (upA ha hc (cp4 lo hi le en g)) (kkN kk hc k) (HAN HA hc T) := fun i h1 hi => by
  rw [hcN, if_pos h6] at hi
  rw [kkN, if_pos h6, HAN, if_pos h6]
  by_cases e : i = hc
  · subst e
    rw [upN, if_pos rfl, upN, if_pos rfl, upA, if_pos rfl, upN, if_pos rfl, upH, if_pos rfl]
    exact ⟨⟨rfl, rfl⟩, t.cpy _ _ _ _⟩
  · rw [upN, if_neg e, upN, if_neg e, upA, if_neg e, upN, if_neg e, upH, if_neg e]
    exact h i h1 (by omega)
theorem hso_ge {n k : Nat} {hn hk : Nat → Nat} {ha : Nat → Nat → Nat → Int32} {kk : Nat → Nat} {HA : Nat → Nat → Int32} {lo hi le en T : Nat → Int32} (h : HsO n 6 hn hk ha kk HA) (t : TwR k n lo hi le en T) (g : Nat → Nat → Int32) : HsO n (hcN 6) (rtN hn n) (rtN hk k) (rtA ha (cp4 lo hi le en g)) (kkN kk 6 k) (HAN HA 6 T) := fun i h1 hi => by
  rw [hcN, if_neg (by omega)] at hi
  rw [kkN, if_neg (by omega), HAN, if_neg (by omega)]
  by_cases e : i = 5
  · subst e
    rw [rtN, if_pos rfl, rtN, if_pos rfl, rtA, if_pos rfl, rtN, if_pos rfl, rtH, if_pos rfl]
    exact ⟨⟨rfl, rfl⟩, t.cpy _ _ _ _⟩
  · rw [rtN, if_neg e, rtN, if_neg e, rtA, if_neg e, rtN, if_neg e, rtH, if_neg e]
    exact h (i + 1) (by omega) (by omega)
theorem hcN_6 (hc : Nat) : hcN hc ≤ 6 := by
  unfold hcN
  split <;> omega
