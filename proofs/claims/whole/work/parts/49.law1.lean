/-! THE LAW, base: a call that changes many cells in their places (by what lies at the places) -/
theorem inplq {A0 : Nat → Prop} {D : va_G} {cl : List vw_C} {ws ws' wc w1 wr : va_W} {H H1 : Heap} (hP : va_P D cl ws H) (hD : va_D A0 ws) (N : Nat) (isC isR : List Nat) (hC : isC.map (fun i => ws[i]?) = wc.map some) (hC' : isC.map (fun i => ws'[i]?) = w1.map some) (hR : isR.map (fun i => ws[i]?) = wr.map some) (hR' : isR.map (fun i => ws'[i]?) = wr.map some) (hf : wc.map (fun q => q.1) = w1.map (fun q => q.1)) (hN : ws'.length ≤ N) (hcov : (List.range N).all (fun k => isC.contains k || isR.contains k) = true)
    (hk : ∀ q : Nat, q < H.size → ¬ va_A wc H.size q → H1[q]? = H[q]?) (hP1 : va_P D cl w1 H1) : va_P D cl ws' H1 ∧ va_D A0 ws' := by
  have at' : ∀ {is : List Nat} {u w : va_W}, is.map (fun i => u[i]?) = w.map some → ∀ (j i : Nat), is[j]? = some i → ∃ q, w[j]? = some q ∧ u[i]? = some q := by
    intro is u w hs j i hj
    have h1 : (is.map (fun i => u[i]?))[j]? = some (u[i]?) := by rw [List.getElem?_map, hj]; rfl
    rw [hs, List.getElem?_map] at h1
    cases hw : w[j]? with
    | none => rw [hw] at h1; cases h1
    | some q => rw [hw] at h1; exact ⟨q, rfl, (Option.some.inj h1).symm⟩
  have cov : ∀ (k : Nat) (q : Nat × va_E), ws'[k]? = some q → (∃ (j : Nat) (q0 : Nat × va_E), wc[j]? = some q0 ∧ w1[j]? = some q ∧ ws[k]? = some q0 ∧ q0.1 = q.1 ∧ isC[j]? = some k) ∨ (ws[k]? = some q ∧ k ∉ isC) := by
    intro k q hq
    have hlt : k < ws'.length := (List.getElem?_eq_some_iff.mp hq).1
    have h1 := List.all_eq_true.mp hcov k (List.mem_range.mpr (by omega))
    by_cases hin : k ∈ isC
    · obtain ⟨j, hj⟩ := List.getElem?_of_mem hin
      obtain ⟨q1, a1, a2⟩ := at' hC' j k hj
      obtain ⟨q0, b1, b2⟩ := at' hC j k hj
      have e1 : q1 = q := Option.some.inj (a2.symm.trans hq)
      subst e1
      refine Or.inl ⟨j, q0, b1, a1, b2, ?_, hj⟩
      have h2 : (wc.map (fun q => q.1))[j]? = some q0.1 := by rw [List.getElem?_map, b1]; rfl
      rw [hf, List.getElem?_map, a1] at h2
      exact (Option.some.inj h2).symm
    · have hr : k ∈ isR := by
        simp only [Bool.or_eq_true, List.contains_iff_mem] at h1
        exact h1.resolve_left hin
      obtain ⟨j, hj⟩ := List.getElem?_of_mem hr
      obtain ⟨q1, a1, a2⟩ := at' hR' j k hj
      obtain ⟨q0, b1, b2⟩ := at' hR j k hj
      have e1 : q1 = q0 := Option.some.inj (a1.symm.trans b1)
      have e2 : q1 = q := Option.some.inj (a2.symm.trans hq)
      exact Or.inr ⟨by rw [b2, ← e1, e2], hin⟩
  refine ⟨fun k q hq => ?_, ⟨fun i j p q hp hq e => ?_, fun i p hp => ?_⟩⟩
  · rcases cov k q hq with ⟨j, q0, a1, a2, a3, a4, a5⟩ | ⟨a1, a2⟩
    · exact hP1 j q a2
    · have hl := (hP k q a1).lt
      refine (hP k q a1).kept (hk q.1 hl (fun h => ?_))
      rcases h with ⟨k2, e, h⟩ | h
      · have h1 : (isC.map (fun i => ws[i]?))[k2]? = some (some (q.1, e)) := by rw [hC, List.getElem?_map, h]; rfl
        rw [List.getElem?_map] at h1
        cases hi : isC[k2]? with
        | none => rw [hi] at h1; cases h1
        | some i =>
          rw [hi] at h1
          have h2 := Option.some.inj h1
          have h3 := hD.1 k i q (q.1, e) a1 h2 rfl
          exact a2 (by rw [h3]; exact List.mem_of_getElem? hi)
      · omega
  · have key : ∀ (k : Nat) (q : Nat × va_E), ws'[k]? = some q → ∃ q0, ws[k]? = some q0 ∧ q0.1 = q.1 := fun k q hq => by
      rcases cov k q hq with ⟨j, q0, a1, a2, a3, a4, a5⟩ | ⟨a1, a2⟩
      · exact ⟨q0, a3, a4⟩
      · exact ⟨q, a1, rfl⟩
    obtain ⟨p0, hp0, ep⟩ := key i p hp
    obtain ⟨q0, hq0, eq⟩ := key j q hq
    exact hD.1 i j p0 q0 hp0 hq0 (by rw [ep, eq, e])
  · rcases cov i p hp with ⟨j, q0, a1, a2, a3, a4, a5⟩ | ⟨a1, a2⟩
    · rw [← a4]; exact hD.2 i q0 a3
    · exact hD.2 i p a1
section RQ
variable {p : Program} {l : Launch} {e : Env} {R : Room} {s : State} {m : MethodId} {args : Array Value} {below : List Frame} {meth : Method} {c : Code} {H : Heap} {locs : List Loc} {cells slots : Nat} {Q : State → Prop}
variable {cc : ByteArray} {pc : Nat} {ls : Array Slot} {st0 rest : List Value} {E : EE} {A : Nat → Prop} {b nL n index fr lo : Nat} {ws ws' wr : va_W} {y : MethodName} {bytes : ByteArray} {maxL : Nat} {ret : Option FieldType} {wsY Ts : List Cond} {own C : String} {As : List Value} {Wc W1 : va_W} {r : Int32}
theorem kV_q (S : CallFix p m c cc nL s args Ts own) (hM : Ci l y wsY fr lo E (.ref b :: As) Wc H.size r W1) (cw : CallW R s args own C index y bytes maxL ret wsY (rmO fr lo) 0 0 n) (hK : va_K E.1 vwCl (tyE E) s) (hN : nst s) (hP : va_P E.1 vwCl ws H) (hD : va_D A ws) (hS : va_S A s.heap H locs) (hA : ∀ q, s.heap.size ≤ q → A q) (isC isR : List Nat) (hC : isC.map (fun i => ws[i]?) = Wc.map some) (hC2 : va_nd isC = true) (hC' : isC.map (fun i => ws'[i]?) = W1.map some) (hR : isR.map (fun i => ws[i]?) = wr.map some) (hR' : isR.map (fun i => ws'[i]?) = wr.map some) (hf1 : Wc.map (fun q => q.1) = W1.map (fun q => q.1)) (hlen : ws'.length ≤ 68) (hcov : (List.range 68).all (fun k => isC.contains k || isR.contains k) = true)
    (q0 ci : Nat) {fs : List Value} {T : u_T} {N : Nat} (hci : vwCl[ci]? = some (C, T, N)) (hre : ws[q0]? = some (b, .inr (ci, fs))) (hn : As.length = n) (hls : ls.size = nL) (hst : st0 = As.reverse ++ .ref b :: rest) (hrest : (rest.map fun v => v.category).sum ≤ 8) (hdg : decode cc pc = .ok (.invokevirtual index, 3)) (hf : cells ≤ R.cells ∧ slots ≤ R.slots)
    (kk : ∀ (H1 : Heap) (locs1 : List Loc), va_P E.1 vwCl ws' H1 → va_D A ws' → va_S A s.heap H1 locs1 → W p l e R s m args below meth c H1 locs1 cells slots Q (F0 m (pc + 3) ls (.int r :: rest))) : W p l e R s m args below meth c H locs cells slots Q (F0 m pc ls st0) := by
  have hPc : va_P E.1 vwCl Wc H := hP.sub isC (fm_of hC)
  have hDc := hD.sub isC hC2 hC
  have hFc := va_free hD hS hA isC hC
  refine va_calli (mc := 0) (ms := 0) (va_runV (g := F0 m pc ls st0) S hM cw ⟨Pr_blind, va_recv (q := (C, T, N)) hK hP hci hre, fun U hU hW => ⟨rfl, by rw [hU], by rw [hU]; exact hPc, ⟨va_K.moved hW.alike hK, nst_warm hW hN⟩, hDc.weaken (fun _ _ _ _ => trivial)⟩⟩ rfl hn hls hst (lv_room hrest) hdg hf) hS (fun q _ h => hFc q h) hFc (fun r' u t H1 locs1 ht hvm hw hB hz1 hk1 hS1 => ?_)
  obtain ⟨hP1, hD1⟩ := hB
  rw [ht] at hP1
  subst hw
  obtain ⟨hP2, hD2⟩ := inplq hP hD 68 isC isR hC hC' hR hR' hf1 hlen hcov hk1 hP1
  exact kk H1 locs1 hP2 hD2 hS1
end RQ
