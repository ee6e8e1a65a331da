/-! THE LAW, base: a call that changes its cells in place; the law's world, and what ties both sides -/
def setL (ws : va_W) : List Nat → va_W → va_W
  | i :: is, w :: W => setL (ws.set i w) is W
  | _, _ => ws
theorem setL_get : ∀ (is : List Nat) (W ws : va_W) (k : Nat) (q : Nat × va_E), is.length = W.length → (setL ws is W)[k]? = some q → q ∈ W ∨ (ws[k]? = some q ∧ k ∉ is)
  | [], _, _, _, _, _, h => Or.inr ⟨by simpa [setL] using h, List.not_mem_nil⟩
  | i :: is, [], _, _, _, hlen, _ => absurd hlen (by simp)
  | i :: is, w :: W, ws, k, q, hlen, h => by
    have h' : (setL (ws.set i w) is W)[k]? = some q := h
    rcases setL_get is W (ws.set i w) k q (by simpa using hlen) h' with z | ⟨z1, z2⟩
    · exact Or.inl (List.mem_cons_of_mem _ z)
    · rw [List.getElem?_set] at z1
      by_cases e : i = k
      · rw [if_pos e] at z1
        split at z1
        · exact Or.inl (by rw [← Option.some.inj z1]; exact List.mem_cons_self)
        · cases z1
      · rw [if_neg e] at z1
        refine Or.inr ⟨z1, fun m => ?_⟩
        rcases List.mem_cons.mp m with e2 | m2
        · exact e e2.symm
        · exact z2 m2
theorem set_fst {ws : va_W} {i : Nat} {w : Nat × va_E} (h : (ws.map (fun q => q.1))[i]? = some w.1) : (ws.set i w).map (fun q => q.1) = ws.map (fun q => q.1) := by
  rw [List.map_set]
  apply List.ext_getElem?
  intro j
  rw [List.getElem?_set]
  by_cases e : i = j
  · subst e
    rw [if_pos rfl]
    have hlt := (List.getElem?_eq_some_iff.mp h).1
    rw [if_pos hlt, h]
  · rw [if_neg e]
theorem setL_fst : ∀ (is : List Nat) (W ws : va_W), is.map (fun i => (ws.map (fun q => q.1))[i]?) = W.map (fun q => some q.1) → (setL ws is W).map (fun q => q.1) = ws.map (fun q => q.1)
  | [], _, _, _ => by simp [setL]
  | i :: is, [], _, _ => by simp [setL]
  | i :: is, w :: W, ws, h => by
    rw [List.map_cons, List.map_cons] at h
    injection h with h1 h2
    have e := set_fst h1
    show (setL (ws.set i w) is W).map (fun q => q.1) = _
    rw [setL_fst is W (ws.set i w) (by rw [e]; exact h2), e]
theorem va_D_fst {A : Nat → Prop} {ws ws' : va_W} (h : ws'.map (fun q => q.1) = ws.map (fun q => q.1)) (hD : va_D A ws) : va_D A ws' := by
  have key : ∀ (i : Nat) (p : Nat × va_E), ws'[i]? = some p → ∃ p0, ws[i]? = some p0 ∧ p0.1 = p.1 := fun i p hp => by
    have h1 : (ws'.map (fun q => q.1))[i]? = some p.1 := by rw [List.getElem?_map, hp]; rfl
    rw [h, List.getElem?_map] at h1
    cases h2 : ws[i]? with
    | none => rw [h2] at h1; cases h1
    | some p0 => rw [h2] at h1; exact ⟨p0, rfl, Option.some.inj h1⟩
  refine ⟨fun i j p q hp hq e => ?_, fun i p hp => ?_⟩
  · obtain ⟨p0, hp0, ep⟩ := key i p hp
    obtain ⟨q0, hq0, eq⟩ := key j q hq
    exact hD.1 i j p0 q0 hp0 hq0 (by rw [ep, eq, e])
  · obtain ⟨p0, hp0, ep⟩ := key i p hp
    rw [← ep]
    exact hD.2 i p0 hp0
theorem inpl {A0 : Nat → Prop} {D : va_G} {cl : List vw_C} {ws wc w1 : va_W} {H H1 : Heap} (hP : va_P D cl ws H) (hD : va_D A0 ws) (isC : List Nat) (hC : isC.map (fun i => ws[i]?) = wc.map some) (hf : wc.map (fun q => q.1) = w1.map (fun q => q.1))
    (hk : ∀ q : Nat, q < H.size → ¬ va_A wc H.size q → H1[q]? = H[q]?) (hP1 : va_P D cl w1 H1) : va_P D cl (setL ws isC w1) H1 ∧ va_D A0 (setL ws isC w1) := by
  have hlen : isC.length = w1.length := by
    have h1 := congrArg List.length hC
    have h2 := congrArg List.length hf
    simp only [List.length_map] at h1 h2
    omega
  constructor
  · intro k q hq
    rcases setL_get isC w1 ws k q hlen hq with z | ⟨z1, z2⟩
    · obtain ⟨j, hj⟩ := List.getElem?_of_mem z
      exact hP1 j q hj
    · have hl := (hP k q z1).lt
      refine (hP k q z1).kept (hk q.1 hl (fun h => ?_))
      rcases h with ⟨k2, e, h⟩ | h
      · have h1 : (isC.map (fun i => ws[i]?))[k2]? = some (some (q.1, e)) := by rw [hC, List.getElem?_map, h]; rfl
        rw [List.getElem?_map] at h1
        cases hi : isC[k2]? with
        | none => rw [hi] at h1; cases h1
        | some i =>
          rw [hi] at h1
          have h2 := Option.some.inj h1
          have h3 := hD.1 k i q (q.1, e) z1 h2 rfl
          exact z2 (by rw [h3]; exact List.mem_of_getElem? hi)
      · omega
  · refine va_D_fst (setL_fst isC w1 ws ?_) hD
    have e1 : isC.map (fun i => (ws.map (fun q => q.1))[i]?) = (isC.map (fun i => ws[i]?)).map (fun o => o.map (fun q => q.1)) := by
      rw [List.map_map]
      refine List.map_congr_left (fun i _ => ?_)
      rw [List.getElem?_map]
      rfl
    rw [e1, hC, List.map_map]
    have e2 : wc.map ((fun o : Option (Nat × va_E) => o.map (fun q => q.1)) ∘ some) = (wc.map (fun q => q.1)).map some := by
      rw [List.map_map]
      rfl
    rw [e2, hf, List.map_map]
    rfl
section RP
variable {p : Program} {l : Launch} {e : Env} {R : Room} {s : State} {m : MethodId} {args : Array Value} {below : List Frame} {meth : Method} {c : Code} {H : Heap} {locs : List Loc} {cells slots : Nat} {Q : State → Prop}
variable {cc : ByteArray} {pc : Nat} {ls : Array Slot} {st0 rest : List Value} {E : EE} {A : Nat → Prop} {b nL n index fr lo : Nat} {ws ws' : va_W} {y : MethodName} {bytes : ByteArray} {maxL : Nat} {ret : Option FieldType} {wsY Ts : List Cond} {own C : String} {As : List Value} {Wc W1 : va_W} {r : Int32}
/-- a call (V) that answers an int, its cells changed in their places -/
theorem kV_p (S : CallFix p m c cc nL s args Ts own) (hM : Ci l y wsY fr lo E (.ref b :: As) Wc H.size r W1) (cw : CallW R s args own C index y bytes maxL ret wsY (rmO fr lo) 0 0 n) (hK : va_K E.1 vwCl (tyE E) s) (hN : nst s) (hP : va_P E.1 vwCl ws H) (hD : va_D A ws) (hS : va_S A s.heap H locs) (hA : ∀ q, s.heap.size ≤ q → A q) (isC : List Nat) (hC : isC.map (fun i => ws[i]?) = Wc.map some) (hC2 : va_nd isC = true) (hf1 : Wc.map (fun q => q.1) = W1.map (fun q => q.1)) (hws : setL ws isC W1 = ws')
    (q0 ci : Nat) {fs : List Value} {T : u_T} {N : Nat} (hci : vwCl[ci]? = some (C, T, N)) (hre : ws[q0]? = some (b, .inr (ci, fs))) (hn : As.length = n) (hls : ls.size = nL) (hst : st0 = As.reverse ++ .ref b :: rest) (hrest : (rest.map fun v => v.category).sum ≤ 8) (hdg : decode cc pc = .ok (.invokevirtual index, 3)) (hf : cells ≤ R.cells ∧ slots ≤ R.slots)
    (kk : ∀ (H1 : Heap) (locs1 : List Loc), va_P E.1 vwCl ws' H1 → va_D A ws' → va_S A s.heap H1 locs1 → W p l e R s m args below meth c H1 locs1 cells slots Q (F0 m (pc + 3) ls (.int r :: rest))) : W p l e R s m args below meth c H locs cells slots Q (F0 m pc ls st0) := by
  have hPc : va_P E.1 vwCl Wc H := hP.sub isC (fm_of hC)
  have hDc := hD.sub isC hC2 hC
  have hFc := va_free hD hS hA isC hC
  refine va_calli (mc := 0) (ms := 0) (va_runV (g := F0 m pc ls st0) S hM cw ⟨Pr_blind, va_recv (q := (C, T, N)) hK hP hci hre, fun U hU hW => ⟨rfl, by rw [hU], by rw [hU]; exact hPc, ⟨va_K.moved hW.alike hK, nst_warm hW hN⟩, hDc.weaken (fun _ _ _ _ => trivial)⟩⟩ rfl hn hls hst (lv_room hrest) hdg hf) hS (fun q _ h => hFc q h) hFc (fun r' u t H1 locs1 ht hvm hw hB hz1 hk1 hS1 => ?_)
  obtain ⟨hP1, hD1⟩ := hB
  rw [ht] at hP1
  subst hw
  obtain ⟨hP2, hD2⟩ := inpl hP hD isC hC hf1 hk1 hP1
  rw [hws] at hP2 hD2
  exact kk H1 locs1 hP2 hD2 hS1
/-- an int of the script -/
theorem lw_arg (hx : p.tables.exec = Jvm.exec) (hb : c.code = cc) {sc L i k : Nat} {kI : Int} {xs : Nat → Int32} {v : Int32} (hX : va_X sc L xs s s.heap) (hbl : sc < s.heap.size) (hbA : ¬ A sc) (hS : va_S A s.heap H locs) (h0 : ls[0]? = some (.val (.ref sc))) (h3 : ls[3]? = some (.val (.int (nI i)))) (hik : i + k < L) (hL : L < 2 ^ 31) (hkI : Int32.ofInt kI = nI k)
    (d0 : decode cc pc = .ok (.aload_n 0, 1)) (d1 : decode cc (pc + 1) = .ok (.iload_n 3, 1)) (d2 : decode cc (pc + 1 + 1) = .ok (.iconst kI, 1)) (d3 : decode cc (pc + 1 + 1 + 1) = .ok (.iadd, 1)) (d4 : decode cc (pc + 1 + 1 + 1 + 1) = .ok (.iaload, 1)) (hv : xs (i + k) = v)
    (kk : W p l e R s m args below meth c H locs cells slots Q (F0 m (pc + 1 + 1 + 1 + 1 + 1) ls (.int v :: rest))) : W p l e R s m args below meth c H locs cells slots Q (F0 m pc ls rest) := by
  refine lv_aload_n hx hb d0 rfl h0 ?_
  refine lv_iload_n hx hb d1 rfl h3 ?_
  refine lv_iconst (v := nI k) hx hb d2 hkI ?_
  refine rk_iaddN hx hb d3 ?_
  refine va_sld hx hb hX hbl hbA hS (vp_in_nI hik hL) d4 ?_
  rw [nI_clamp (by omega), hv]
  exact kk
end RP
/-- a town's five cells: of the history's i-th -/
def gpT (E : EE) (hu : Nat → Nat) (hw : Nat → Nat → Nat) (hn hk : Nat → Nat) (ha : Nat → Nat → Nat → Int32) (i : Nat) : va_W := [(hu i, .inr (3, [.int (nI (hn i)), .int (nI (hk i)), .ref (hw i 1), .ref (hw i 2), .ref (hw i 3), .ref (hw i 4)])), (hw i 1, aI E 30 (ha i 1)), (hw i 2, aI E 30 (ha i 2)), (hw i 3, aI E 30 (ha i 3)), (hw i 4, aI E 30 (ha i 4))]
def HG (E : EE) (hu : Nat → Nat) (hw : Nat → Nat → Nat) (hn hk : Nat → Nat) (ha : Nat → Nat → Nat → Int32) : va_W := gpT E hu hw hn hk ha 0 ++ (gpT E hu hw hn hk ha 1 ++ (gpT E hu hw hn hk ha 2 ++ (gpT E hu hw hn hk ha 3 ++ (gpT E hu hw hn hk ha 4 ++ gpT E hu hw hn hk ha 5))))
def ot (i j : Nat) : Nat := if j < i then j else j + 1
def OT (E : EE) (hu : Nat → Nat) (hw : Nat → Nat → Nat) (hn hk : Nat → Nat) (ha : Nat → Nat → Nat → Int32) (i : Nat) : va_W := gpT E hu hw hn hk ha (ot i 0) ++ (gpT E hu hw hn hk ha (ot i 1) ++ (gpT E hu hw hn hk ha (ot i 2) ++ (gpT E hu hw hn hk ha (ot i 3) ++ gpT E hu hw hn hk ha (ot i 4))))
def LC0 (E : EE) (ad : Nat → Nat) (n k : Nat) (lo hi le en po dO dS lS di : Nat → Int32) (pc ds : Nat) (pr : Int32) (L : Nat) (pb pd : Int32) (cf f0 : Nat → Int32) (hc : Nat) (sf sl : Nat → Option Nat) (sv : Nat → Int32) (zn zk : Nat → Nat) (za : Nat → Nat → Nat → Int32) (Al K Hc Sl mv Fa P rf : Nat → Int32) (hy Lm : Nat) (sp0 nu0 rm0 : Int32) : va_W :=
  [(ad 0, .inr (4, [.ref (ad 1), .ref (ad 6), .ref (ad 12), .ref (ad 15), .ref (ad 17), .ref (ad 18)])), (ad 1, .inr (3, [.int (nI n), .int (nI k), .ref (ad 2), .ref (ad 3), .ref (ad 4), .ref (ad 5)])), (ad 2, aI E 30 lo), (ad 3, aI E 30 hi), (ad 4, aI E 30 le), (ad 5, aI E 30 en), (ad 6, .inr (2, [.ref (ad 1), .ref (ad 7), .ref (ad 8), .ref (ad 9), .ref (ad 10), .ref (ad 11), .int (nI pc), .int (nI ds), .int pr])), (ad 7, aI E 16 po), (ad 8, aI E 16 dO), (ad 9, aI E 16 dS), (ad 10, aI E 30 lS), (ad 11, aI E 16 di), (ad 12, .inr (1, [.ref (ad 13), .int (nI L), .ref (ad 14), .int pb, .int pd])), (ad 13, aC E 80 cf), (ad 14, aI E 80 f0), (ad 15, .inr (0, [.ref (ad 16), .int (nI hc)])), (ad 16, aO E 6 sf), (ad 17, aO E 2 sl), (ad 18, aZ E 2 sv),
   (ad 19, .inr (3, [.int (nI (zn 0)), .int (nI (zk 0)), .ref (ad 20), .ref (ad 21), .ref (ad 22), .ref (ad 23)])), (ad 20, aI E 30 (za 0 1)), (ad 21, aI E 30 (za 0 2)), (ad 22, aI E 30 (za 0 3)), (ad 23, aI E 30 (za 0 4)), (ad 24, .inr (3, [.int (nI (zn 1)), .int (nI (zk 1)), .ref (ad 25), .ref (ad 26), .ref (ad 27), .ref (ad 28)])), (ad 25, aI E 30 (za 1 1)), (ad 26, aI E 30 (za 1 2)), (ad 27, aI E 30 (za 1 3)), (ad 28, aI E 30 (za 1 4)),
   (ad 29, .inr (5, [.ref (ad 30), .ref (ad 31), .ref (ad 32), .int (nI hy), .ref (ad 33), .ref (ad 34), .ref (ad 35), .ref (ad 36), .int (nI Lm), .int sp0, .int nu0, .ref (ad 37), .int rm0])), (ad 30, aI E 92 Al), (ad 31, aI E 92 K), (ad 32, aI E 552 Hc), (ad 33, aI E 184 Sl), (ad 34, aI E 2 mv), (ad 35, aI E 16 Fa), (ad 36, aI E 80 P), (ad 37, aI E 60 rf)]
/-- what ties both sides -/
def LRel (ad : Nat → Nat) (n k : Nat) (lo hi le en po dO dS lS : Nat → Int32) (pc ds : Nat) (pr : Int32) (L : Nat) (cf : Nat → Int32) (hc : Nat) (sf sl : Nat → Option Nat) (sv : Nat → Int32) (zn zk : Nat → Nat) (za : Nat → Nat → Nat → Int32) (Al Hc Sl mv P : Nat → Int32) (hu hn hk : Nat → Nat) (ha : Nat → Nat → Nat → Int32) : Prop :=
  TwR k n lo hi le en Al ∧ SvF k n Al po dO dS lS pc ds pr ∧ (L ≤ 80 ∧ ∀ j, j < L → cf j = P j) ∧ (hc ≤ 6 ∧ HsR hc hn hk ha Hc) ∧ (∀ i, i < 6 → sf i = some (hu i)) ∧ (sl 0 = some (ad 19) ∧ sl 1 = some (ad 24)) ∧ SlR zn zk za sv mv Sl
set_option maxRecDepth 100000 in
theorem pullL {A : Nat → Prop} {E : EE} {H : Heap} {c0 c1 c2 c3 c4 c5 c6 c7 c8 c9 c10 c11 c12 c13 c14 c15 c16 c17 c18 c19 c20 c21 c22 c23 c24 c25 c26 c27 c28 c29 c30 c31 c32 c33 c34 c35 c36 c37 : Nat × va_E} {hu : Nat → Nat} {hw : Nat → Nat → Nat} {hn hk : Nat → Nat} {ha : Nat → Nat → Nat → Int32} : ∀ {i : Nat}, i < 6 → va_P E.1 vwCl ([c0, c1, c2, c3, c4, c5, c6, c7, c8, c9, c10, c11, c12, c13, c14, c15, c16, c17, c18, c19, c20, c21, c22, c23, c24, c25, c26, c27, c28, c29, c30, c31, c32, c33, c34, c35, c36, c37] ++ HG E hu hw hn hk ha) H → va_D A ([c0, c1, c2, c3, c4, c5, c6, c7, c8, c9, c10, c11, c12, c13, c14, c15, c16, c17, c18, c19, c20, c21, c22, c23, c24, c25, c26, c27, c28, c29, c30, c31, c32, c33, c34, c35, c36, c37] ++ HG E hu hw hn hk ha) → va_P E.1 vwCl ([c0, c1, c2, c3, c4, c5, c6, c7, c8, c9, c10, c11, c12, c13, c14, c15, c16, c17, c18, c19, c20, c21, c22, c23, c24, c25, c26, c27, c28, c29, c30, c31, c32, c33, c34, c35, c36, c37] ++ (gpT E hu hw hn hk ha i ++ OT E hu hw hn hk ha i)) H ∧ va_D A ([c0, c1, c2, c3, c4, c5, c6, c7, c8, c9, c10, c11, c12, c13, c14, c15, c16, c17, c18, c19, c20, c21, c22, c23, c24, c25, c26, c27, c28, c29, c30, c31, c32, c33, c34, c35, c36, c37] ++ (gpT E hu hw hn hk ha i ++ OT E hu hw hn hk ha i))
  | 0, _, hP, hD => ⟨hP.sub [0, 1, 2, 3, 4, 5, 6, 7, 8, 9, 10, 11, 12, 13, 14, 15, 16, 17, 18, 19, 20, 21, 22, 23, 24, 25, 26, 27, 28, 29, 30, 31, 32, 33, 34, 35, 36, 37, 38, 39, 40, 41, 42, 43, 44, 45, 46, 47, 48, 49, 50, 51, 52, 53, 54, 55, 56, 57, 58, 59, 60, 61, 62, 63, 64, 65, 66, 67] rfl, hD.sub [0, 1, 2, 3, 4, 5, 6, 7, 8, 9, 10, 11, 12, 13, 14, 15, 16, 17, 18, 19, 20, 21, 22, 23, 24, 25, 26, 27, 28, 29, 30, 31, 32, 33, 34, 35, 36, 37, 38, 39, 40, 41, 42, 43, 44, 45, 46, 47, 48, 49, 50, 51, 52, 53, 54, 55, 56, 57, 58, 59, 60, 61, 62, 63, 64, 65, 66, 67] (by decide) rfl⟩
  | 1, _, hP, hD => ⟨hP.sub [0, 1, 2, 3, 4, 5, 6, 7, 8, 9, 10, 11, 12, 13, 14, 15, 16, 17, 18, 19, 20, 21, 22, 23, 24, 25, 26, 27, 28, 29, 30, 31, 32, 33, 34, 35, 36, 37, 43, 44, 45, 46, 47, 38, 39, 40, 41, 42, 48, 49, 50, 51, 52, 53, 54, 55, 56, 57, 58, 59, 60, 61, 62, 63, 64, 65, 66, 67] rfl, hD.sub [0, 1, 2, 3, 4, 5, 6, 7, 8, 9, 10, 11, 12, 13, 14, 15, 16, 17, 18, 19, 20, 21, 22, 23, 24, 25, 26, 27, 28, 29, 30, 31, 32, 33, 34, 35, 36, 37, 43, 44, 45, 46, 47, 38, 39, 40, 41, 42, 48, 49, 50, 51, 52, 53, 54, 55, 56, 57, 58, 59, 60, 61, 62, 63, 64, 65, 66, 67] (by decide) rfl⟩
  | 2, _, hP, hD => ⟨hP.sub [0, 1, 2, 3, 4, 5, 6, 7, 8, 9, 10, 11, 12, 13, 14, 15, 16, 17, 18, 19, 20, 21, 22, 23, 24, 25, 26, 27, 28, 29, 30, 31, 32, 33, 34, 35, 36, 37, 48, 49, 50, 51, 52, 38, 39, 40, 41, 42, 43, 44, 45, 46, 47, 53, 54, 55, 56, 57, 58, 59, 60, 61, 62, 63, 64, 65, 66, 67] rfl, hD.sub [0, 1, 2, 3, 4, 5, 6, 7, 8, 9, 10, 11, 12, 13, 14, 15, 16, 17, 18, 19, 20, 21, 22, 23, 24, 25, 26, 27, 28, 29, 30, 31, 32, 33, 34, 35, 36, 37, 48, 49, 50, 51, 52, 38, 39, 40, 41, 42, 43, 44, 45, 46, 47, 53, 54, 55, 56, 57, 58, 59, 60, 61, 62, 63, 64, 65, 66, 67] (by decide) rfl⟩
  | 3, _, hP, hD => ⟨hP.sub [0, 1, 2, 3, 4, 5, 6, 7, 8, 9, 10, 11, 12, 13, 14, 15, 16, 17, 18, 19, 20, 21, 22, 23, 24, 25, 26, 27, 28, 29, 30, 31, 32, 33, 34, 35, 36, 37, 53, 54, 55, 56, 57, 38, 39, 40, 41, 42, 43, 44, 45, 46, 47, 48, 49, 50, 51, 52, 58, 59, 60, 61, 62, 63, 64, 65, 66, 67] rfl, hD.sub [0, 1, 2, 3, 4, 5, 6, 7, 8, 9, 10, 11, 12, 13, 14, 15, 16, 17, 18, 19, 20, 21, 22, 23, 24, 25, 26, 27, 28, 29, 30, 31, 32, 33, 34, 35, 36, 37, 53, 54, 55, 56, 57, 38, 39, 40, 41, 42, 43, 44, 45, 46, 47, 48, 49, 50, 51, 52, 58, 59, 60, 61, 62, 63, 64, 65, 66, 67] (by decide) rfl⟩
  | 4, _, hP, hD => ⟨hP.sub [0, 1, 2, 3, 4, 5, 6, 7, 8, 9, 10, 11, 12, 13, 14, 15, 16, 17, 18, 19, 20, 21, 22, 23, 24, 25, 26, 27, 28, 29, 30, 31, 32, 33, 34, 35, 36, 37, 58, 59, 60, 61, 62, 38, 39, 40, 41, 42, 43, 44, 45, 46, 47, 48, 49, 50, 51, 52, 53, 54, 55, 56, 57, 63, 64, 65, 66, 67] rfl, hD.sub [0, 1, 2, 3, 4, 5, 6, 7, 8, 9, 10, 11, 12, 13, 14, 15, 16, 17, 18, 19, 20, 21, 22, 23, 24, 25, 26, 27, 28, 29, 30, 31, 32, 33, 34, 35, 36, 37, 58, 59, 60, 61, 62, 38, 39, 40, 41, 42, 43, 44, 45, 46, 47, 48, 49, 50, 51, 52, 53, 54, 55, 56, 57, 63, 64, 65, 66, 67] (by decide) rfl⟩
  | 5, _, hP, hD => ⟨hP.sub [0, 1, 2, 3, 4, 5, 6, 7, 8, 9, 10, 11, 12, 13, 14, 15, 16, 17, 18, 19, 20, 21, 22, 23, 24, 25, 26, 27, 28, 29, 30, 31, 32, 33, 34, 35, 36, 37, 63, 64, 65, 66, 67, 38, 39, 40, 41, 42, 43, 44, 45, 46, 47, 48, 49, 50, 51, 52, 53, 54, 55, 56, 57, 58, 59, 60, 61, 62] rfl, hD.sub [0, 1, 2, 3, 4, 5, 6, 7, 8, 9, 10, 11, 12, 13, 14, 15, 16, 17, 18, 19, 20, 21, 22, 23, 24, 25, 26, 27, 28, 29, 30, 31, 32, 33, 34, 35, 36, 37, 63, 64, 65, 66, 67, 38, 39, 40, 41, 42, 43, 44, 45, 46, 47, 48, 49, 50, 51, 52, 53, 54, 55, 56, 57, 58, 59, 60, 61, 62] (by decide) rfl⟩
  | i + 6, h, _, _ => absurd h (by omega)
set_option maxRecDepth 100000 in
theorem pushL {A : Nat → Prop} {E : EE} {H : Heap} {c0 c1 c2 c3 c4 c5 c6 c7 c8 c9 c10 c11 c12 c13 c14 c15 c16 c17 c18 c19 c20 c21 c22 c23 c24 c25 c26 c27 c28 c29 c30 c31 c32 c33 c34 c35 c36 c37 : Nat × va_E} {hu : Nat → Nat} {hw : Nat → Nat → Nat} {hn hk : Nat → Nat} {ha : Nat → Nat → Nat → Int32} {n k : Nat} (g : Nat → Nat → Int32) : ∀ {i : Nat}, i < 6 → va_P E.1 vwCl ([c0, c1, c2, c3, c4, c5, c6, c7, c8, c9, c10, c11, c12, c13, c14, c15, c16, c17, c18, c19, c20, c21, c22, c23, c24, c25, c26, c27, c28, c29, c30, c31, c32, c33, c34, c35, c36, c37] ++ ([(hu i, .inr (3, [.int (nI n), .int (nI k), .ref (hw i 1), .ref (hw i 2), .ref (hw i 3), .ref (hw i 4)])), (hw i 1, aI E 30 (g 1)), (hw i 2, aI E 30 (g 2)), (hw i 3, aI E 30 (g 3)), (hw i 4, aI E 30 (g 4))] ++ OT E hu hw hn hk ha i)) H → va_D A ([c0, c1, c2, c3, c4, c5, c6, c7, c8, c9, c10, c11, c12, c13, c14, c15, c16, c17, c18, c19, c20, c21, c22, c23, c24, c25, c26, c27, c28, c29, c30, c31, c32, c33, c34, c35, c36, c37] ++ ([(hu i, .inr (3, [.int (nI n), .int (nI k), .ref (hw i 1), .ref (hw i 2), .ref (hw i 3), .ref (hw i 4)])), (hw i 1, aI E 30 (g 1)), (hw i 2, aI E 30 (g 2)), (hw i 3, aI E 30 (g 3)), (hw i 4, aI E 30 (g 4))] ++ OT E hu hw hn hk ha i)) → va_P E.1 vwCl ([c0, c1, c2, c3, c4, c5, c6, c7, c8, c9, c10, c11, c12, c13, c14, c15, c16, c17, c18, c19, c20, c21, c22, c23, c24, c25, c26, c27, c28, c29, c30, c31, c32, c33, c34, c35, c36, c37] ++ HG E hu hw (upN hn i n) (upN hk i k) (upA ha i g)) H ∧ va_D A ([c0, c1, c2, c3, c4, c5, c6, c7, c8, c9, c10, c11, c12, c13, c14, c15, c16, c17, c18, c19, c20, c21, c22, c23, c24, c25, c26, c27, c28, c29, c30, c31, c32, c33, c34, c35, c36, c37] ++ HG E hu hw (upN hn i n) (upN hk i k) (upA ha i g))
  | 0, _, hP, hD => ⟨hP.sub [0, 1, 2, 3, 4, 5, 6, 7, 8, 9, 10, 11, 12, 13, 14, 15, 16, 17, 18, 19, 20, 21, 22, 23, 24, 25, 26, 27, 28, 29, 30, 31, 32, 33, 34, 35, 36, 37, 38, 39, 40, 41, 42, 43, 44, 45, 46, 47, 48, 49, 50, 51, 52, 53, 54, 55, 56, 57, 58, 59, 60, 61, 62, 63, 64, 65, 66, 67] rfl, hD.sub [0, 1, 2, 3, 4, 5, 6, 7, 8, 9, 10, 11, 12, 13, 14, 15, 16, 17, 18, 19, 20, 21, 22, 23, 24, 25, 26, 27, 28, 29, 30, 31, 32, 33, 34, 35, 36, 37, 38, 39, 40, 41, 42, 43, 44, 45, 46, 47, 48, 49, 50, 51, 52, 53, 54, 55, 56, 57, 58, 59, 60, 61, 62, 63, 64, 65, 66, 67] (by decide) rfl⟩
  | 1, _, hP, hD => ⟨hP.sub [0, 1, 2, 3, 4, 5, 6, 7, 8, 9, 10, 11, 12, 13, 14, 15, 16, 17, 18, 19, 20, 21, 22, 23, 24, 25, 26, 27, 28, 29, 30, 31, 32, 33, 34, 35, 36, 37, 43, 44, 45, 46, 47, 38, 39, 40, 41, 42, 48, 49, 50, 51, 52, 53, 54, 55, 56, 57, 58, 59, 60, 61, 62, 63, 64, 65, 66, 67] rfl, hD.sub [0, 1, 2, 3, 4, 5, 6, 7, 8, 9, 10, 11, 12, 13, 14, 15, 16, 17, 18, 19, 20, 21, 22, 23, 24, 25, 26, 27, 28, 29, 30, 31, 32, 33, 34, 35, 36, 37, 43, 44, 45, 46, 47, 38, 39, 40, 41, 42, 48, 49, 50, 51, 52, 53, 54, 55, 56, 57, 58, 59, 60, 61, 62, 63, 64, 65, 66, 67] (by decide) rfl⟩
  | 2, _, hP, hD => ⟨hP.sub [0, 1, 2, 3, 4, 5, 6, 7, 8, 9, 10, 11, 12, 13, 14, 15, 16, 17, 18, 19, 20, 21, 22, 23, 24, 25, 26, 27, 28, 29, 30, 31, 32, 33, 34, 35, 36, 37, 43, 44, 45, 46, 47, 48, 49, 50, 51, 52, 38, 39, 40, 41, 42, 53, 54, 55, 56, 57, 58, 59, 60, 61, 62, 63, 64, 65, 66, 67] rfl, hD.sub [0, 1, 2, 3, 4, 5, 6, 7, 8, 9, 10, 11, 12, 13, 14, 15, 16, 17, 18, 19, 20, 21, 22, 23, 24, 25, 26, 27, 28, 29, 30, 31, 32, 33, 34, 35, 36, 37, 43, 44, 45, 46, 47, 48, 49, 50, 51, 52, 38, 39, 40, 41, 42, 53, 54, 55, 56, 57, 58, 59, 60, 61, 62, 63, 64, 65, 66, 67] (by decide) rfl⟩
  | 3, _, hP, hD => ⟨hP.sub [0, 1, 2, 3, 4, 5, 6, 7, 8, 9, 10, 11, 12, 13, 14, 15, 16, 17, 18, 19, 20, 21, 22, 23, 24, 25, 26, 27, 28, 29, 30, 31, 32, 33, 34, 35, 36, 37, 43, 44, 45, 46, 47, 48, 49, 50, 51, 52, 53, 54, 55, 56, 57, 38, 39, 40, 41, 42, 58, 59, 60, 61, 62, 63, 64, 65, 66, 67] rfl, hD.sub [0, 1, 2, 3, 4, 5, 6, 7, 8, 9, 10, 11, 12, 13, 14, 15, 16, 17, 18, 19, 20, 21, 22, 23, 24, 25, 26, 27, 28, 29, 30, 31, 32, 33, 34, 35, 36, 37, 43, 44, 45, 46, 47, 48, 49, 50, 51, 52, 53, 54, 55, 56, 57, 38, 39, 40, 41, 42, 58, 59, 60, 61, 62, 63, 64, 65, 66, 67] (by decide) rfl⟩
  | 4, _, hP, hD => ⟨hP.sub [0, 1, 2, 3, 4, 5, 6, 7, 8, 9, 10, 11, 12, 13, 14, 15, 16, 17, 18, 19, 20, 21, 22, 23, 24, 25, 26, 27, 28, 29, 30, 31, 32, 33, 34, 35, 36, 37, 43, 44, 45, 46, 47, 48, 49, 50, 51, 52, 53, 54, 55, 56, 57, 58, 59, 60, 61, 62, 38, 39, 40, 41, 42, 63, 64, 65, 66, 67] rfl, hD.sub [0, 1, 2, 3, 4, 5, 6, 7, 8, 9, 10, 11, 12, 13, 14, 15, 16, 17, 18, 19, 20, 21, 22, 23, 24, 25, 26, 27, 28, 29, 30, 31, 32, 33, 34, 35, 36, 37, 43, 44, 45, 46, 47, 48, 49, 50, 51, 52, 53, 54, 55, 56, 57, 58, 59, 60, 61, 62, 38, 39, 40, 41, 42, 63, 64, 65, 66, 67] (by decide) rfl⟩
  | 5, _, hP, hD => ⟨hP.sub [0, 1, 2, 3, 4, 5, 6, 7, 8, 9, 10, 11, 12, 13, 14, 15, 16, 17, 18, 19, 20, 21, 22, 23, 24, 25, 26, 27, 28, 29, 30, 31, 32, 33, 34, 35, 36, 37, 43, 44, 45, 46, 47, 48, 49, 50, 51, 52, 53, 54, 55, 56, 57, 58, 59, 60, 61, 62, 63, 64, 65, 66, 67, 38, 39, 40, 41, 42] rfl, hD.sub [0, 1, 2, 3, 4, 5, 6, 7, 8, 9, 10, 11, 12, 13, 14, 15, 16, 17, 18, 19, 20, 21, 22, 23, 24, 25, 26, 27, 28, 29, 30, 31, 32, 33, 34, 35, 36, 37, 43, 44, 45, 46, 47, 48, 49, 50, 51, 52, 53, 54, 55, 56, 57, 58, 59, 60, 61, 62, 63, 64, 65, 66, 67, 38, 39, 40, 41, 42] (by decide) rfl⟩
  | i + 6, h, _, _ => absurd h (by omega)
set_option maxRecDepth 100000 in
theorem pushS {A : Nat → Prop} {E : EE} {H : Heap} {c0 c1 c2 c3 c4 c5 c6 c7 c8 c9 c10 c11 c12 c13 c14 c15 c16 c17 c18 c19 c20 c21 c22 c23 c24 c25 c26 c27 c28 c29 c30 c31 c32 c33 c34 c35 c36 c37 : Nat × va_E} {hu : Nat → Nat} {hw : Nat → Nat → Nat} {hn hk : Nat → Nat} {ha : Nat → Nat → Nat → Int32} : ∀ {i : Nat}, i < 6 → va_P E.1 vwCl ([c0, c1, c2, c3, c4, c5, c6, c7, c8, c9, c10, c11, c12, c13, c14, c15, c16, c17, c18, c19, c20, c21, c22, c23, c24, c25, c26, c27, c28, c29, c30, c31, c32, c33, c34, c35, c36, c37] ++ (gpT E hu hw hn hk ha i ++ OT E hu hw hn hk ha i)) H → va_D A ([c0, c1, c2, c3, c4, c5, c6, c7, c8, c9, c10, c11, c12, c13, c14, c15, c16, c17, c18, c19, c20, c21, c22, c23, c24, c25, c26, c27, c28, c29, c30, c31, c32, c33, c34, c35, c36, c37] ++ (gpT E hu hw hn hk ha i ++ OT E hu hw hn hk ha i)) → va_P E.1 vwCl ([c0, c1, c2, c3, c4, c5, c6, c7, c8, c9, c10, c11, c12, c13, c14, c15, c16, c17, c18, c19, c20, c21, c22, c23, c24, c25, c26, c27, c28, c29, c30, c31, c32, c33, c34, c35, c36, c37] ++ HG E hu hw hn hk ha) H ∧ va_D A ([c0, c1, c2, c3, c4, c5, c6, c7, c8, c9, c10, c11, c12, c13, c14, c15, c16, c17, c18, c19, c20, c21, c22, c23, c24, c25, c26, c27, c28, c29, c30, c31, c32, c33, c34, c35, c36, c37] ++ HG E hu hw hn hk ha)
  | 0, _, hP, hD => ⟨hP.sub [0, 1, 2, 3, 4, 5, 6, 7, 8, 9, 10, 11, 12, 13, 14, 15, 16, 17, 18, 19, 20, 21, 22, 23, 24, 25, 26, 27, 28, 29, 30, 31, 32, 33, 34, 35, 36, 37, 38, 39, 40, 41, 42, 43, 44, 45, 46, 47, 48, 49, 50, 51, 52, 53, 54, 55, 56, 57, 58, 59, 60, 61, 62, 63, 64, 65, 66, 67] rfl, hD.sub [0, 1, 2, 3, 4, 5, 6, 7, 8, 9, 10, 11, 12, 13, 14, 15, 16, 17, 18, 19, 20, 21, 22, 23, 24, 25, 26, 27, 28, 29, 30, 31, 32, 33, 34, 35, 36, 37, 38, 39, 40, 41, 42, 43, 44, 45, 46, 47, 48, 49, 50, 51, 52, 53, 54, 55, 56, 57, 58, 59, 60, 61, 62, 63, 64, 65, 66, 67] (by decide) rfl⟩
  | 1, _, hP, hD => ⟨hP.sub [0, 1, 2, 3, 4, 5, 6, 7, 8, 9, 10, 11, 12, 13, 14, 15, 16, 17, 18, 19, 20, 21, 22, 23, 24, 25, 26, 27, 28, 29, 30, 31, 32, 33, 34, 35, 36, 37, 43, 44, 45, 46, 47, 38, 39, 40, 41, 42, 48, 49, 50, 51, 52, 53, 54, 55, 56, 57, 58, 59, 60, 61, 62, 63, 64, 65, 66, 67] rfl, hD.sub [0, 1, 2, 3, 4, 5, 6, 7, 8, 9, 10, 11, 12, 13, 14, 15, 16, 17, 18, 19, 20, 21, 22, 23, 24, 25, 26, 27, 28, 29, 30, 31, 32, 33, 34, 35, 36, 37, 43, 44, 45, 46, 47, 38, 39, 40, 41, 42, 48, 49, 50, 51, 52, 53, 54, 55, 56, 57, 58, 59, 60, 61, 62, 63, 64, 65, 66, 67] (by decide) rfl⟩
  | 2, _, hP, hD => ⟨hP.sub [0, 1, 2, 3, 4, 5, 6, 7, 8, 9, 10, 11, 12, 13, 14, 15, 16, 17, 18, 19, 20, 21, 22, 23, 24, 25, 26, 27, 28, 29, 30, 31, 32, 33, 34, 35, 36, 37, 43, 44, 45, 46, 47, 48, 49, 50, 51, 52, 38, 39, 40, 41, 42, 53, 54, 55, 56, 57, 58, 59, 60, 61, 62, 63, 64, 65, 66, 67] rfl, hD.sub [0, 1, 2, 3, 4, 5, 6, 7, 8, 9, 10, 11, 12, 13, 14, 15, 16, 17, 18, 19, 20, 21, 22, 23, 24, 25, 26, 27, 28, 29, 30, 31, 32, 33, 34, 35, 36, 37, 43, 44, 45, 46, 47, 48, 49, 50, 51, 52, 38, 39, 40, 41, 42, 53, 54, 55, 56, 57, 58, 59, 60, 61, 62, 63, 64, 65, 66, 67] (by decide) rfl⟩
  | 3, _, hP, hD => ⟨hP.sub [0, 1, 2, 3, 4, 5, 6, 7, 8, 9, 10, 11, 12, 13, 14, 15, 16, 17, 18, 19, 20, 21, 22, 23, 24, 25, 26, 27, 28, 29, 30, 31, 32, 33, 34, 35, 36, 37, 43, 44, 45, 46, 47, 48, 49, 50, 51, 52, 53, 54, 55, 56, 57, 38, 39, 40, 41, 42, 58, 59, 60, 61, 62, 63, 64, 65, 66, 67] rfl, hD.sub [0, 1, 2, 3, 4, 5, 6, 7, 8, 9, 10, 11, 12, 13, 14, 15, 16, 17, 18, 19, 20, 21, 22, 23, 24, 25, 26, 27, 28, 29, 30, 31, 32, 33, 34, 35, 36, 37, 43, 44, 45, 46, 47, 48, 49, 50, 51, 52, 53, 54, 55, 56, 57, 38, 39, 40, 41, 42, 58, 59, 60, 61, 62, 63, 64, 65, 66, 67] (by decide) rfl⟩
  | 4, _, hP, hD => ⟨hP.sub [0, 1, 2, 3, 4, 5, 6, 7, 8, 9, 10, 11, 12, 13, 14, 15, 16, 17, 18, 19, 20, 21, 22, 23, 24, 25, 26, 27, 28, 29, 30, 31, 32, 33, 34, 35, 36, 37, 43, 44, 45, 46, 47, 48, 49, 50, 51, 52, 53, 54, 55, 56, 57, 58, 59, 60, 61, 62, 38, 39, 40, 41, 42, 63, 64, 65, 66, 67] rfl, hD.sub [0, 1, 2, 3, 4, 5, 6, 7, 8, 9, 10, 11, 12, 13, 14, 15, 16, 17, 18, 19, 20, 21, 22, 23, 24, 25, 26, 27, 28, 29, 30, 31, 32, 33, 34, 35, 36, 37, 43, 44, 45, 46, 47, 48, 49, 50, 51, 52, 53, 54, 55, 56, 57, 58, 59, 60, 61, 62, 38, 39, 40, 41, 42, 63, 64, 65, 66, 67] (by decide) rfl⟩
  | 5, _, hP, hD => ⟨hP.sub [0, 1, 2, 3, 4, 5, 6, 7, 8, 9, 10, 11, 12, 13, 14, 15, 16, 17, 18, 19, 20, 21, 22, 23, 24, 25, 26, 27, 28, 29, 30, 31, 32, 33, 34, 35, 36, 37, 43, 44, 45, 46, 47, 48, 49, 50, 51, 52, 53, 54, 55, 56, 57, 58, 59, 60, 61, 62, 63, 64, 65, 66, 67, 38, 39, 40, 41, 42] rfl, hD.sub [0, 1, 2, 3, 4, 5, 6, 7, 8, 9, 10, 11, 12, 13, 14, 15, 16, 17, 18, 19, 20, 21, 22, 23, 24, 25, 26, 27, 28, 29, 30, 31, 32, 33, 34, 35, 36, 37, 43, 44, 45, 46, 47, 48, 49, 50, 51, 52, 53, 54, 55, 56, 57, 58, 59, 60, 61, 62, 63, 64, 65, 66, 67, 38, 39, 40, 41, 42] (by decide) rfl⟩
  | i + 6, h, _, _ => absurd h (by omega)
set_option maxRecDepth 100000 in
theorem pushR {A : Nat → Prop} {E : EE} {H : Heap} {c0 c1 c2 c3 c4 c5 c6 c7 c8 c9 c10 c11 c12 c13 c14 c15 c16 c17 c18 c19 c20 c21 c22 c23 c24 c25 c26 c27 c28 c29 c30 c31 c32 c33 c34 c35 c36 c37 : Nat × va_E} {hu : Nat → Nat} {hw : Nat → Nat → Nat} {hn hk : Nat → Nat} {ha : Nat → Nat → Nat → Int32} {n k : Nat} (g : Nat → Nat → Int32) (hP : va_P E.1 vwCl ([c0, c1, c2, c3, c4, c5, c6, c7, c8, c9, c10, c11, c12, c13, c14, c15, c16, c17, c18, c19, c20, c21, c22, c23, c24, c25, c26, c27, c28, c29, c30, c31, c32, c33, c34, c35, c36, c37] ++ ([(hu 0, .inr (3, [.int (nI n), .int (nI k), .ref (hw 0 1), .ref (hw 0 2), .ref (hw 0 3), .ref (hw 0 4)])), (hw 0 1, aI E 30 (g 1)), (hw 0 2, aI E 30 (g 2)), (hw 0 3, aI E 30 (g 3)), (hw 0 4, aI E 30 (g 4))] ++ (gpT E hu hw hn hk ha 1 ++ (gpT E hu hw hn hk ha 2 ++ (gpT E hu hw hn hk ha 3 ++ (gpT E hu hw hn hk ha 4 ++ (gpT E hu hw hn hk ha 5))))))) H) (hD : va_D A ([c0, c1, c2, c3, c4, c5, c6, c7, c8, c9, c10, c11, c12, c13, c14, c15, c16, c17, c18, c19, c20, c21, c22, c23, c24, c25, c26, c27, c28, c29, c30, c31, c32, c33, c34, c35, c36, c37] ++ ([(hu 0, .inr (3, [.int (nI n), .int (nI k), .ref (hw 0 1), .ref (hw 0 2), .ref (hw 0 3), .ref (hw 0 4)])), (hw 0 1, aI E 30 (g 1)), (hw 0 2, aI E 30 (g 2)), (hw 0 3, aI E 30 (g 3)), (hw 0 4, aI E 30 (g 4))] ++ (gpT E hu hw hn hk ha 1 ++ (gpT E hu hw hn hk ha 2 ++ (gpT E hu hw hn hk ha 3 ++ (gpT E hu hw hn hk ha 4 ++ (gpT E hu hw hn hk ha 5)))))))) : va_P E.1 vwCl ([c0, c1, c2, c3, c4, c5, c6, c7, c8, c9, c10, c11, c12, c13, c14, c15, c16, c17, c18, c19, c20, c21, c22, c23, c24, c25, c26, c27, c28, c29, c30, c31, c32, c33, c34, c35, c36, c37] ++ HG E (fun i => hu (rt i)) (fun i => hw (rt i)) (rtN hn n) (rtN hk k) (rtA ha g)) H ∧ va_D A ([c0, c1, c2, c3, c4, c5, c6, c7, c8, c9, c10, c11, c12, c13, c14, c15, c16, c17, c18, c19, c20, c21, c22, c23, c24, c25, c26, c27, c28, c29, c30, c31, c32, c33, c34, c35, c36, c37] ++ HG E (fun i => hu (rt i)) (fun i => hw (rt i)) (rtN hn n) (rtN hk k) (rtA ha g)) := ⟨hP.sub [0, 1, 2, 3, 4, 5, 6, 7, 8, 9, 10, 11, 12, 13, 14, 15, 16, 17, 18, 19, 20, 21, 22, 23, 24, 25, 26, 27, 28, 29, 30, 31, 32, 33, 34, 35, 36, 37, 43, 44, 45, 46, 47, 48, 49, 50, 51, 52, 53, 54, 55, 56, 57, 58, 59, 60, 61, 62, 63, 64, 65, 66, 67, 38, 39, 40, 41, 42] rfl, hD.sub [0, 1, 2, 3, 4, 5, 6, 7, 8, 9, 10, 11, 12, 13, 14, 15, 16, 17, 18, 19, 20, 21, 22, 23, 24, 25, 26, 27, 28, 29, 30, 31, 32, 33, 34, 35, 36, 37, 43, 44, 45, 46, 47, 48, 49, 50, 51, 52, 53, 54, 55, 56, 57, 58, 59, 60, 61, 62, 63, 64, 65, 66, 67, 38, 39, 40, 41, 42] (by decide) rfl⟩
