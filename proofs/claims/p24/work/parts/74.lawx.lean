/-! THE LAW'S OWN METHODS: contracts over objects that stay opaque -/
abbrev QX (r : Int32) (Post : Heap → Prop) (A : Nat → Prop) : Array Value → State → Outcome → State → Prop := va_Qi (fun (v : Int32) (_ : Unit) => v = r) (fun _ t => Post t.heap) A
abbrev PX (E : EE) (Pre : State → Prop) (sz : Nat) : State → Prop := fun U => U.heap.size = sz ∧ Pre U ∧ (va_K E.1 vwCl (tyE E) U ∧ nst U)
def Bl (Pre : State → Prop) : Prop := ∀ (a : Array Value) (U : State) (g : JFrame) (mk : MethodId), Pre U → Pre (U.calling g mk a)
theorem PX_blind {as : List Value} {E : EE} {Pre : State → Prop} {sz : Nat} (hB : Bl Pre) : FrameBlind (va_Pc as (PX E Pre sz)) := fun a U g mk q => by
  obtain ⟨q0, q1, qP, qK, qN⟩ := q
  exact ⟨q0, q1, hB a U g mk qP, va_K.moved (u := U) (U := U.calling g mk a) (Vm.Alike.refl U.vm) qK, nst_same (u := U) (U := U.calling g mk a) rfl qN⟩
/-- a method of the law's own: it answers r, changes but cells of F, and makes nothing -/
def Cx (l : Launch) (y : MethodName) (ws : List Cond) (fr lo : Nat) (E : EE) (as : List Value) (F : Nat → Prop) (Pre : State → Prop) (Post : Heap → Prop) (sz : Nat) (r : Int32) : Prop := Met l y ws (rmO fr lo) (va_Pc as (PX E Pre sz)) (QX r Post (fun q => F q ∨ sz ≤ q)) 0 0 (fun q => F q ∨ sz ≤ q)
theorem Cx_of {l : Launch} {y : MethodName} {ws ws' : List Cond} {fr lo : Nat} {E : EE} {as : List Value} {F : Nat → Prop} {Pre : State → Prop} {Post : Heap → Prop} {sz : Nat} {r : Int32} {cc : ByteArray} {maxL : Nat} {ret : Option FieldType} (hy : plainName y.cls = true) (hw : ws = .code y cc maxL ret :: ws') (hn : (lg_sl as).length ≤ maxL)
    (body : ∀ (p : Program) (e : Env) (s : State) (m : MethodId) (args : Array Value) (below : List Frame) (meth : Method) (c : Code) (A : Nat → Prop) (R : Room) (Q : State → Prop) (ls : Array Slot), p.tables.exec = Jvm.exec → c.code = cc → meth.sig.returnType = ret → (∀ w ∈ ws, w.before args s = true) → s.vm.findClass y.cls = some m.cls → c.maxLocals = maxL → meth.locks = false → (∀ q, s.heap.size ≤ q → A q) → (∀ q, F q → A q) → (∀ q, A q → F q ∨ s.heap.size ≤ q) → va_K E.1 vwCl (tyE E) s → nst s → Pre s → va_S A s.heap s.heap [] → lv_has ls maxL (lv_args 0 as) → R = rmO fr lo → Q = MQ below (QX r Post A) args s 0 0 A → W p l e R s m args below meth c s.heap [] 0 0 Q (F0 m 0 ls [])) :
    Cx l y ws fr lo E as F Pre Post sz r := by
  refine Met.ofW (cc := cc) (maxL := maxL) (ret := ret) hy hw ?_
  intro p e s m args below meth c s₁ B hml hv
  obtain ⟨rfl, hsz, hPre, hK, hN⟩ := hv
  have hts := atoms_spec (ws := ws) B.pre
  have hown : s.vm.findClass y.cls = some m.cls := findClass_of_methodNamed B.named
  subst hsz
  have hl := lv_entry as (n := maxL) hn
  rw [lg_entry_eq]
  exact body p e s m _ below meth c (fun q => F q ∨ s.heap.size ≤ q) _ _ _ B.exec B.bytes B.returns hts hown hml B.notSynchronized (fun q h => Or.inr h) (fun q h => Or.inl h) (fun q h => h) hK hN hPre va_S.rf hl rfl rfl
section RX
variable {p : Program} {l : Launch} {e : Env} {R : Room} {s : State} {m : MethodId} {args : Array Value} {below : List Frame} {meth : Method} {c : Code} {H : Heap} {locs : List Loc} {cells slots : Nat} {Q : State → Prop}
variable {cc : ByteArray} {pc : Nat} {ls : Array Slot} {st0 rest : List Value} {E : EE} {A F : Nat → Prop} {nL n index fr lo : Nat} {y : MethodName} {bytes : ByteArray} {maxL : Nat} {ret : Option FieldType} {wsY Ts : List Cond} {own : String} {As : List Value} {r v : Int32} {Pre : State → Prop} {Post G : Heap → Prop}
theorem rx_z {ty : FieldType} (hQ : Q = MQ below (QX r Post A) args s 0 0 A) (hx : p.tables.exec = Jvm.exec) (hb : c.code = cc) (hr : meth.sig.returnType = some ty) (hlocks : meth.locks = false) (hP : Post H) (hS : va_S A s.heap H locs) (hdg : decode cc pc = .ok (.ireturn, 1)) (hn : narrow ty (.int v) = .int v) (he : v = r) : W p l e R s m args below meth c H locs 0 0 Q (F0 m pc ls [.int v]) := by
  subst hQ
  exact W.zret hx hb hr hn (fun t ht hW => ⟨⟨v, (), rfl, he, by show Post t.heap; rw [ht]; exact hP⟩, hS.F ht⟩) hS.2.2 hdg hlocks
theorem rx_i (hQ : Q = MQ below (QX r Post A) args s 0 0 A) (hx : p.tables.exec = Jvm.exec) (hb : c.code = cc) (hr : meth.sig.returnType = some .int) (hlocks : meth.locks = false) (hP : Post H) (hS : va_S A s.heap H locs) (hdg : decode cc pc = .ok (.ireturn, 1)) (he : v = r) : W p l e R s m args below meth c H locs 0 0 Q (F0 m pc ls [.int v]) := by
  subst hQ
  exact W.iret hx hb hr (fun t ht hW => ⟨⟨v, (), rfl, he, by show Post t.heap; rw [ht]; exact hP⟩, hS.F ht⟩) hS.2.2 hdg hlocks
/-- a call of one of the law's own methods -/
theorem kX_i (S : CallFix p m c cc nL s args Ts own) (hM : Cx l y wsY fr lo E As F Pre Post H.size r) (hB : Bl Pre) (cw : CallB R s args own index y bytes maxL ret wsY (rmO fr lo) 0 0 n ∧ (Cond.static y).before args s = true) (hK : va_K E.1 vwCl (tyE E) s) (hN : nst s) (hPre : ∀ U : State, U.heap = H → s.WarmedH U.vm → Pre U) (hFA : ∀ q, F q → A q) (hS : va_S A s.heap H locs) (hA : ∀ q, s.heap.size ≤ q → A q)
    (hn : As.length = n) (hls : ls.size = nL) (hst : st0 = As.reverse ++ rest) (hrest : (rest.map fun v => v.category).sum ≤ 8) (hdg : decode cc pc = .ok (.invokestatic index, 3)) (hf : cells ≤ R.cells ∧ slots ≤ R.slots)
    (go : ∀ (H1 : Heap) (locs1 : List Loc), Post H1 → va_S A s.heap H1 locs1 → Fr F H H1 → W p l e R s m args below meth c H1 locs1 cells slots Q (F0 m (pc + 3) ls (.int r :: rest))) : W p l e R s m args below meth c H locs cells slots Q (F0 m pc ls st0) := by
  refine va_calli (mc := 0) (ms := 0) (va_runS (g := F0 m pc ls st0) S hM cw ⟨PX_blind hB, fun U hU hW => ⟨rfl, by rw [hU], hPre U hU hW, va_K.moved hW.alike hK, nst_warm hW hN⟩⟩ rfl hn hls hst (lv_room hrest) hdg hf) hS (fun q h1 h2 => h2.elim (hFA q) (fun h3 => absurd h1 (Nat.not_lt.mpr h3))) (fun q h => h.elim (hFA q) (fun h3 => hA q (Nat.le_trans hS.1 h3))) (fun r' u t H1 locs1 ht hvm hw hB2 hz1 hk1 hS1 => ?_)
  rw [ht] at hB2
  subst hw
  exact go H1 locs1 hB2 hS1 (fun q h1 h2 => hk1 q h1 (fun z => z.elim h2 (fun h3 => absurd h1 (Nat.not_lt.mpr h3))))
/-- a call of a pure one -/
theorem kX_0 (S : CallFix p m c cc nL s args Ts own) (hM : Ci l y wsY fr lo E As [] H.size r []) (cw : CallB R s args own index y bytes maxL ret wsY (rmO fr lo) 0 0 n ∧ (Cond.static y).before args s = true) (hK : va_K E.1 vwCl (tyE E) s) (hN : nst s) (hG : G H) (hGk : ∀ H H1 : Heap, Fr (fun _ => False) H H1 → G H → G H1) (hS : va_S A s.heap H locs) (hA : ∀ q, s.heap.size ≤ q → A q)
    (hn : As.length = n) (hls : ls.size = nL) (hst : st0 = As.reverse ++ rest) (hrest : (rest.map fun v => v.category).sum ≤ 8) (hdg : decode cc pc = .ok (.invokestatic index, 3)) (hf : cells ≤ R.cells ∧ slots ≤ R.slots)
    (go : ∀ (H1 : Heap) (locs1 : List Loc), G H1 → va_S A s.heap H1 locs1 → W p l e R s m args below meth c H1 locs1 cells slots Q (F0 m (pc + 3) ls (.int r :: rest))) : W p l e R s m args below meth c H locs cells slots Q (F0 m pc ls st0) := by
  have hPe : ∀ h : Heap, va_P E.1 vwCl [] h := fun h k q z => by simp at z
  have hDe : va_D (fun _ => True) ([] : va_W) := ⟨fun i j p q z => by simp at z, fun k q z => by simp at z⟩
  refine va_calli (mc := 0) (ms := 0) (va_runS (g := F0 m pc ls st0) S hM cw ⟨Pr_blind, fun U hU hW => ⟨rfl, by rw [hU], hPe _, ⟨va_K.moved hW.alike hK, nst_warm hW hN⟩, hDe⟩⟩ rfl hn hls hst (lv_room hrest) hdg hf) hS (fun q h1 h2 => h2.elim (fun ⟨k, e, z⟩ => by simp at z) (fun h3 => absurd h1 (Nat.not_lt.mpr h3))) (fun q h => h.elim (fun ⟨k, e, z⟩ => by simp at z) (fun h3 => hA q (Nat.le_trans hS.1 h3))) (fun r' u t H1 locs1 ht hvm hw hB2 hz1 hk1 hS1 => ?_)
  subst hw
  exact go H1 locs1 (hGk H H1 (fun q h1 _ => hk1 q h1 (fun z => z.elim (fun ⟨k, e, z⟩ => by simp at z) (fun h3 => absurd h1 (Nat.not_lt.mpr h3)))) hG) hS1
end RX
theorem Bl_heap {P : Heap → Prop} : Bl (fun U => P U.heap) := fun _ _ _ _ h => h
/-- a cell of the script, or what stands for it -/
def clF (L : Nat) (xs : Nat → Int32) (k : Nat) : Int32 := if k < L then xs k else nI 1779033703 * (nI k + nI 887)
/-- both objects, the second one's squares numbered the other way round -/
def TW2 (E : EE) (F1 F2 : Nat → Prop) (ad1 ad2 : Nat → Nat) (n : Nat) (H : Heap) : Prop := ∃ (hc k : Nat) (T T' : Nat → Int32) (kk : Nat → Nat) (HA HA' : Nat → Nat → Int32), 1 ≤ hc ∧ Mi n k T T' ∧ HM n hc kk HA HA' ∧ OI E F1 ad1 n hc k T kk HA H ∧ OI E F2 ad2 n hc k T' kk HA' H
