/-! THE PAD'S AND THE HISTORY'S FUNCTIONS (pure), and a row more -/
section RO
variable {p : Program} {l : Launch} {e : Env} {R : Room} {s : State} {m : MethodId} {args : Array Value} {below : List Frame} {meth : Method} {c : Code} {H : Heap} {locs : List Loc} {cells slots : Nat} {Q : State → Prop}
variable {cc : ByteArray} {pc : Nat} {ls : Array Slot} {rest : List Value} {E : EE} {A : Nat → Prop} {a : Nat} {ws : va_W} {H0 : Heap}
theorem rk_oast (hx : p.tables.exec = Jvm.exec) (hb : c.code = cc) (hK : va_K E.1 vwCl (tyE E) s) (hP : va_P E.1 vwCl ws H) (hD : va_D A ws) (hS : va_S A H0 H locs) (q0 qk : Nat) {n v : Nat} {vs : List Value} {f : Nat → Option Nat} (ha : ws[q0]? = some (a, aO E n f)) (hv : ws[qk]? = some (v, .inr (3, vs))) {j : Nat} (hj : j < n) (hn : n < 2 ^ 31) {ws' : va_W} (hws : ws.set q0 (a, aO E n (va_up f j (some v))) = ws') (hdg : decode cc pc = .ok (.aastore, 1))
    (kk : ∀ (H1 : Heap) (locs1 : List Loc), va_P E.1 vwCl ws' H1 → va_D A ws' → va_S A H0 H1 locs1 → W p l e R s m args below meth c H1 locs1 cells slots Q (F0 m (pc + 1) ls rest)) : W p l e R s m args below meth c H locs cells slots Q (F0 m pc ls (.ref v :: .int (nI j) :: .ref a :: rest)) := by
  subst hws
  refine va_astq (D := E.1) (cl := vwCl) (tys := tyE E) (r := (RX3, TX3, 6)) hx hb hK hP hD hS q0 3 qk 3 ha rfl hv rfl (vp_in_nI hj hn) hdg ?_
  rw [nI_clamp (by omega)]
  exact kk
end RO
def atL (c : Nat) : Bool := decide (c % 3 = 2)
def chB (c : Nat) : Int32 := if c % 3 = 0 then nI 45 else if c % 3 = 1 then nI 58 else nI 59
def kpC (c : Nat) : Nat := if c < 80 then c + 1 else c
def kpF (c : Nat) (m : Int32) (f : Nat → Int32) : Nat → Int32 := if c < 80 then upd f c m else f
def mxN (c : Nat) : Int32 := if atL c = true then nI 99 else nI 15
def tdB (m : Int32) (c : Nat) (d : Int32) : Bool := if m = -1 then (decide (0 < d) || !atL c) else (!decide (m = 0) && decide (m * nI 10 + d ≤ mxN c))
def tdM (m : Int32) (c : Nat) (d : Int32) : Int32 := if m = -1 then d else if m = 0 ∨ ¬ m * nI 10 + d ≤ mxN c then m else m * nI 10 + d
/-- a character is read: whether it fits, then number, count and row -/
def tk (m : Int32) (c : Nat) (f : Nat → Int32) (ch : Int32) : Bool × Int32 × Nat × (Nat → Int32) :=
  if ¬ ch < nI 48 ∧ ¬ nI 57 < ch then (tdB m c (ch - nI 48), tdM m c (ch - nI 48), c, f)
  else if m = -1 ∨ ¬ ch = chB c then (false, m, c, f)
  else (true, -1, kpC c, kpF c m f)
def pGo (cf : Nat → Int32) (m : Int32) (c : Nat) (f : Nat → Int32) : Nat → Nat → Int32 × Int32 × Nat × (Nat → Int32)
  | i, 0 => if atL c = false ∨ m = -1 then (nI i, m, c, f) else (-6, -1, kpC c, kpF c m f)
  | i, n + 1 => if (tk m c f (cf i)).1 = true then pGo cf (tk m c f (cf i)).2.1 (tk m c f (cf i)).2.2.1 (tk m c f (cf i)).2.2.2 (i + 1) n else (nI i, (tk m c f (cf i)).2)
theorem tk_le {m : Int32} {c : Nat} {f : Nat → Int32} {ch : Int32} (h : c ≤ 80) : (tk m c f ch).2.2.1 ≤ 80 := by
  simp only [tk]
  split
  · exact h
  · split
    · exact h
    · simp only [kpC]; split <;> omega
theorem pGo_hit {cf : Nat → Int32} {m : Int32} {c : Nat} {f : Nat → Int32} {i n : Nat} (hn : 0 < n) (h : (tk m c f (cf i)).1 = false) : pGo cf m c f i n = (nI i, (tk m c f (cf i)).2) := by
  obtain ⟨j, rfl⟩ : ∃ j, n = j + 1 := ⟨n - 1, by omega⟩
  rw [pGo, if_neg (by rw [h]; decide)]
theorem pGo_miss {cf : Nat → Int32} {m : Int32} {c : Nat} {f : Nat → Int32} {i n n' : Nat} (hn : n = n' + 1) (h : (tk m c f (cf i)).1 = true) : pGo cf m c f i n = pGo cf (tk m c f (cf i)).2.1 (tk m c f (cf i)).2.2.1 (tk m c f (cf i)).2.2.2 (i + 1) n' := by
  subst hn
  rw [pGo, if_pos h]
theorem pGo_end1 {cf : Nat → Int32} {m : Int32} {c : Nat} {f : Nat → Int32} {i n : Nat} (hn : n = 0) (h : atL c = false ∨ m = -1) : pGo cf m c f i n = (nI i, m, c, f) := by
  subst hn
  rw [pGo, if_pos h]
theorem pGo_end2 {cf : Nat → Int32} {m : Int32} {c : Nat} {f : Nat → Int32} {i n : Nat} (hn : n = 0) (h1 : atL c = true) (h2 : ¬ m = -1) : pGo cf m c f i n = (-6, -1, kpC c, kpF c m f) := by
  subst hn
  rw [pGo, if_neg (fun q => q.elim (fun z => absurd z (by rw [h1]; decide)) h2)]
/-- the character at place t from the right of a number of characters -/
def chV (x : Int64) (t : Nat) : Int32 := vp_nar .char ((((x.toUInt64 >>> ((nI (8 * t)).toInt64.toUInt64 &&& Int64.toUInt64 63)).toInt64 &&& (255 : Int64)).toInt32.toUInt32 % 65536).toInt32)
def apF (f : Nat → Int32) (L : Nat) (x : Int64) (w : Nat) : Nat → (Nat → Int32)
  | 0 => f
  | j + 1 => upd (apF f L x w j) (L + j) (chV x (w - 1 - j))
theorem tdB_1 {m : Int32} {c : Nat} {d : Int32} (h : m = -1) (h2 : 0 < d) : tdB m c d = true := by simp only [tdB]; rw [if_pos h, decide_eq_true h2]; rfl
theorem tdB_2 {m : Int32} {c : Nat} {d : Int32} (h : m = -1) (h2 : atL c = false) : tdB m c d = true := by simp only [tdB]; rw [if_pos h, h2]; simp
theorem tdB_3 {m : Int32} {c : Nat} {d : Int32} (h : m = -1) (h2 : ¬ 0 < d) (h3 : atL c = true) : tdB m c d = false := by simp only [tdB]; rw [if_pos h, decide_eq_false h2, h3]; rfl
theorem tdB_4 {m : Int32} {c : Nat} {d : Int32} (h : ¬ m = -1) (h2 : m = 0) : tdB m c d = false := by simp only [tdB]; rw [if_neg h, decide_eq_true h2]; rfl
theorem mxN_t {c : Nat} (h : atL c = true) : mxN c = nI 99 := by rw [mxN, if_pos h]
theorem mxN_f {c : Nat} (h : atL c = false) : mxN c = nI 15 := by rw [mxN, if_neg (by rw [h]; decide)]
theorem tdB_5 {m : Int32} {c : Nat} {d : Int32} (h : ¬ m = -1) (h3 : atL c = true) (h2 : ¬ m * nI 10 + d ≤ nI 99) : tdB m c d = false := by
  have h9 : ¬ m * nI 10 + d ≤ mxN c := by rw [mxN_t h3]; exact h2
  simp only [tdB]
  rw [if_neg h, decide_eq_false h9]
  simp
theorem tdB_6 {m : Int32} {c : Nat} {d : Int32} (h : ¬ m = -1) (h3 : atL c = false) (h2 : ¬ m * nI 10 + d ≤ nI 15) : tdB m c d = false := by
  have h9 : ¬ m * nI 10 + d ≤ mxN c := by rw [mxN_f h3]; exact h2
  simp only [tdB]
  rw [if_neg h, decide_eq_false h9]
  simp
theorem tdB_7 {m : Int32} {c : Nat} {d : Int32} (h : ¬ m = -1) (h4 : ¬ m = 0) (h3 : atL c = true) (h2 : m * nI 10 + d ≤ nI 99) : tdB m c d = true := by
  have h9 : m * nI 10 + d ≤ mxN c := by rw [mxN_t h3]; exact h2
  simp only [tdB]
  rw [if_neg h, decide_eq_true h9, decide_eq_false h4]
  rfl
theorem tdB_8 {m : Int32} {c : Nat} {d : Int32} (h : ¬ m = -1) (h4 : ¬ m = 0) (h3 : atL c = false) (h2 : m * nI 10 + d ≤ nI 15) : tdB m c d = true := by
  have h9 : m * nI 10 + d ≤ mxN c := by rw [mxN_f h3]; exact h2
  simp only [tdB]
  rw [if_neg h, decide_eq_true h9, decide_eq_false h4]
  rfl
theorem tdM_a {m : Int32} {c : Nat} {d : Int32} (h : m = -1) : tdM m c d = d := by rw [tdM, if_pos h]
theorem tdM_b {m : Int32} {c : Nat} {d : Int32} (h : ¬ m = -1) (h2 : m = 0) : tdM m c d = m := by rw [tdM, if_neg h, if_pos (Or.inl h2)]
theorem tdM_c {m : Int32} {c : Nat} {d : Int32} (h : ¬ m = -1) (h3 : atL c = true) (h2 : ¬ m * nI 10 + d ≤ nI 99) : tdM m c d = m := by rw [tdM, if_neg h, mxN_t h3, if_pos (Or.inr h2)]
theorem tdM_d {m : Int32} {c : Nat} {d : Int32} (h : ¬ m = -1) (h3 : atL c = false) (h2 : ¬ m * nI 10 + d ≤ nI 15) : tdM m c d = m := by rw [tdM, if_neg h, mxN_f h3, if_pos (Or.inr h2)]
theorem tdM_e {m : Int32} {c : Nat} {d : Int32} (h : ¬ m = -1) (h4 : ¬ m = 0) (h3 : atL c = true) (h2 : m * nI 10 + d ≤ nI 99) : tdM m c d = m * nI 10 + d := by rw [tdM, if_neg h, mxN_t h3, if_neg (fun q => q.elim h4 (fun z => z h2))]
theorem tdM_f {m : Int32} {c : Nat} {d : Int32} (h : ¬ m = -1) (h4 : ¬ m = 0) (h3 : atL c = false) (h2 : m * nI 10 + d ≤ nI 15) : tdM m c d = m * nI 10 + d := by rw [tdM, if_neg h, mxN_f h3, if_neg (fun q => q.elim h4 (fun z => z h2))]
theorem tk_d {m : Int32} {c : Nat} {f : Nat → Int32} {ch : Int32} (h3 : ¬ ch < nI 48) (h9 : ¬ nI 57 < ch) : tk m c f ch = (tdB m c (ch - nI 48), tdM m c (ch - nI 48), c, f) := by rw [tk, if_pos (And.intro h3 h9)]
theorem tk_n1 {m : Int32} {c : Nat} {f : Nat → Int32} {ch : Int32} (h3 : ch < nI 48) (h : m = -1) : tk m c f ch = (false, m, c, f) := by rw [tk, if_neg (fun q => q.1 h3), if_pos (Or.inl h)]
theorem tk_n2 {m : Int32} {c : Nat} {f : Nat → Int32} {ch : Int32} (h3 : nI 57 < ch) (h : m = -1) : tk m c f ch = (false, m, c, f) := by rw [tk, if_neg (fun q => q.2 h3), if_pos (Or.inl h)]
theorem tk_n3 {m : Int32} {c : Nat} {f : Nat → Int32} {ch : Int32} (h3 : ch < nI 48) (h : ¬ ch = chB c) : tk m c f ch = (false, m, c, f) := by rw [tk, if_neg (fun q => q.1 h3), if_pos (Or.inr h)]
theorem tk_n4 {m : Int32} {c : Nat} {f : Nat → Int32} {ch : Int32} (h3 : nI 57 < ch) (h : ¬ ch = chB c) : tk m c f ch = (false, m, c, f) := by rw [tk, if_neg (fun q => q.2 h3), if_pos (Or.inr h)]
theorem tk_y1 {m : Int32} {c : Nat} {f : Nat → Int32} {ch : Int32} (h3 : ch < nI 48) (h : ¬ m = -1) (h2 : ch = chB c) : tk m c f ch = (true, -1, kpC c, kpF c m f) := by rw [tk, if_neg (fun q => q.1 h3), if_neg (fun q => q.elim h (fun z => z h2))]
theorem tk_y2 {m : Int32} {c : Nat} {f : Nat → Int32} {ch : Int32} (h3 : nI 57 < ch) (h : ¬ m = -1) (h2 : ch = chB c) : tk m c f ch = (true, -1, kpC c, kpF c m f) := by rw [tk, if_neg (fun q => q.2 h3), if_neg (fun q => q.elim h (fun z => z h2))]
