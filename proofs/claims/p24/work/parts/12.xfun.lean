/-! PartingRoads' own functions (pure) -/
def clp (f : Nat → Int32) (r : Nat) : Nat := (f r).toNatClampNeg
def okL (f : Nat → Int32) (k : Nat) : Prop := ∀ r, r < k → f r = nI (clp f r) ∧ clp f r < 16
theorem okL_of {f : Nat → Int32} {k : Nat} (h : ∀ r, r < k → ∃ v, v < 16 ∧ f r = nI v) : okL f k := by
  intro r hr
  obtain ⟨v, hv, e⟩ := h r hr
  have e2 : clp f r = v := by rw [clp, e, nI_clamp (by omega)]
  rw [e2]
  exact ⟨e, hv⟩
theorem mn_ok {x y : Nat} (h1 : x < 16) (h2 : y < 16) : ∃ v, v < 16 ∧ (if nI y < nI x then nI y else nI x) = nI v := by
  by_cases h : nI y < nI x
  · exact ⟨y, h2, if_pos h⟩
  · exact ⟨x, h1, if_neg h⟩
theorem mx_ok {x y : Nat} (h1 : x < 16) (h2 : y < 16) : ∃ v, v < 16 ∧ (if nI x < nI y then nI y else nI x) = nI v := by
  by_cases h : nI x < nI y
  · exact ⟨y, h2, if_pos h⟩
  · exact ⟨x, h1, if_neg h⟩
theorem okL_upd {f : Nat → Int32} {k : Nat} {v : Int32} (h : okL f k) (hv : ∃ w, w < 16 ∧ v = nI w) : okL (upd f k v) (k + 1) := by
  refine okL_of (fun r hr => ?_)
  by_cases e : r = k
  · obtain ⟨w, h1, h2⟩ := hv
    exact ⟨w, h1, by simp [upd, e, h2]⟩
  · obtain ⟨h1, h2⟩ := h r (by omega)
    exact ⟨_, h2, by simp only [upd, if_neg e]; exact h1⟩
theorem okL_shl {f : Nat → Int32} {k a : Nat} (h : okL f k) : okL (shl1 f a k) (k - 1) := by
  refine okL_of (fun r hr => ?_)
  simp only [shl1]
  split
  · obtain ⟨h1, h2⟩ := h (r + 1) (by omega)
    exact ⟨_, h2, h1⟩
  · obtain ⟨h1, h2⟩ := h r (by omega)
    exact ⟨_, h2, h1⟩
theorem cpy_in {α : Type} {f g : Nat → α} {j : Nat} (h : j < 30) : va_cpy f g 0 0 30 j = f j := by
  rw [pk_cpy_in (Nat.zero_le j) (by omega)]
  congr 1
  omega
theorem okL_cpy {f g : Nat → Int32} {k : Nat} (h : okL f k) (hk : k ≤ 30) : okL (va_cpy f g 0 0 30) k := by
  refine okL_of (fun r hr => ?_)
  rw [cpy_in (by omega)]
  obtain ⟨h1, h2⟩ := h r hr
  exact ⟨_, h2, h1⟩
def swl (w : Int32) : List Int32 → Nat → Int32
  | [], _ => -2
  | v :: vs, i => if w = nI i then v else swl w vs (i + 1)
theorem swl_0 {a i : Nat} {v : Int32} {vs : List Int32} (h : nI a = nI i) : swl (nI a) (v :: vs) i = v := by rw [swl, if_pos h]
theorem swl_s {a i : Nat} {v : Int32} {vs : List Int32} (h : ¬ nI a = nI i) : swl (nI a) (v :: vs) i = swl (nI a) vs (i + 1) := by rw [swl, if_neg h]
theorem inR_ok {x n : Nat} (h : x < n) (hn : n < 2 ^ 31) : inR (nI x) (nI n) = true := inR_t (nI_pos (by omega)) (nI_ge h hn)
def anyB (p : Nat → Bool) : Nat → Bool
  | 0 => false
  | i + 1 => anyB p i || p i
theorem anyB_hit {p : Nat → Bool} {i : Nat} (h : p i = true) : ∀ w, i < w → anyB p w = true
  | w + 1, hw => by
    rcases Nat.lt_succ_iff_lt_or_eq.mp hw with z | z
    · simp [anyB, anyB_hit h w z]
    · subst z; simp [anyB, h]
theorem anyB_miss {p : Nat → Bool} {i : Nat} (h1 : anyB p i = false) (h : p i = false) : anyB p (i + 1) = false := by simp [anyB, h1, h]
def eP1 (f : Nat → Int32) (sc : Int32) (i : Nat) : Bool := !inR (f (3 * i)) sc || !inR (f (3 * i + 1)) sc
def eP2 (f : Nat → Int32) (i : Nat) : Bool := decide (f (3 * i) = f (3 * i + 1))
def erR (f : Nat → Int32) (sc : Int32) (k w : Nat) : Int32 := if anyB (eP1 f sc) w = true then -1 else if anyB (eP2 f) w = true then -2 else if 30 < k + w then -4 else 0
theorem eP1_a {f : Nat → Int32} {sc : Int32} {i : Nat} (h : inR (f (3 * i)) sc = false) : eP1 f sc i = true := by rw [eP1, h]; rfl
theorem eP1_b {f : Nat → Int32} {sc : Int32} {i : Nat} (h : inR (f (3 * i + 1)) sc = false) : eP1 f sc i = true := by rw [eP1, h]; simp
theorem eP1_c {f : Nat → Int32} {sc : Int32} {i : Nat} (h1 : inR (f (3 * i)) sc = true) (h : inR (f (3 * i + 1)) sc = true) : eP1 f sc i = false := by rw [eP1, h1, h]; rfl
theorem erR_1 {f : Nat → Int32} {sc : Int32} {k w : Nat} (h : anyB (eP1 f sc) w = true) : erR f sc k w = -1 := by rw [erR, if_pos h]
theorem erR_2 {f : Nat → Int32} {sc : Int32} {k w : Nat} (h1 : anyB (eP1 f sc) w = false) (h : anyB (eP2 f) w = true) : erR f sc k w = -2 := by rw [erR, if_neg (by rw [h1]; decide), if_pos h]
theorem erR_3 {f : Nat → Int32} {sc : Int32} {k w : Nat} (h1 : anyB (eP1 f sc) w = false) (h2 : anyB (eP2 f) w = false) (h : 30 < k + w) : erR f sc k w = -4 := by rw [erR, if_neg (by rw [h1]; decide), if_neg (by rw [h2]; decide), if_pos h]
theorem erR_4 {f : Nat → Int32} {sc : Int32} {k w : Nat} (h1 : anyB (eP1 f sc) w = false) (h2 : anyB (eP2 f) w = false) (h : k + w ≤ 30) : erR f sc k w = 0 := by rw [erR, if_neg (by rw [h1]; decide), if_neg (by rw [h2]; decide), if_neg (by omega)]
/-- rows added, one behind the other -/
def amL (f v : Nat → Int32) (k : Nat) : Nat → (Nat → Int32)
  | 0 => f
  | i + 1 => upd (amL f v k i) (k + i) (v i)
def vMn (f : Nat → Int32) (i : Nat) : Int32 := if f (3 * i + 1) < f (3 * i) then f (3 * i + 1) else f (3 * i)
def vMx (f : Nat → Int32) (i : Nat) : Int32 := if f (3 * i) < f (3 * i + 1) then f (3 * i + 1) else f (3 * i)
def vLe (f : Nat → Int32) (i : Nat) : Int32 := f (3 * i + 2)
def vEn (f : Nat → Int32) (i : Nat) : Int32 := (nI 1 <<< (f (3 * i) &&& 31)) ||| (nI 1 <<< (f (3 * i + 1) &&& 31))
theorem okL_am {f v : Nat → Int32} {k w : Nat} (h : okL f k) (hv : ∀ i, i < w → ∃ x, x < 16 ∧ v i = nI x) : okL (amL f v k w) (k + w) := by
  induction w with
  | zero => exact h
  | succ w ih => exact okL_upd (ih (fun i hi => hv i (by omega))) (hv w (by omega))
/-- the long's characters, if all are good ones, else 0 -/
def us8 (x : Int64) : Int64 := (x.toUInt64 >>> ((nI 8).toInt64.toUInt64 &&& Int64.toUInt64 63)).toInt64
def chG : Int64 → Nat → Nat → Nat
  | _, c, 0 => c
  | x, c, n + 1 => if x = 0 then c else if (x &&& 255) < 33 ∨ 126 < (x &&& 255) then 0 else chG (us8 x) (c + 1) n
theorem chG_le : ∀ (n : Nat) (x : Int64) (c : Nat), chG x c n ≤ c + n
  | 0, _, c => Nat.le_refl c
  | n + 1, x, c => by
    have h := chG_le n (us8 x) (c + 1)
    simp only [chG]
    split
    · omega
    · split <;> omega
theorem chG_8 (x : Int64) : chG x 0 8 ≤ 8 := by have h := chG_le 8 x 0; omega
theorem chG_z {x : Int64} {c n : Nat} (h : x = 0) : chG x c n = c := by
  cases n with
  | zero => rfl
  | succ n => rw [chG, if_pos h]
theorem chG_b1 {x : Int64} {c n : Nat} (hn : 0 < n) (h : ¬ x = 0) (h2 : (x &&& 255) < 33) : chG x c n = 0 := by
  obtain ⟨j, rfl⟩ : ∃ j, n = j + 1 := ⟨n - 1, by omega⟩
  rw [chG, if_neg h, if_pos (Or.inl h2)]
theorem chG_b2 {x : Int64} {c n : Nat} (hn : 0 < n) (h : ¬ x = 0) (h2 : 126 < (x &&& 255)) : chG x c n = 0 := by
  obtain ⟨j, rfl⟩ : ∃ j, n = j + 1 := ⟨n - 1, by omega⟩
  rw [chG, if_neg h, if_pos (Or.inr h2)]
theorem chG_s {x : Int64} {c n n' : Nat} (hn : n = n' + 1) (h : ¬ x = 0) (h2 : ¬ (x &&& 255) < 33) (h3 : ¬ 126 < (x &&& 255)) : chG x c n = chG (us8 x) (c + 1) n' := by
  subst hn
  rw [chG, if_neg h, if_neg (fun q => q.elim h2 h3)]
/-- bestBuilt's inner and outer rounds: the fewest, with the two squares -/
def bbI (pf : Nat → Nat → Int32) (lo : Nat) (s0 : Int32 × Nat × Nat) : Nat → Int32 × Nat × Nat
  | 0 => s0
  | j + 1 => if ¬ (bbI pf lo s0 j).1 ≤ pf lo (lo + 1 + j) then (pf lo (lo + 1 + j), lo, lo + 1 + j) else bbI pf lo s0 j
def bbO (pf : Nat → Nat → Int32) (n : Nat) (s0 : Int32 × Nat × Nat) : Nat → Int32 × Nat × Nat
  | 0 => s0
  | i + 1 => bbI pf i (bbO pf n s0 i) (n - (i + 1))
theorem bbI_t {pf : Nat → Nat → Int32} {lo : Nat} {s0 : Int32 × Nat × Nat} {j : Nat} (h : ¬ (bbI pf lo s0 j).1 ≤ pf lo (lo + 1 + j)) : bbI pf lo s0 (j + 1) = (pf lo (lo + 1 + j), lo, lo + 1 + j) := by rw [bbI, if_pos h]
theorem bbI_f {pf : Nat → Nat → Int32} {lo : Nat} {s0 : Int32 × Nat × Nat} {j : Nat} (h : (bbI pf lo s0 j).1 ≤ pf lo (lo + 1 + j)) : bbI pf lo s0 (j + 1) = bbI pf lo s0 j := by rw [bbI, if_neg (fun q => q h)]
def pfA (pr : Int32) (po lS : Nat → Int32) (k : Nat) (x y : Nat) : Int32 := pAf pr po lS x (nI y) k
/-- worstLoss's round -/
def wlR (pp : Nat → Int32) : Nat → Nat × Int32
  | 0 => (0, pp 0)
  | r + 1 => if ¬ pp r ≤ (wlR pp r).2 then (r, pp r) else wlR pp r
theorem wlR_1 (pp : Nat → Int32) : wlR pp 1 = (0, pp 0) := by simp [wlR, Int32.le_refl]
theorem wlR_t {pp : Nat → Int32} {d : Nat} (h : ¬ pp d ≤ (wlR pp d).2) : wlR pp (d + 1) = (d, pp d) := by rw [wlR, if_pos h]
theorem wlR_f {pp : Nat → Int32} {d : Nat} (h : pp d ≤ (wlR pp d).2) : wlR pp (d + 1) = wlR pp d := by rw [wlR, if_neg (fun q => q h)]
def ppR (po lS : Nat → Int32) (a : Nat → Nat) (r : Nat) : Int32 := nI (popc (sqB po lS (a r) r)) * (nI (popc (po (a r))) - nI (popc (sqB po lS (a r) r)))
section RLE
variable {p : Program} {l : Launch} {e : Env} {R : Room} {s : State} {m : MethodId} {args : Array Value} {below : List Frame} {meth : Method} {c : Code} {H : Heap} {locs : List Loc} {cells slots : Nat} {Q : State → Prop}
variable {cc : ByteArray} {pc : Nat} {ls : Array Slot} {rest : List Value}
theorem rk_lcmp_le (hx : p.tables.exec = Jvm.exec) (hb : c.code = cc) {x y : Int64} {off : Int} {tgt : Nat} (hdg : decode cc pc = .ok (.ifCond .le off, 3)) (ht : (pc : Int) + off = (tgt : Int))
    (kt : ¬ y < x → W p l e R s m args below meth c H locs cells slots Q (F0 m tgt ls rest)) (kf : y < x → W p l e R s m args below meth c H locs cells slots Q (F0 m (pc + 3) ls rest)) : W p l e R s m args below meth c H locs cells slots Q (F0 m pc ls (.int (lg_cmp x y) :: rest)) :=
  lv_if_le hx hb hdg ht (fun h => kt (fun q => absurd (lgc_gt.mpr q) (Int32.not_lt.mpr h))) (fun h => kf (lgc_gt.mp (Int32.not_le.mp h)))
theorem rk_lcmp_ge (hx : p.tables.exec = Jvm.exec) (hb : c.code = cc) {x y : Int64} {off : Int} {tgt : Nat} (hdg : decode cc pc = .ok (.ifCond .ge off, 3)) (ht : (pc : Int) + off = (tgt : Int))
    (kt : ¬ x < y → W p l e R s m args below meth c H locs cells slots Q (F0 m tgt ls rest)) (kf : x < y → W p l e R s m args below meth c H locs cells slots Q (F0 m (pc + 3) ls rest)) : W p l e R s m args below meth c H locs cells slots Q (F0 m pc ls (.int (lg_cmp x y) :: rest)) :=
  lv_if_ge hx hb hdg ht (fun h => kt (fun q => absurd (lgc_lt.mpr q) (Int32.not_lt.mpr h))) (fun h => kf (lgc_lt.mp (Int32.not_le.mp h)))
end RLE
