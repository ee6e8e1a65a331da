/-! THE KEPT STATES: history rows (pure) -/
theorem le_lt {x y : Nat} (hx : x < 2 ^ 31) (hy : y < 2 ^ 31) (hne : ¬ x = y) : nI y ≤ nI x ↔ nI y < nI x := by
  rw [Int32.le_iff_toInt_le, Int32.lt_iff_toInt_lt, nI_toInt hx, nI_toInt hy]
  omega
/-- the kept states: row i of the history is the i-th -/
def sel4 (f1 f2 f3 f4 : Nat → Int32) (j : Nat) : Nat → Int32 := if j = 1 then f1 else if j = 2 then f2 else if j = 3 then f3 else f4
def upN (f : Nat → Nat) (i v : Nat) : Nat → Nat := fun j => if j = i then v else f j
def upA (f : Nat → Nat → Nat → Int32) (i : Nat) (g : Nat → Nat → Int32) : Nat → Nat → Nat → Int32 := fun j => if j = i then g else f j
def rt (i : Nat) : Nat := if i = 5 then 0 else i + 1
def rtN (f : Nat → Nat) (v : Nat) : Nat → Nat := fun i => if i = 5 then v else f (i + 1)
def rtA (f : Nat → Nat → Nat → Int32) (g : Nat → Nat → Int32) : Nat → Nat → Nat → Int32 := fun i => if i = 5 then g else f (i + 1)
def cp4 (lo hi le en : Nat → Int32) (g : Nat → Nat → Int32) : Nat → Nat → Int32 := sel4 (va_cpy lo (g 1) 0 0 30) (va_cpy hi (g 2) 0 0 30) (va_cpy le (g 3) 0 0 30) (va_cpy en (g 4) 0 0 30)
def Tw4 (k n : Nat) (g : Nat → Nat → Int32) (A : Nat → Int32) : Prop := TwR k n (g 1) (g 2) (g 3) (g 4) A
def HsR (hc : Nat) (hn hk : Nat → Nat) (ha : Nat → Nat → Nat → Int32) (Hc : Nat → Int32) : Prop := ∀ i, i < hc → Tw4 (hk i) (hn i) (ha i) (hsF Hc (92 * i))
section HST
variable {k n : Nat} {lo hi le en A : Nat → Int32} {hc : Nat} {hn hk : Nat → Nat} {ha : Nat → Nat → Nat → Int32} {Hc : Nat → Int32}
theorem tw_cp4 (t : TwR k n lo hi le en A) (g : Nat → Nat → Int32) {B : Nat → Int32} (e : ∀ j, j < 92 → B j = A j) : Tw4 k n (cp4 lo hi le en g) B := (t.cpy (g 1) (g 2) (g 3) (g 4)).row e
theorem hs_lt (h : HsR hc hn hk ha Hc) (t : TwR k n lo hi le en A) (K : Nat → Int32) : HsR (hc + 1) (upN hn hc n) (upN hk hc k) (upA ha hc (cp4 lo hi le en (ha hc))) (putH Hc (lsf K A 92) (92 * hc) 92) := fun i hi => by
  by_cases e : i = hc
  · subst e
    rw [upN, if_pos rfl, upN, if_pos rfl, upA, if_pos rfl]
    exact tw_cp4 t _ (fun j hj => by rw [hsF, putH, if_pos (by omega), lsf, if_pos (by omega), show 92 * i + j - 92 * i = j by omega])
  · rw [upN, if_neg e, upN, if_neg e, upA, if_neg e]
    exact (h i (by omega)).row (fun j hj => by rw [hsF, putH, if_neg (by omega), hsF])
theorem hs_ge (h : HsR 6 hn hk ha Hc) (t : TwR k n lo hi le en A) (K : Nat → Int32) : HsR 6 (rtN hn n) (rtN hk k) (rtA ha (cp4 lo hi le en (ha 0))) (putH (lsf Hc (shH Hc) 460) (lsf K A 92) (92 * 5) 92) := fun i hi => by
  by_cases e : i = 5
  · subst e
    rw [rtN, if_pos rfl, rtN, if_pos rfl, rtA, if_pos rfl]
    exact tw_cp4 t _ (fun j hj => by rw [hsF, putH, if_pos (by omega), lsf, if_pos (by omega), show 92 * 5 + j - 92 * 5 = j by omega])
  · rw [rtN, if_neg e, rtN, if_neg e, rtA, if_neg e]
    exact (h (i + 1) (by omega)).row (fun j hj => by
      rw [hsF, putH, if_neg (by omega), lsf, if_pos (by omega), shH, hsF]
      congr 1
      omega)
theorem hs_less (h : HsR (hc + 1) hn hk ha Hc) : HsR hc hn hk ha Hc := fun i hi => h i (by omega)
/-- a kept state comes back -/
theorem tw_back {g : Nat → Nat → Int32} {S : Nat → Int32} (t : Tw4 k n g S) (f1 f2 f3 f4 B : Nat → Int32) : TwR k n (va_cpy (g 1) f1 0 0 30) (va_cpy (g 2) f2 0 0 30) (va_cpy (g 3) f3 0 0 30) (va_cpy (g 4) f4 0 0 30) (lsf B S 92) := (TwR.cpy t f1 f2 f3 f4).row (fun j hj => by rw [lsf, if_pos hj])
def SlR (zn zk : Nat → Nat) (za : Nat → Nat → Nat → Int32) (sv mv Sl : Nat → Int32) : Prop := ∀ j, j < 2 → (sv j = 0 ∧ mv j = 0) ∨ (sv j = nI 1 ∧ mv j = nI 1 ∧ Tw4 (zk j) (zn j) (za j) (hsF Sl (92 * j)))
theorem sl_save {zn zk : Nat → Nat} {za : Nat → Nat → Nat → Int32} {sv mv Sl : Nat → Int32} (h : SlR zn zk za sv mv Sl) (t : TwR k n lo hi le en A) {j : Nat} (hj : j < 2) : SlR (upN zn j n) (upN zk j k) (upA za j (cp4 lo hi le en (za j))) (upd sv j (vp_nar .boolean (nI 1))) (upd mv j (nI 1)) (putH Sl A (92 * j) 92) := fun i hi => by
  by_cases e : i = j
  · subst e
    refine Or.inr ⟨by rw [upd, if_pos rfl]; rfl, by rw [upd, if_pos rfl], ?_⟩
    rw [upN, if_pos rfl, upN, if_pos rfl, upA, if_pos rfl]
    exact tw_cp4 t _ (fun q hq => by rw [hsF, putH, if_pos (by omega), show 92 * i + q - 92 * i = q by omega])
  · rw [upd, if_neg e, upd, if_neg e, upN, if_neg e, upN, if_neg e, upA, if_neg e]
    rcases h i hi with z | ⟨z1, z2, z3⟩
    · exact Or.inl z
    · exact Or.inr ⟨z1, z2, TwR.row z3 (fun q hq => by rw [hsF, putH, if_neg (by omega), hsF])⟩
theorem tw_build (h : TwR k n lo hi le en A) (hk : k < 30) {x y z : Nat} (hx : x < n) (hy : y < n) (hne : ¬ x = y) (hz1 : 1 ≤ z) (hz2 : z ≤ 99) : TwR (k + 1) n (upd lo k (if nI y < nI x then nI y else nI x)) (upd hi k (if nI x < nI y then nI y else nI x)) (upd le k (nI z)) (upd en k ((nI 1 <<< (nI x &&& 31)) ||| (nI 1 <<< (nI y &&& 31)))) (adA A k (nI x) (nI y) (nI z)) := by
  have hn := h.1.2.2
  have c1 := le_lt (x := x) (y := y) (by omega) (by omega) hne
  refine TwR.ad h hk hx hy hne hz1 hz2 (fun r _ => ?_) (fun r _ => ?_) (fun r _ => rfl) (fun r _ => rfl)
  · rw [upd]
    by_cases c : nI y ≤ nI x
    · rw [if_pos (c1.mp c), if_pos c]
    · rw [if_neg (fun w => c (c1.mpr w)), if_neg c]
  · rw [upd]
    by_cases c : nI y ≤ nI x
    · rw [if_neg (Int32.not_lt.mpr c), if_pos c]
    · rw [if_pos (Int32.not_le.mp c), if_neg c]
theorem tw_lose (h : TwR k n lo hi le en A) {q : Nat} (hq : q < k) : TwR (k - 1) n (shl1 lo q k) (shl1 hi q k) (shl1 le q k) (shl1 en q k) (loA A q k) := by
  have key : ∀ f : Nat → Int32, ∀ r, r < k - 1 → shl1 f q k r = if q ≤ r then f (r + 1) else f r := fun f r hr => by
    rw [shl1]
    by_cases c : q ≤ r
    · rw [if_pos ⟨c, by omega⟩, if_pos c]
    · rw [if_neg (fun w => c w.1), if_neg c]
  exact TwR.less h hq (key lo) (key hi) (key le) (key en)
end HST
