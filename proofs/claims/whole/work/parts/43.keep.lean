/-! READ, PUT, the history and the slots, on both sides (pure) -/
theorem amL_cong {f u v : Nat → Int32} {k : Nat} : ∀ w, (∀ i, i < w → u i = v i) → amL f u k w = amL f v k w
  | 0, _ => rfl
  | w + 1, h => by rw [amL, amL, amL_cong w (fun i hi => h i (by omega)), h w (by omega)]
section RDK
variable {k n : Nat} {lo hi le en A : Nat → Int32} {G : Int32 × Int32 × Nat × (Nat → Int32)} {F : Int32 × Nat × Int32 × Nat × (Nat → Int32)}
theorem read_res (hp : PsR G F) (hF : F.1 = -6) (sc : Int32) : G.1 = -6 ∧ G.2.2.1 ≤ 80 ∧ 3 * (G.2.2.1 / 3) ≤ 78 ∧ G.2.2.1 / 3 = F.2.2.2.1 ∧ 3 * F.2.2.2.1 ≤ 58 ∧ anyB (eP1 G.2.2.2 sc) (G.2.2.1 / 3) = anyB (eP1 F.2.2.2.2 sc) F.2.2.2.1 ∧ anyB (eP2 G.2.2.2) (G.2.2.1 / 3) = anyB (eP2 F.2.2.2.2) F.2.2.2.1 := by
  obtain ⟨h1, h2⟩ := hp
  obtain ⟨h3, h4, h5, -⟩ := h2 hF
  have h6 : G.2.2.1 / 3 = F.2.2.2.1 := by omega
  refine ⟨h1.trans hF, by omega, by omega, h6, by omega, ?_, ?_⟩
  · rw [h6]
    exact anyB_cong _ (fun i hi => by rw [eP1, eP1, h5 (3 * i) (by omega), h5 (3 * i + 1) (by omega)])
  · rw [h6]
    exact anyB_cong _ (fun i hi => by rw [eP2, eP2, h5 (3 * i) (by omega), h5 (3 * i + 1) (by omega)])
theorem read_tw (h : TwR k n lo hi le en A) (hp : PsR G F) (hF : F.1 = -6) (hk : k + F.2.2.2.1 ≤ 30) (h1 : anyB (eP1 F.2.2.2.2 (nI n)) F.2.2.2.1 = false) (h2 : anyB (eP2 F.2.2.2.2) F.2.2.2.1 = false) :
    TwR (k + G.2.2.1 / 3) n (amL lo (vMn G.2.2.2) k (G.2.2.1 / 3)) (amL hi (vMx G.2.2.2) k (G.2.2.1 / 3)) (amL le (vLe G.2.2.2) k (G.2.2.1 / 3)) (amL en (vEn G.2.2.2) k (G.2.2.1 / 3)) (adM A k F.2.2.2.2 F.2.2.2.1) := by
  obtain ⟨-, -, -, h6, -⟩ := read_res hp hF (nI n)
  obtain ⟨-, hv⟩ := hp
  obtain ⟨-, -, hf, hv⟩ := hv hF
  rw [h6]
  have e1 : amL lo (vMn G.2.2.2) k F.2.2.2.1 = amL lo (vMn F.2.2.2.2) k F.2.2.2.1 := amL_cong _ (fun i hi => by rw [vMn, vMn, hf (3 * i) (by omega), hf (3 * i + 1) (by omega)])
  have e2 : amL hi (vMx G.2.2.2) k F.2.2.2.1 = amL hi (vMx F.2.2.2.2) k F.2.2.2.1 := amL_cong _ (fun i hi => by rw [vMx, vMx, hf (3 * i) (by omega), hf (3 * i + 1) (by omega)])
  have e3 : amL le (vLe G.2.2.2) k F.2.2.2.1 = amL le (vLe F.2.2.2.2) k F.2.2.2.1 := amL_cong _ (fun i hi => by rw [vLe, vLe, hf (3 * i + 2) (by omega)])
  have e4 : amL en (vEn G.2.2.2) k F.2.2.2.1 = amL en (vEn F.2.2.2.2) k F.2.2.2.1 := amL_cong _ (fun i hi => by rw [vEn, vEn, hf (3 * i) (by omega), hf (3 * i + 1) (by omega)])
  rw [e1, e2, e3, e4]
  have hn := h.1.2.2
  refine TwR.am h _ hk (fun t ht => ?_)
  obtain ⟨x, y, z, hx, hy, hz1, hz2, ex, ey, ez⟩ := hv t ht
  have a1 := anyB_no h1 t ht
  have a2 := anyB_no h2 t ht
  rw [eP1, ex, ey] at a1
  rw [eP2, ex, ey, decide_eq_false_iff_not] at a2
  have i1 : inR (nI x) (nI n) = true := by
    cases hc : inR (nI x) (nI n) with
    | true => rfl
    | false => rw [hc] at a1; cases a1
  have i2 : inR (nI y) (nI n) = true := by
    cases hc : inR (nI y) (nI n) with
    | true => rfl
    | false => rw [hc, i1] at a1; cases a1
  obtain ⟨x', hx', e'⟩ := inR_ex (by omega) i1
  obtain ⟨y', hy', e2'⟩ := inR_ex (by omega) i2
  rw [nI_eq (by omega) (by omega)] at e' e2'
  exact ⟨x, y, z, by omega, by omega, fun q => a2 (by rw [q]), hz1, hz2, ex, ey, ez⟩
end RDK
/-- characters put -/
theorem apM_cong {f g : Nat → Int32} {L : Nat} {x : Int64} {w : Nat} (h : ∀ j, j < L → f j = g j) : ∀ m j, j < L + m → apM f L x w m j = apM g L x w m j
  | 0, j, hj => h j (by omega)
  | m + 1, j, hj => by
    simp only [apM, upd]
    by_cases e : j = L + m
    · rw [if_pos e, if_pos e]
    · rw [if_neg e, if_neg e]
      exact apM_cong h m j (by omega)
theorem put_bad {x : Int64} (h : chG x 0 8 = 0) : (mcF x true 0 8).2.2 = 0 ∨ ¬ (mcF x true 0 8).1 = 0 ∨ (mcF x true 0 8).2.1 = false := by
  rw [ch_8] at h
  by_cases h1 : (mcF x true 0 8).1 = 0
  · cases h2 : (mcF x true 0 8).2.1 with
    | false => exact Or.inr (Or.inr rfl)
    | true =>
      rw [if_pos ⟨h1, h2⟩] at h
      exact Or.inl h
  · exact Or.inr (Or.inl h1)
theorem put_good {x : Int64} (h : ¬ chG x 0 8 = 0) : (mcF x true 0 8).1 = 0 ∧ (mcF x true 0 8).2.1 = true ∧ chG x 0 8 = (mcF x true 0 8).2.2 := by
  rw [ch_8] at h ⊢
  by_cases h1 : (mcF x true 0 8).1 = 0 ∧ (mcF x true 0 8).2.1 = true
  · rw [if_pos h1]
    exact ⟨h1.1, h1.2, rfl⟩
  · rw [if_neg h1] at h
    exact absurd rfl h
/-- the kept states: row i of the history is the i-th -/
def sel4 (f1 f2 f3 f4 : Nat → Int32) (j : Nat) : Nat → Int32 := if j = 1 then f1 else if j = 2 then f2 else if j = 3 then f3 else f4
def upN (f : Nat → Nat) (i v : Nat) : Nat → Nat := fun j => if j = i then v else f j
def upA (f : Nat → Nat → Nat → Int32) (i : Nat) (g : Nat → Nat → Int32) : Nat → Nat → Nat → Int32 := fun j => if j = i then g else f j
def rt (i : Nat) : Nat := if i = 5 then 0 else i + 1
def rtN (f : Nat → Nat) (v : Nat) : Nat → Nat := fun i => if i = 5 then v else f (i + 1)
def rtA (f : Nat → Nat → Nat → Int32) (g : Nat → Nat → Int32) : Nat → Nat → Nat → Int32 := fun i => if i = 5 then g else f (i + 1)
def cp4 (lo hi le en : Nat → Int32) (g : Nat → Nat → Int32) : Nat → Nat → Int32 := sel4 (va_cpy lo (g 1) 0 0 30) (va_cpy hi (g 2) 0 0 30) (va_cpy le (g 3) 0 0 30) (va_cpy en (g 4) 0 0 30)
def Tw4 (k n : Nat) (g : Nat → Nat → Int32) (A : Nat → Int32) : Prop := TwR k n (g 1) (g 2) (g 3) (g 4) A
def HsR (hc : Nat) (hn hk : Nat → Nat) (ha : Nat → Nat → Nat → Int32) (Hc : Nat → Int32) : Prop := ∀ i, i < hc → Tw4 (hk i) (hn i) (ha i) (hsF Hc (92 * i))
section HST
variable {k n : Nat} {lo hi le en A : Nat → Int32} {hc : Nat} {hn hk : Nat → Nat} {ha : Nat → Nat → Nat → Int32} {Hc : Nat → Int32}
theorem tw_cp4 (t : TwR k n lo hi le en A) (g : Nat → Nat → Int32) {B : Nat → Int32} (e : ∀ j, j < 92 → B j = A j) : Tw4 k n (cp4 lo hi le en g) B := (t.cpy (g 1) (g 2) (g 3) (g 4)).row e
theorem hs_lt (h : HsR hc hn hk ha Hc) (t : TwR k n lo hi le en A) (K : Nat → Int32) : HsR (hc + 1) (upN hn hc n) (upN hk hc k) (upA ha hc (cp4 lo hi le en (ha hc))) (putH Hc (lsf K A 92) (92 * hc) 92) := fun i hi => by
  by_cases e : i = hc
  · subst e
    rw [upN, if_pos rfl, upN, if_pos rfl, upA, if_pos rfl]
    exact tw_cp4 t _ (fun j hj => by rw [hsF, putH, if_pos (by omega), lsf, if_pos (by omega), show 92 * i + j - 92 * i = j by omega])
  · rw [upN, if_neg e, upN, if_neg e, upA, if_neg e]
    exact (h i (by omega)).row (fun j hj => by rw [hsF, putH, if_neg (by omega), hsF])
theorem hs_ge (h : HsR 6 hn hk ha Hc) (t : TwR k n lo hi le en A) (K : Nat → Int32) : HsR 6 (rtN hn n) (rtN hk k) (rtA ha (cp4 lo hi le en (ha 0))) (putH (lsf Hc (shH Hc) 460) (lsf K A 92) (92 * 5) 92) := fun i hi => by
  by_cases e : i = 5
  · subst e
    rw [rtN, if_pos rfl, rtN, if_pos rfl, rtA, if_pos rfl]
    exact tw_cp4 t _ (fun j hj => by rw [hsF, putH, if_pos (by omega), lsf, if_pos (by omega), show 92 * 5 + j - 92 * 5 = j by omega])
  · rw [rtN, if_neg e, rtN, if_neg e, rtA, if_neg e]
    exact (h (i + 1) (by omega)).row (fun j hj => by
      rw [hsF, putH, if_neg (by omega), lsf, if_pos (by omega), shH, hsF]
      congr 1
      omega)
theorem hs_less (h : HsR (hc + 1) hn hk ha Hc) : HsR hc hn hk ha Hc := fun i hi => h i (by omega)
/-- a kept state comes back -/
theorem tw_back {g : Nat → Nat → Int32} {S : Nat → Int32} (t : Tw4 k n g S) (f1 f2 f3 f4 B : Nat → Int32) : TwR k n (va_cpy (g 1) f1 0 0 30) (va_cpy (g 2) f2 0 0 30) (va_cpy (g 3) f3 0 0 30) (va_cpy (g 4) f4 0 0 30) (lsf B S 92) := (TwR.cpy t f1 f2 f3 f4).row (fun j hj => by rw [lsf, if_pos hj])
def SlR (zn zk : Nat → Nat) (za : Nat → Nat → Nat → Int32) (sv mv Sl : Nat → Int32) : Prop := ∀ j, j < 2 → (sv j = 0 ∧ mv j = 0) ∨ (sv j = nI 1 ∧ mv j = nI 1 ∧ Tw4 (zk j) (zn j) (za j) (hsF Sl (92 * j)))
theorem sl_save {zn zk : Nat → Nat} {za : Nat → Nat → Nat → Int32} {sv mv Sl : Nat → Int32} (h : SlR zn zk za sv mv Sl) (t : TwR k n lo hi le en A) {j : Nat} (hj : j < 2) : SlR (upN zn j n) (upN zk j k) (upA za j (cp4 lo hi le en (za j))) (upd sv j (vp_nar .boolean (nI 1))) (upd mv j (nI 1)) (putH Sl A (92 * j) 92) := fun i hi => by
  by_cases e : i = j
  · subst e
    refine Or.inr ⟨by rw [upd, if_pos rfl]; rfl, by rw [upd, if_pos rfl], ?_⟩
    rw [upN, if_pos rfl, upN, if_pos rfl, upA, if_pos rfl]
    exact tw_cp4 t _ (fun q hq => by rw [hsF, putH, if_pos (by omega), show 92 * i + q - 92 * i = q by omega])
  · rw [upd, if_neg e, upd, if_neg e, upN, if_neg e, upN, if_neg e, upA, if_neg e]
    rcases h i hi with z | ⟨z1, z2, z3⟩
    · exact Or.inl z
    · exact Or.inr ⟨z1, z2, TwR.row z3 (fun q hq => by rw [hsF, putH, if_neg (by omega), hsF])⟩
theorem tw_build (h : TwR k n lo hi le en A) (hk : k < 30) {x y z : Nat} (hx : x < n) (hy : y < n) (hne : ¬ x = y) (hz1 : 1 ≤ z) (hz2 : z ≤ 99) : TwR (k + 1) n (upd lo k (if nI y < nI x then nI y else nI x)) (upd hi k (if nI x < nI y then nI y else nI x)) (upd le k (nI z)) (upd en k ((nI 1 <<< (nI x &&& 31)) ||| (nI 1 <<< (nI y &&& 31)))) (adA A k (nI x) (nI y) (nI z)) := by
  have hn := h.1.2.2
  have c1 := le_lt (x := x) (y := y) (by omega) (by omega) hne
  refine TwR.ad h hk hx hy hne hz1 hz2 (fun r _ => ?_) (fun r _ => ?_) (fun r _ => rfl) (fun r _ => rfl)
  · rw [upd]
    by_cases c : nI y ≤ nI x
    · rw [if_pos (c1.mp c), if_pos c]
    · rw [if_neg (fun w => c (c1.mpr w)), if_neg c]
  · rw [upd]
    by_cases c : nI y ≤ nI x
    · rw [if_neg (Int32.not_lt.mpr c), if_pos c]
    · rw [if_pos (Int32.not_le.mp c), if_neg c]
theorem tw_lose (h : TwR k n lo hi le en A) {q : Nat} (hq : q < k) : TwR (k - 1) n (shl1 lo q k) (shl1 hi q k) (shl1 le q k) (shl1 en q k) (loA A q k) := by
  have key : ∀ f : Nat → Int32, ∀ r, r < k - 1 → shl1 f q k r = if q ≤ r then f (r + 1) else f r := fun f r hr => by
    rw [shl1]
    by_cases c : q ≤ r
    · rw [if_pos ⟨c, by omega⟩, if_pos c]
    · rw [if_neg (fun w => c w.1), if_neg c]
  exact TwR.less h hq (key lo) (key hi) (key le) (key en)
end HST
