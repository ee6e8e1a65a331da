/-! the reference's functions, on -/
def inL (v lo hi : Int64) : Bool := !decide (v < lo) && !decide (hi < v)
theorem inL_t {v lo hi : Int64} (h1 : ¬ v < lo) (h2 : ¬ hi < v) : inL v lo hi = true := by rw [inL, decide_eq_false h1, decide_eq_false h2]; rfl
theorem inL_f1 {v lo hi : Int64} (h1 : v < lo) : inL v lo hi = false := by rw [inL, decide_eq_true h1]; rfl
theorem inL_f2 {v lo hi : Int64} (h2 : hi < v) : inL v lo hi = false := by rw [inL, decide_eq_true h2]; simp
theorem inLw (w : Int32) (a b : Nat) (ha : a < 2 ^ 31) (hb : b < 2 ^ 31) : inL w.toInt64 (lN a) (lN b) = (!decide (w < nI a) && !decide (nI b < w)) := by
  have e1 : (w.toInt64 < lN a) ↔ (w < nI a) := by rw [Int64.lt_iff_toInt_lt, Int32.lt_iff_toInt_lt, Int32.toInt_toInt64, lN_toInt ha, nI_toInt ha]
  have e2 : (lN b < w.toInt64) ↔ (nI b < w) := by rw [Int64.lt_iff_toInt_lt, Int32.lt_iff_toInt_lt, Int32.toInt_toInt64, lN_toInt hb, nI_toInt hb]
  rw [inL, decide_eq_decide.mpr e1, decide_eq_decide.mpr e2]
theorem inLw_t {w : Int32} {a b : Nat} (ha : a < 2 ^ 31) (hb : b < 2 ^ 31) (h1 : ¬ w < nI a) (h2 : ¬ nI b < w) : inL w.toInt64 (lN a) (lN b) = true := by rw [inLw w a b ha hb, decide_eq_false h1, decide_eq_false h2]; rfl
theorem inLw_f {w : Int32} {a b : Nat} (ha : a < 2 ^ 31) (hb : b < 2 ^ 31) (h : w < nI a ∨ nI b < w) : inL w.toInt64 (lN a) (lN b) = false := by
  rw [inLw w a b ha hb]
  rcases h with h | h
  · rw [decide_eq_true h]; rfl
  · rw [decide_eq_true h]; simp
theorem inLn_t {w a b : Nat} (hb : b < 2 ^ 31) (h1 : a ≤ w) (h2 : w ≤ b) : inL (nI w).toInt64 (lN a) (lN b) = true :=
  inLw_t (by omega) hb (nI_nlt h1 (by omega)) (nI_nlt h2 hb)
theorem inL_R {x : Int32} {n : Nat} (hn : n < 2 ^ 31) : inL x.toInt64 0 ((nI n).toInt64 - 1) = inR x (nI n) := by
  have e0 : ((nI n).toInt64 - 1).toInt = (n : Int) - 1 := by
    rw [nI_l hn, Int64.toInt_sub, lN_toInt hn]
    show ((n : Int) - 1).bmod (2 ^ 64) = _
    rw [Int.bmod_eq_of_le (by omega) (by omega)]
  have e1 : (x.toInt64 < 0) ↔ (x < 0) := by
    rw [Int64.lt_iff_toInt_lt, Int32.lt_iff_toInt_lt, Int32.toInt_toInt64]
    exact Iff.rfl
  have e2 : ((nI n).toInt64 - 1 < x.toInt64) ↔ (nI n ≤ x) := by
    rw [Int64.lt_iff_toInt_lt, Int32.le_iff_toInt_le, Int32.toInt_toInt64, e0, nI_toInt hn]
    omega
  rw [inL, inR, decide_eq_decide.mpr e1, decide_eq_decide.mpr e2]
/-- the history of rows of 92 -/
def shH (H : Nat → Int32) : Nat → Int32 := fun j => H (j + 92)
def putH (H K : Nat → Int32) (o i : Nat) : Nat → Int32 := fun j => if o ≤ j ∧ j < o + i then K (j - o) else H j
theorem putH_0 (H K : Nat → Int32) (o : Nat) : putH H K o 0 = H := by
  funext j
  rw [putH, if_neg (by omega)]
theorem putH_1 (H K : Nat → Int32) (o i : Nat) : upd (putH H K o i) (o + i) (K i) = putH H K o (i + 1) := by
  funext j
  by_cases hj : j = o + i
  · subst hj
    simp only [upd, if_true, putH]
    rw [if_pos (by omega)]
    congr 1
    omega
  · simp only [upd, if_neg hj, putH]
    have e : (o ≤ j ∧ j < o + (i + 1)) ↔ (o ≤ j ∧ j < o + i) := by omega
    simp only [e]
theorem lsf_sh (H : Nat → Int32) (i : Nat) : upd (lsf H (shH H) i) i (lsf H (shH H) i (i + 92)) = lsf H (shH H) (i + 1) := by
  have e : lsf H (shH H) i (i + 92) = shH H i := by rw [lsf, if_neg (by omega)]; rfl
  rw [e]
  exact lsf_1 H (shH H) i
def rsMd (A : Nat → Int32) (w : Int32) (k : Nat) : Nat → Int32 := rsM A w (-6) k
def pwM (g : Nat → Int32) (z : Int32) : Nat → Nat
  | 0 => 0
  | q + 1 => if ¬ nI q = z ∧ (g q &&& ((nI 1 <<< (nI q &&& 31)) - nI 1)) = 0 then pwM g z q + 1 else pwM g z q
theorem pwM_le (g : Nat → Int32) (z : Int32) : ∀ q, pwM g z q ≤ q
  | 0 => Nat.le_refl 0
  | q + 1 => by
    have h := pwM_le g z q
    simp only [pwM]
    split <;> omega
def piM (A : Nat → Int32) (k n : Nat) : Nat := pwM (rsM A (nI 0) (-6) k) (-6) n
def ptM (A : Nat → Int32) (k r : Nat) : Bool := !cnt (rsM A (nI 1 <<< (nI r &&& 31)) (-6) k (mlo A r)) (nI (mhi A r))
def pgM (A : Nat → Int32) (k : Nat) : Nat → Int32
  | 0 => nI 0
  | r + 1 => if ptM A k r = true then pgM A k r ||| (nI 1 <<< (nI r &&& 31)) else pgM A k r
def plM (A : Nat → Int32) (k r : Nat) : Nat := if ptM A k r = true then popc (rsM A (nI 1 <<< (nI r &&& 31)) (-6) k (mlo A r)) * popc (rsM A (nI 1 <<< (nI r &&& 31)) (-6) k (mhi A r)) else 0
def mpM (A : Nat → Int32) (k n x : Nat) : Int32 := nI (pwM (rsM A (nI 0) (nI x) k) (nI x) n) - (nI (piM A k n) - (if rsM A (nI 0) (-6) k x = nI 1 <<< (nI x &&& 31) then nI 1 else nI 0))
def byM (A : Nat → Int32) (w : Int32) (bl : Bool) (r : Nat) : Int32 := if cnt w (nI r) = true then nI 100000 else if bl = true then A (62 + r) else nI 1
def shoM (g : Nat → Int32) (f t : Nat) (w : Int32) : Nat → Int32 := upd g t (if g t ≤ g f + w then g t else g f + w)
theorem shoM_t {g : Nat → Int32} {f t : Nat} {w : Int32} (h : g t ≤ g f + w) : upd g t (g t) = shoM g f t w := by rw [shoM, if_pos h]
theorem shoM_f {g : Nat → Int32} {f t : Nat} {w : Int32} (h : ¬ g t ≤ g f + w) : upd g t (g f + w) = shoM g f t w := by rw [shoM, if_neg h]
def fpM (A : Nat → Int32) (w : Int32) (bl : Bool) (g : Nat → Int32) : Nat → (Nat → Int32)
  | 0 => g
  | r + 1 => shoM (shoM (fpM A w bl g r) (mlo A r) (mhi A r) (byM A w bl r)) (mhi A r) (mlo A r) (byM A w bl r)
def frM (A : Nat → Int32) (w : Int32) (bl : Bool) (g : Nat → Int32) (k : Nat) : Nat → (Nat → Int32)
  | 0 => g
  | j + 1 => fpM A w bl (frM A w bl g k j) k
def fiM (f : Nat → Int32) (q i : Nat) : Nat → Int32 := fun j => if j < i then (if j = q then nI 0 else nI 100000) else f j
theorem fiM_0 (f : Nat → Int32) (q : Nat) : fiM f q 0 = f := by funext j; simp [fiM]
theorem fiM_1 {f : Nat → Int32} {q i : Nat} {v : Int32} (h : v = if i = q then nI 0 else nI 100000) : upd (fiM f q i) i v = fiM f q (i + 1) := by
  funext j
  by_cases hj : j = i
  · subst hj; simp [upd, fiM, h]
  · simp only [upd, if_neg hj, fiM]
    have e : j < i + 1 ↔ j < i := by omega
    simp only [e]
def farM (A : Nat → Int32) (w : Int32) (bl : Bool) (F : Nat → Int32) (k q : Nat) : Nat → Int32 := frM A w bl (fiM F q 16) k 16
def dbM (A : Nat → Int32) (k x : Nat) : Nat := pwM (rsM A (pgM A k k) (-6) k) (-6) x
/-- the squares of the d-th district -/
def sqF (g : Nat → Int32) (d : Nat) : Nat → Nat → Nat → Int32
  | _, _, 0 => nI 0
  | q, c, n + 1 => if (g q &&& ((nI 1 <<< (nI q &&& 31)) - nI 1)) = 0 then (if c = d then g q else sqF g d (q + 1) (c + 1) n) else sqF g d (q + 1) c n
def sqM (A : Nat → Int32) (k n d : Nat) : Int32 := sqF (rsM A (pgM A k k) (-6) k) d 0 0 n
theorem sqF_hit {g : Nat → Int32} {d q c n : Nat} (hn : 0 < n) (h : (g q &&& ((nI 1 <<< (nI q &&& 31)) - nI 1)) = 0) (h2 : c = d) : g q = sqF g d q c n := by
  obtain ⟨j, rfl⟩ : ∃ j, n = j + 1 := ⟨n - 1, by omega⟩
  rw [sqF, if_pos h, if_pos h2]
theorem sqF_s1 {g : Nat → Int32} {d q c n n' : Nat} (hn : n = n' + 1) (h : (g q &&& ((nI 1 <<< (nI q &&& 31)) - nI 1)) = 0) (h2 : ¬ c = d) : sqF g d q c n = sqF g d (q + 1) (c + 1) n' := by
  subst hn
  rw [sqF, if_pos h, if_neg h2]
theorem sqF_s2 {g : Nat → Int32} {d q c n n' : Nat} (hn : n = n' + 1) (h : ¬ (g q &&& ((nI 1 <<< (nI q &&& 31)) - nI 1)) = 0) : sqF g d q c n = sqF g d (q + 1) c n' := by
  subst hn
  rw [sqF, if_neg h]
theorem sqF_e {g : Nat → Int32} {d q c n : Nat} (hn : n = 0) : nI 0 = sqF g d q c n := by subst hn; rfl
def rwM (A : Nat → Int32) (st : Int32) : Nat → Nat
  | 0 => 0
  | r + 1 => if (enM A r &&& st) = enM A r then rwM A st r + 1 else rwM A st r
def lwM (A : Nat → Int32) (st : Int32) : Nat → Int32
  | 0 => nI 0
  | r + 1 => if (enM A r &&& st) = enM A r then lwM A st r + A (62 + r) else lwM A st r + nI 0
def roM (A : Nat → Int32) (st : Int32) : Nat → Nat
  | 0 => 0
  | r + 1 => if ¬ (enM A r &&& st) = 0 ∧ ¬ (enM A r &&& st) = enM A r then roM A st r + 1 else roM A st r
theorem roM_le (A : Nat → Int32) (st : Int32) : ∀ r, roM A st r ≤ r
  | 0 => Nat.le_refl 0
  | r + 1 => by
    have h := roM_le A st r
    simp only [roM]
    split <;> omega
def ldM (ln : Nat → Int32) : Nat → Nat × Int32
  | 0 => (0, -1)
  | d + 1 => if ¬ ln d ≤ (ldM ln d).2 then (d, ln d) else ldM ln d
theorem ldM_t {ln : Nat → Int32} {d : Nat} (h : ¬ ln d ≤ (ldM ln d).2) : ldM ln (d + 1) = (d, ln d) := by rw [ldM, if_pos h]
theorem ldM_f {ln : Nat → Int32} {d : Nat} (h : ln d ≤ (ldM ln d).2) : ldM ln (d + 1) = ldM ln d := by rw [ldM, if_neg (fun q => q h)]
def dlM (A : Nat → Int32) (k n d : Nat) : Int32 := lwM A (sqM A k n d) k
def hgM (A : Nat → Int32) (k x : Nat) (y : Int32) : Bool := cnt (rsM A (nI 0) (-6) k x) y
def muM (A : Nat → Int32) (k x : Nat) (y : Int32) : Nat → Int32
  | 0 => nI 0
  | r + 1 => if cnt (rsM A (nI 1 <<< (nI r &&& 31)) (-6) k x) y = true then muM A k x y r else muM A k x y r ||| (nI 1 <<< (nI r &&& 31))
theorem cnt_1 {x y : Int32} (h : ((x >>> (y &&& 31)) &&& nI 1) = nI 1) : cnt x y = true := cnt_t (fun q => absurd (h.symm.trans q) (by decide))
theorem and1 (z : Int32) : (z &&& nI 1) = 0 ∨ (z &&& nI 1) = nI 1 := by
  have h : ∀ i, i < 32 → bt (nI 1) i = decide (i = 0) := by decide +kernel
  by_cases hz : bt z 0 = true
  · refine Or.inr (b_ext (fun i hi => ?_))
    rw [b_and, h i hi]
    by_cases e : i = 0
    · subst e; rw [hz]; rfl
    · rw [decide_eq_false e, Bool.and_false]
  · refine Or.inl (b_ext (fun i hi => ?_))
    rw [b_and, h i hi, b_0]
    by_cases e : i = 0
    · subst e; rw [Bool.not_eq_true _ |>.mp hz]; rfl
    · rw [decide_eq_false e, Bool.and_false]
theorem cnt_0 {x y : Int32} (h : ¬ ((x >>> (y &&& 31)) &&& nI 1) = nI 1) : cnt x y = false := cnt_f ((and1 _).resolve_right h)
theorem popc_0 : popc 0 = 0 := by decide
theorem mrG_s1 {al : Nat → Bool} {en : Nat → Int32} {k q j : Nat} (h : rG al en k q (j + 1) = rG al en k q j) : false = mrG al en k q (j + 1) := by simp only [mrG]; rw [decide_eq_true h]; rfl
theorem mrG_s2 {al : Nat → Bool} {en : Nat → Int32} {k q j : Nat} (h : ¬ rG al en k q (j + 1) = rG al en k q j) : true = mrG al en k q (j + 1) := by simp only [mrG]; rw [decide_eq_false h]; rfl
theorem gsmM {A : Nat → Int32} {k : Nat} (h : okA A k) : ∀ i, 16 ≤ i → i < 32 → ∀ r, r < k → bt (enM A r) i = false := fun _ h1 h2 _ hr => enM_small h hr h1 h2
theorem nI_m6 : ∀ q, q < 32 → ¬ nI q = -6 := by decide +kernel
theorem byM1 {A : Nat → Int32} {w : Int32} {bl : Bool} {r : Nat} (h : cnt w (nI r) = true) : byM A w bl r = nI 100000 := by rw [byM, if_pos h]
theorem byM2 {A : Nat → Int32} {w : Int32} {r : Nat} (h : cnt w (nI r) = false) : byM A w true r = A (62 + r) := by rw [byM, if_neg (by rw [h]; decide), if_pos rfl]
theorem byM3 {A : Nat → Int32} {w : Int32} {r : Nat} (h : cnt w (nI r) = false) : byM A w false r = nI 1 := by rw [byM, if_neg (by rw [h]; decide), if_neg (by decide)]
def lrM (v : Int32) : Int32 := if v < nI 100000 then v + nI 1 else -6
theorem lwF_s {x : Int32} {q n n' : Nat} (hn : n = n' + 1) (h : cnt x (nI q) = false) : lwF x q n = lwF x (q + 1) n' := by
  subst hn
  rw [lwF, if_neg (by rw [h]; decide)]
theorem lwF_h {x : Int32} {q n : Nat} (hn : 0 < n) (h : cnt x (nI q) = true) : lwF x q n = q := by
  obtain ⟨j, rfl⟩ : ∃ j, n = j + 1 := ⟨n - 1, by omega⟩
  rw [lwF, if_pos h]
theorem cnt_bt {x : Int32} {i : Nat} (hi : i < 32) : cnt x (nI i) = bt x i := by
  have h1 : ∀ j, j < 32 → bt (nI 1) j = decide (j = 0) := by decide +kernel
  have e : bt ((x >>> (nI i &&& 31)) &&& nI 1) 0 = bt x i := by
    rw [b_and, b_sshr i hi x (by omega), if_pos (by omega), h1 0 (by omega), decide_eq_true rfl, Bool.and_true, Nat.add_zero]
  rcases and1 (x >>> (nI i &&& 31)) with h | h
  · rw [cnt_f h, ← e, h]; decide
  · rw [cnt_1 h, ← e, h]; decide
theorem rsM_self {A : Nat → Int32} {w z : Int32} {k q : Nat} (hq : q < 16) : cnt (rsM A w z k q) (nI q) = true := by
  rw [cnt_bt (by omega)]
  have h0 : bt (nI 1 <<< (nI q &&& 31)) q = true := by rw [bit_bt (by omega) (by omega), decide_eq_true rfl]
  have h : ∀ j, bt (rG (alM A w z) (enM A) k q j) q = true := fun j => by
    induction j with
    | zero => exact h0
    | succ j ih => exact psG_mono ih k
  exact h 16
theorem lwF_le {x : Int32} {t : Nat} (h : cnt x (nI t) = true) : ∀ n q, q ≤ t → t < q + n → lwF x q n ≤ t
  | 0, q, h1, h2 => by omega
  | n + 1, q, h1, h2 => by
    simp only [lwF]
    split
    · exact h1
    · rename_i h3
      have h4 : ¬ q = t := fun e => h3 (by rw [e]; exact h)
      exact lwF_le h n (q + 1) (by omega) (by omega)
