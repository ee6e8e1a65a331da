/-! THE SURVEY'S FUNCTIONS (pure) -/
def bcnt (p : Nat → Bool) : Nat → Nat
  | 0 => 0
  | n + 1 => bcnt p n + (if p n then 1 else 0)
/-- how many bits of an int are set -/
def popc (x : Int32) : Nat := bcnt (fun i => x.toBitVec.getLsbD i) 32
theorem bcnt_le (p : Nat → Bool) : ∀ n, bcnt p n ≤ n
  | 0 => Nat.le_refl 0
  | n + 1 => by
    have h := bcnt_le p n
    simp only [bcnt]
    split <;> omega
theorem popc_lt (x : Int32) : popc x < 2 ^ 31 := Nat.lt_of_le_of_lt (bcnt_le _ 32) (by decide)
def swP (g : Nat → Int32) (po : Nat → Int32) : Nat → Int32 × Nat × (Nat → Int32)
  | 0 => (nI 0, 0, po)
  | q + 1 => if cnt (swP g po q).1 (nI q) = true then swP g po q else ((swP g po q).1 ||| g q, (swP g po q).2.1 + 1, sfm (swP g po q).2.2 (g q) (g q) 16)
def swD (g : Nat → Int32) (dO dS : Nat → Int32) : Nat → Int32 × Nat × (Nat → Int32) × (Nat → Int32)
  | 0 => (nI 0, 0, dO, dS)
  | q + 1 => if cnt (swD g dO dS q).1 (nI q) = true then swD g dO dS q else ((swD g dO dS q).1 ||| g q, (swD g dO dS q).2.1 + 1, sfm (swD g dO dS q).2.2.1 (g q) (nI (swD g dO dS q).2.1) 16, upd (swD g dO dS q).2.2.2 (swD g dO dS q).2.1 (g q))
theorem swD_le (g : Nat → Int32) (dO dS : Nat → Int32) : ∀ q, (swD g dO dS q).2.1 ≤ q
  | 0 => Nat.le_refl 0
  | q + 1 => by
    have h := swD_le g dO dS q
    simp only [swD]
    split
    · omega
    · exact Nat.succ_le_succ h
theorem swP_le (g : Nat → Int32) (po : Nat → Int32) : ∀ q, (swP g po q).2.1 ≤ q
  | 0 => Nat.le_refl 0
  | q + 1 => by
    have h := swP_le g po q
    simp only [swP]
    split
    · omega
    · exact Nat.succ_le_succ h
/-- the roads but one -/
def aRx (k r : Nat) : Int32 := allR (nI k) &&& ((nI 1 <<< (nI r &&& 31)) ^^^ (-1))
def sdR (en : Nat → Int32) (k : Nat) (a : Nat → Nat) (r : Nat) : Int32 := rsC en (aRx k r) k (a r)
def lsf (f sd : Nat → Int32) (i : Nat) : Nat → Int32 := fun j => if j < i then sd j else f j
theorem lsf_0 (f sd : Nat → Int32) : lsf f sd 0 = f := by funext j; simp [lsf]
theorem lsf_1 (f sd : Nat → Int32) (i : Nat) : upd (lsf f sd i) i (sd i) = lsf f sd (i + 1) := by
  funext j
  by_cases hj : j = i
  · subst hj; simp [upd, lsf]
  · simp only [upd, if_neg hj, lsf]
    have e : j < i + 1 ↔ j < i := by omega
    simp only [e]
def pRs (sd hi : Nat → Int32) : Nat → Int32
  | 0 => nI 0
  | r + 1 => if cnt (sd r) (hi r) = true then pRs sd hi r else pRs sd hi r ||| (nI 1 <<< (nI r &&& 31))
def sqB (po lS : Nat → Int32) (x r : Nat) : Int32 := po x &&& (if cnt (lS r) (nI x) = true then lS r ^^^ (-1) else lS r)
def rBt (po lS : Nat → Int32) (x : Nat) (y : Int32) : Nat → Int32
  | 0 => nI 0
  | r + 1 => if cnt (sqB po lS x r) y = true then rBt po lS x y r ||| (nI 1 <<< (nI r &&& 31)) else rBt po lS x y r
def rAh (po lS : Nat → Int32) (x r : Nat) (ow : Int32) : Nat → Nat
  | 0 => 0
  | t + 1 => if cnt ow (nI t) = true ∧ popc (sqB po lS x r) < popc (sqB po lS x t) then rAh po lS x r ow t + 1 else rAh po lS x r ow t
/-- the first place from i on, n places far, at which p holds, else -6 -/
def fst6 (p : Nat → Bool) : Nat → Nat → Int32
  | _, 0 => -6
  | i, n + 1 => if p i = true then nI i else fst6 p (i + 1) n
def rOWp (po lS : Nat → Int32) (x : Nat) (ow pl : Int32) (k : Nat) (r : Nat) : Bool := cnt ow (nI r) && decide (nI (rAh po lS x r ow k) = pl)
def pAf (pr : Int32) (po lS : Nat → Int32) (x : Nat) (y : Int32) (k : Nat) : Int32 := if cnt (po x) y = true then nI (popc pr) - nI (popc (rBt po lS x y k)) else nI (popc pr + 1)
def mPw (g : Nat → Int32) (o : Int32) : Nat → Int32 × Nat
  | 0 => (o, 0)
  | t + 1 => if cnt (mPw g o t).1 (nI t) = true then ((mPw g o t).1 &&& (g t ^^^ (-1)), (mPw g o t).2 + 1) else mPw g o t
def mPr (en po : Nat → Int32) (k n x : Nat) : Int32 :=
  if nI (mPw (rsC en (allR (nI k) &&& (rAt en (nI x) k ^^^ (-1))) k) (po x &&& ((nI 1 <<< (nI x &&& 31)) ^^^ (-1))) n).2 - nI 1 < nI 0 then nI 0 else nI (mPw (rsC en (allR (nI k) &&& (rAt en (nI x) k ^^^ (-1))) k) (po x &&& ((nI 1 <<< (nI x &&& 31)) ^^^ (-1))) n).2 - nI 1
def pSq (mp : Nat → Int32) : Nat → Nat
  | 0 => 0
  | q + 1 => if mp q ≤ 0 then pSq mp q else pSq mp q + 1
def pRo (en : Nat → Int32) (pr mm : Int32) : Nat → Nat
  | 0 => 0
  | r + 1 => if cnt pr (nI r) = true ∧ ¬ (en r &&& mm) = 0 then pRo en pr mm r + 1 else pRo en pr mm r
theorem pRo_le (en : Nat → Int32) (pr mm : Int32) : ∀ r, pRo en pr mm r ≤ r
  | 0 => Nat.le_refl 0
  | r + 1 => by
    have h := pRo_le en pr mm r
    simp only [pRo]
    split <;> omega
def dLn (en le dS : Nat → Int32) (k d : Nat) : Int32 := lnO le (rWi en (dS d) k) k
def lgD (ln : Nat → Int32) : Nat → Nat × Int32
  | 0 => (0, ln 0)
  | d + 1 => if ¬ ln d ≤ (lgD ln d).2 then (d, ln d) else lgD ln d
def lfD (en dS : Nat → Int32) (pr pc : Int32) (k : Nat) : Nat → Nat
  | 0 => 0
  | d + 1 => if ¬ (dS d &&& pc) = 0 ∧ pRo en pr (dS d) k = 1 then lfD en dS pr pc k d + 1 else lfD en dS pr pc k d
theorem lfD_le (en dS : Nat → Int32) (pr pc : Int32) (k : Nat) : ∀ d, lfD en dS pr pc k d ≤ d
  | 0 => Nat.le_refl 0
  | d + 1 => by
    have h := lfD_le en dS pr pc k d
    simp only [lfD]
    split <;> omega
def bfs (en : Nat → Int32) (os : Int32) (k : Nat) (b0 : Int32) : Nat → Int32
  | 0 => b0
  | j + 1 => orf en (bfs en os k b0 j) os k
def lrP (en : Nat → Int32) (os : Int32) (k : Nat) (b0 h : Int32) (i : Nat) : Bool := cnt (bfs en os k b0 (i - 1)) h
def shoB (g : Nat → Int32) (f t : Nat) (w : Int32) : Bool := decide (g f + w < g t)
def sho (g : Nat → Int32) (f t : Nat) (w : Int32) : Nat → Int32 := if g f + w < g t then upd g t (g f + w) else g
def psS (g : Nat → Int32) (f t : Nat) (w : Int32) : Nat → Int32 := if shoB g f t w = true then sho g f t w else sho (sho g f t w) t f w
def psL (a b : Nat → Nat) (le g : Nat → Int32) : Nat → (Nat → Int32)
  | 0 => g
  | r + 1 => psS (psL a b le g r) (a r) (b r) (le r)
def psF (a b : Nat → Nat) (le g : Nat → Int32) : Nat → Bool
  | 0 => false
  | r + 1 => (psF a b le g r || shoB (psL a b le g r) (a r) (b r) (le r)) || shoB (sho (psL a b le g r) (a r) (b r) (le r)) (b r) (a r) (le r)
theorem sho_same {g : Nat → Int32} {f t : Nat} {w : Int32} (h : shoB g f t w = false) : sho g f t w = g := by
  simp only [shoB, decide_eq_false_iff_not] at h
  simp [sho, h]
theorem psL_same {a b : Nat → Nat} {le g : Nat → Int32} : ∀ r, psF a b le g r = false → psL a b le g r = g
  | 0, _ => rfl
  | r + 1, h => by
    simp only [psF, Bool.or_eq_false_iff] at h
    have h1 := psL_same r h.1.1
    rw [h1] at h
    have h2 := sho_same h.1.2
    rw [h2] at h
    have h3 : shoB g (a r) (b r) (le r) = false := by have := h.1.2; exact this
    rw [psL, psS, h1, if_neg (by rw [h3]; decide), h2]
    exact sho_same h.2
theorem psS_t {a b : Nat → Nat} {le g : Nat → Int32} {r : Nat} (h : shoB (psL a b le g r) (a r) (b r) (le r) = true) : psL a b le g (r + 1) = sho (psL a b le g r) (a r) (b r) (le r) := by
  rw [psL, psS, if_pos h]
theorem psS_f {a b : Nat → Nat} {le g : Nat → Int32} {r : Nat} (h : shoB (psL a b le g r) (a r) (b r) (le r) = false) : psL a b le g (r + 1) = sho (sho (psL a b le g r) (a r) (b r) (le r)) (b r) (a r) (le r) := by
  rw [psL, psS, if_neg (by rw [h]; decide)]
theorem psF_1 {a b : Nat → Nat} {le g : Nat → Int32} {r : Nat} (h : shoB (psL a b le g r) (a r) (b r) (le r) = true) : psF a b le g (r + 1) = true := by
  rw [psF, h, Bool.or_true, Bool.true_or]
theorem psF_2 {a b : Nat → Nat} {le g : Nat → Int32} {r : Nat} (h : shoB (sho (psL a b le g r) (a r) (b r) (le r)) (b r) (a r) (le r) = true) : psF a b le g (r + 1) = true := by
  rw [psF, h, Bool.or_true]
theorem psF_3 {a b : Nat → Nat} {le g : Nat → Int32} {r : Nat} (h : shoB (psL a b le g r) (a r) (b r) (le r) = false) (h2 : shoB (sho (psL a b le g r) (a r) (b r) (le r)) (b r) (a r) (le r) = false) : psF a b le g (r + 1) = psF a b le g r := by
  rw [psF, h, h2, Bool.or_false, Bool.or_false]
def d0 (x : Nat) : Nat → Int32 := upd (fun _ => nI 1584) x (nI 0)
def dLf (f : Nat → Int32) (i : Nat) : Nat → Int32 := fun j => if j < i then nI 1584 else f j
theorem dLf_0 (f : Nat → Int32) : dLf f 0 = f := by funext j; simp [dLf]
theorem dLf_1 (f : Nat → Int32) (i : Nat) : upd (dLf f i) i (nI 1584) = dLf f (i + 1) := by
  funext j
  by_cases hj : j = i
  · subst hj; simp [upd, dLf]
  · simp only [upd, if_neg hj, dLf]
    have e : j < i + 1 ↔ j < i := by omega
    simp only [e]
/-- the distances after j rounds -/
def dL (a b : Nat → Nat) (le g : Nat → Int32) (k : Nat) : Nat → (Nat → Int32)
  | 0 => g
  | j + 1 => psL a b le (dL a b le g k j) k
/-- whether round j still shortened -/
def dF (a b : Nat → Nat) (le g : Nat → Int32) (k : Nat) : Nat → Bool
  | 0 => true
  | j + 1 => psF a b le (dL a b le g k j) k
theorem dL_fix {a b : Nat → Nat} {le g : Nat → Int32} {k j : Nat} (h : dL a b le g k (j + 1) = dL a b le g k j) : ∀ i, dL a b le g k (j + i) = dL a b le g k j
  | 0 => rfl
  | i + 1 => by
    show psL a b le (dL a b le g k (j + i)) k = _
    rw [dL_fix h i]
    exact h
theorem dL_stop {a b : Nat → Nat} {le g : Nat → Int32} {k j : Nat} (hj : j ≤ 16) (h : dF a b le g k j = false) : dL a b le g k j = dL a b le g k 16 := by
  cases j with
  | zero => exact absurd h (by simp [dF])
  | succ j =>
    have h0 : dL a b le g k (j + 1) = dL a b le g k j := psL_same k h
    have h1 := dL_fix h0 (16 - j)
    rw [show j + (16 - j) = 16 by omega] at h1
    exact h0.trans h1.symm
theorem b2i_or (x y : Bool) : b2i x ||| b2i y = b2i (x || y) := by cases x <;> cases y <;> rfl
theorem fst6_hit {p : Nat → Bool} {i n : Nat} (h : p i = true) (hn : 0 < n) : nI i = fst6 p i n := by
  obtain ⟨j, rfl⟩ : ∃ j, n = j + 1 := ⟨n - 1, by omega⟩
  simp [fst6, h]
theorem fst6_miss {p : Nat → Bool} {i n n' : Nat} (h : p i = false) (hn : n = n' + 1) : fst6 p i n = fst6 p (i + 1) n' := by
  subst hn
  simp [fst6, h]
theorem lgD_1 (ln : Nat → Int32) : lgD ln 1 = (0, ln 0) := by simp [lgD, Int32.le_refl]
theorem bfs_s {en : Nat → Int32} {os : Int32} {k : Nat} {b0 : Int32} {i : Nat} (h : 2 ≤ i) : orf en (bfs en os k b0 (i - 2)) os k = bfs en os k b0 (i - 1) := by
  rw [show i - 1 = (i - 2) + 1 by omega]
  rfl
theorem swP_t {g : Nat → Int32} {po : Nat → Int32} {q : Nat} (h : cnt (swP g po q).1 (nI q) = true) : swP g po (q + 1) = swP g po q := by rw [swP, if_pos h]
theorem swP_f {g : Nat → Int32} {po : Nat → Int32} {q : Nat} (h : cnt (swP g po q).1 (nI q) = false) : swP g po (q + 1) = ((swP g po q).1 ||| g q, (swP g po q).2.1 + 1, sfm (swP g po q).2.2 (g q) (g q) 16) := by rw [swP, if_neg (by rw [h]; decide)]
theorem swD_t {g : Nat → Int32} {dO dS : Nat → Int32} {q : Nat} (h : cnt (swD g dO dS q).1 (nI q) = true) : swD g dO dS (q + 1) = swD g dO dS q := by rw [swD, if_pos h]
theorem swD_f {g : Nat → Int32} {dO dS : Nat → Int32} {q : Nat} (h : cnt (swD g dO dS q).1 (nI q) = false) : swD g dO dS (q + 1) = ((swD g dO dS q).1 ||| g q, (swD g dO dS q).2.1 + 1, sfm (swD g dO dS q).2.2.1 (g q) (nI (swD g dO dS q).2.1) 16, upd (swD g dO dS q).2.2.2 (swD g dO dS q).2.1 (g q)) := by rw [swD, if_neg (by rw [h]; decide)]
theorem mPw_t {g : Nat → Int32} {o : Int32} {t : Nat} (h : cnt (mPw g o t).1 (nI t) = true) : mPw g o (t + 1) = ((mPw g o t).1 &&& (g t ^^^ (-1)), (mPw g o t).2 + 1) := by rw [mPw, if_pos h]
theorem mPw_f {g : Nat → Int32} {o : Int32} {t : Nat} (h : cnt (mPw g o t).1 (nI t) = false) : mPw g o (t + 1) = mPw g o t := by rw [mPw, if_neg (by rw [h]; decide)]
theorem lgD_t {ln : Nat → Int32} {d : Nat} (h : ¬ ln d ≤ (lgD ln d).2) : lgD ln (d + 1) = (d, ln d) := by rw [lgD, if_pos h]
theorem lgD_f {ln : Nat → Int32} {d : Nat} (h : ln d ≤ (lgD ln d).2) : lgD ln (d + 1) = lgD ln d := by rw [lgD, if_neg (fun q => q h)]
theorem sqB_t {po lS : Nat → Int32} {x r : Nat} (h : cnt (lS r) (nI x) = true) : sqB po lS x r = po x &&& (lS r ^^^ (-1)) := by rw [sqB, if_pos h]
theorem sqB_f {po lS : Nat → Int32} {x r : Nat} (h : cnt (lS r) (nI x) = false) : sqB po lS x r = po x &&& lS r := by rw [sqB, if_neg (by rw [h]; decide)]
theorem rOWp_t {po lS : Nat → Int32} {x : Nat} {ow pl : Int32} {k r : Nat} (h1 : cnt ow (nI r) = true) (h2 : nI (rAh po lS x r ow k) = pl) : rOWp po lS x ow pl k r = true := by simp only [rOWp]; rw [h1, decide_eq_true h2]; rfl
theorem rOWp_f1 {po lS : Nat → Int32} {x : Nat} {ow pl : Int32} {k r : Nat} (h1 : cnt ow (nI r) = false) : rOWp po lS x ow pl k r = false := by simp only [rOWp]; rw [h1]; rfl
theorem rOWp_f2 {po lS : Nat → Int32} {x : Nat} {ow pl : Int32} {k r : Nat} (h2 : ¬ nI (rAh po lS x r ow k) = pl) : rOWp po lS x ow pl k r = false := by simp only [rOWp]; rw [decide_eq_false h2]; simp
theorem pRs_t {sd hi : Nat → Int32} {r : Nat} (h : cnt (sd r) (hi r) = true) : pRs sd hi (r + 1) = pRs sd hi r := by rw [pRs, if_pos h]
theorem pRs_f {sd hi : Nat → Int32} {r : Nat} (h : cnt (sd r) (hi r) = false) : pRs sd hi (r + 1) = pRs sd hi r ||| (nI 1 <<< (nI r &&& 31)) := by rw [pRs, if_neg (by rw [h]; decide)]
