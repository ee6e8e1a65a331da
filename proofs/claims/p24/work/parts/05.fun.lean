/-! THE CLASS'S OWN FUNCTIONS, as its loops compute them (pure) -/
def cnt (st m : Int32) : Bool := !decide (((st >>> (m &&& 31)) &&& nI 1) = 0)
def inR (x n : Int32) : Bool := !decide (x < 0) && !decide (n ≤ x)
def fitsB (hi : Nat → Int32) (k : Nat) (sq : Int32) : Bool := decide (∀ r, r < k → hi r < sq)
def shl1 (f : Nat → Int32) (a k : Nat) : Nat → Int32 := fun j => if a ≤ j ∧ j + 1 < k then f (j + 1) else f j
def allR (rc : Int32) : Int32 := (nI 1 <<< (rc &&& 31)) - nI 1
def rAt (en : Nat → Int32) (sq : Int32) : Nat → Int32
  | 0 => nI 0
  | k + 1 => if cnt (en k) sq = true then rAt en sq k ||| (nI 1 <<< (nI k &&& 31)) else rAt en sq k
def rWi (en : Nat → Int32) (sq : Int32) : Nat → Int32
  | 0 => nI 0
  | k + 1 => if (en k &&& (sq ^^^ (-1))) = 0 then rWi en sq k ||| (nI 1 <<< (nI k &&& 31)) else rWi en sq k
def lnO (le : Nat → Int32) (rs : Int32) : Nat → Int32
  | 0 => nI 0
  | k + 1 => if cnt rs (nI k) = true then lnO le rs k + le k else lnO le rs k
def orf (en : Nat → Int32) (sq rs : Int32) : Nat → Int32
  | 0 => sq
  | k + 1 => if cnt rs (nI k) = true ∧ ¬ (en k &&& sq) = 0 then orf en sq rs k ||| en k else orf en sq rs k
def psC (en : Nat → Int32) (rs x : Int32) : Nat → Int32
  | 0 => x
  | k + 1 => if cnt rs (nI k) = true ∧ ¬ (en k &&& psC en rs x k) = 0 then psC en rs x k ||| en k else psC en rs x k
/-- what is reached after j rounds -/
def rC (en : Nat → Int32) (rs : Int32) (k q : Nat) : Nat → Int32
  | 0 => nI 1 <<< (nI q &&& 31)
  | j + 1 => psC en rs (rC en rs k q j) k
def prC (en : Nat → Int32) (rs : Int32) (k q : Nat) : Nat → Int32
  | 0 => nI 0
  | j + 1 => rC en rs k q j
def rsC (en : Nat → Int32) (rs : Int32) (k q : Nat) : Int32 := rC en rs k q 16
theorem rC_fix {en : Nat → Int32} {rs : Int32} {k q j : Nat} (h : rC en rs k q (j + 1) = rC en rs k q j) : ∀ i, rC en rs k q (j + i) = rC en rs k q j
  | 0 => rfl
  | i + 1 => by
    show psC en rs (rC en rs k q (j + i)) k = _
    rw [rC_fix h i]
    exact h
theorem sh1_ne : ∀ q, q < 32 → ¬ nI 1 <<< (nI q &&& 31) = nI 0 := by decide +kernel
theorem rC_stop {en : Nat → Int32} {rs : Int32} {k q j : Nat} (hq : q < 16) (hj : j ≤ 16) (h : rC en rs k q j = prC en rs k q j) : rC en rs k q j = rsC en rs k q := by
  cases j with
  | zero => exact absurd h (sh1_ne q (by omega))
  | succ j =>
    have h1 := rC_fix (h : rC en rs k q (j + 1) = rC en rs k q j) (16 - j)
    rw [show j + (16 - j) = 16 by omega] at h1
    exact (h.trans h1.symm)
def sfm (f : Nat → Int32) (x v : Int32) (k : Nat) : Nat → Int32 := fun j => if j < k ∧ cnt x (nI j) = true then v else f j
theorem sfm_0 (f : Nat → Int32) (x v : Int32) : sfm f x v 0 = f := by
  funext j
  simp [sfm]
theorem sfm_1 (f : Nat → Int32) (x v : Int32) (i : Nat) : sfm f x v (i + 1) = if cnt x (nI i) = true then upd (sfm f x v i) i v else sfm f x v i := by
  funext j
  by_cases h : cnt x (nI i) = true
  · rw [if_pos h]
    by_cases hj : j = i
    · subst hj; simp [sfm, upd, h]
    · simp only [sfm, upd, if_neg hj]
      have e : j < i + 1 ↔ j < i := by omega
      simp only [e]
  · rw [if_neg h]
    by_cases hj : j = i
    · subst hj; simp [sfm, h]
    · simp only [sfm]
      have e : j < i + 1 ↔ j < i := by omega
      simp only [e]
theorem fitsB_t {hi : Nat → Int32} {k : Nat} {sq : Int32} {i : Nat} (h : k ≤ i) (hy : ∀ r, r < i → hi r < sq) : fitsB hi k sq = true := decide_eq_true (fun r hr => hy r (by omega))
theorem fitsB_f {hi : Nat → Int32} {k : Nat} {sq : Int32} {i : Nat} (h : i < k) (hy : ¬ hi i < sq) : fitsB hi k sq = false := decide_eq_false (fun q => hy (q i h))
theorem shl1_0 (f : Nat → Int32) (r : Nat) : shl1 f r (r + 1) = f := by
  funext j
  simp only [shl1]
  split
  · omega
  · rfl
theorem shl1_1 {f : Nat → Int32} {r i : Nat} (h : r + 1 ≤ i) : upd (shl1 f r i) (i - 1) (shl1 f r i i) = shl1 f r (i + 1) := by
  funext j
  by_cases hj : j = i - 1
  · subst hj
    simp only [upd, if_true, shl1]
    rw [if_neg (by omega), if_pos (by omega), show i - 1 + 1 = i by omega]
  · simp only [upd, if_neg hj, shl1]
    have e : (r ≤ j ∧ j + 1 < i + 1) ↔ (r ≤ j ∧ j + 1 < i) := by omega
    simp only [e]
theorem cnt_t {x y : Int32} (h : ¬ ((x >>> (y &&& 31)) &&& nI 1) = 0) : cnt x y = true := by simp only [cnt]; rw [decide_eq_false h]; rfl
theorem cnt_f {x y : Int32} (h : ((x >>> (y &&& 31)) &&& nI 1) = 0) : cnt x y = false := by simp only [cnt]; rw [decide_eq_true h]; rfl
theorem inR_t {x n : Int32} (h1 : ¬ x < 0) (h2 : ¬ n ≤ x) : inR x n = true := by simp only [inR]; rw [decide_eq_false h1, decide_eq_false h2]; rfl
theorem inR_f1 {x n : Int32} (h1 : x < 0) : inR x n = false := by simp only [inR]; rw [decide_eq_true h1]; rfl
theorem inR_f2 {x n : Int32} (h2 : n ≤ x) : inR x n = false := by simp only [inR]; rw [decide_eq_true h2]; simp
theorem ifn1 {a b : Prop} [Decidable (a ∧ b)] {α : Type} {x y : α} (h : ¬ a) : (if a ∧ b then x else y) = y := if_neg (fun q => h q.1)
theorem ifn2 {a b : Prop} [Decidable (a ∧ b)] {α : Type} {x y : α} (h : ¬ b) : (if a ∧ b then x else y) = y := if_neg (fun q => h q.2)
