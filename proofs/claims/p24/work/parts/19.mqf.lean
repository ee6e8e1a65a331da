/-! the reference's public functions (pure) -/
def mhF (A : Nat → Int32) : Nat → Int32 := fun r => A (32 + r)
def adA (A : Nat → Int32) (k : Nat) (x y z : Int32) : Nat → Int32 := upd (upd (upd (upd A (2 + k) (if y ≤ x then y else x)) (32 + k) (if y ≤ x then x else y)) (62 + k) z) 1 (nI (k + 1))
theorem adA_0 {A : Nat → Int32} {k : Nat} {x y z : Int32} : adA A k x y z 0 = A 0 := by
  simp only [adA, upd]
  rw [if_neg (by omega), if_neg (by omega), if_neg (by omega), if_neg (by omega)]
theorem adA_1 {A : Nat → Int32} {k : Nat} {x y z : Int32} : adA A k x y z 1 = nI (k + 1) := by simp [adA, upd]
theorem adA_2 {A : Nat → Int32} {k r : Nat} {x y z : Int32} (h : r ≤ k) (hk : k < 30) : adA A k x y z (2 + r) = if r = k then (if y ≤ x then y else x) else A (2 + r) := by
  simp only [adA, upd]
  rw [if_neg (by omega), if_neg (by omega), if_neg (by omega)]
  by_cases e : r = k
  · rw [if_pos (by omega), if_pos e]
  · rw [if_neg (by omega), if_neg e]
theorem adA_3 {A : Nat → Int32} {k r : Nat} {x y z : Int32} (h : r ≤ k) (hk : k < 30) : adA A k x y z (32 + r) = if r = k then (if y ≤ x then x else y) else A (32 + r) := by
  simp only [adA, upd]
  rw [if_neg (by omega), if_neg (by omega)]
  by_cases e : r = k
  · rw [if_pos (by omega), if_pos e]
  · rw [if_neg (by omega), if_neg (by omega), if_neg e]
theorem adA_6 {A : Nat → Int32} {k r : Nat} {x y z : Int32} (h : r ≤ k) (hk : k < 30) : adA A k x y z (62 + r) = if r = k then z else A (62 + r) := by
  simp only [adA, upd]
  rw [if_neg (by omega)]
  by_cases e : r = k
  · rw [if_pos (by omega), if_pos e]
  · rw [if_neg (by omega), if_neg (by omega), if_neg (by omega), if_neg e]
theorem okA_of {A : Nat → Int32} {k : Nat} (h : ∀ r, r < k → (∃ v, v < 16 ∧ A (2 + r) = nI v) ∧ ∃ v, v < 16 ∧ A (32 + r) = nI v) : okA A k := by
  intro r hr
  obtain ⟨⟨v, hv, e⟩, ⟨u, hu, e2⟩⟩ := h r hr
  have e3 : mlo A r = v := by rw [mlo, e, nI_clamp (by omega)]
  have e4 : mhi A r = u := by rw [mhi, e2, nI_clamp (by omega)]
  rw [e3, e4]
  exact ⟨e, hv, e2, hu⟩
theorem okA_ad {A : Nat → Int32} {k : Nat} {x y z : Int32} (h : okA A k) (hk : k < 30) (hx : ∃ v, v < 16 ∧ x = nI v) (hy : ∃ v, v < 16 ∧ y = nI v) : okA (adA A k x y z) (k + 1) := by
  refine okA_of (fun r hr => ?_)
  rw [adA_2 (by omega) hk, adA_3 (by omega) hk]
  by_cases e : r = k
  · rw [if_pos e, if_pos e]
    by_cases c : y ≤ x
    · rw [if_pos c, if_pos c]; exact ⟨hy, hx⟩
    · rw [if_neg c, if_neg c]; exact ⟨hx, hy⟩
  · rw [if_neg e, if_neg e]
    obtain ⟨h1, h2, h3, h4⟩ := h r (by omega)
    exact ⟨⟨_, h2, h1⟩, ⟨_, h4, h3⟩⟩
/-- a road lost: the rows move up, as far as i -/
def loF (A : Nat → Int32) (r k i : Nat) : Nat → Int32 := fun j => if j = 1 then nI (k - 1) else if (2 + r ≤ j ∧ j < 2 + i) ∨ (32 + r ≤ j ∧ j < 32 + i) ∨ (62 + r ≤ j ∧ j < 62 + i) then A (j + 1) else A j
theorem loF_one {A : Nat → Int32} {r k i : Nat} : loF A r k i 1 = nI (k - 1) := by rw [loF, if_pos rfl]
theorem loF_0 {A : Nat → Int32} {r k : Nat} : upd A 1 (nI (k - 1)) = loF A r k r := by
  funext j
  by_cases e : j = 1
  · rw [loF, if_pos e, upd, if_pos e]
  · rw [loF, if_neg e, upd, if_neg e, if_neg (by omega)]
theorem loF_s {A : Nat → Int32} {r k i : Nat} (hi : i < k - 1) (hr : r ≤ i) (hk : k ≤ 30) : upd (upd (upd (loF A r k i) (2 + i) ((loF A r k i) (2 + i + 1))) (32 + i) ((upd (loF A r k i) (2 + i) ((loF A r k i) (2 + i + 1))) (32 + i + 1))) (62 + i) ((upd (upd (loF A r k i) (2 + i) ((loF A r k i) (2 + i + 1))) (32 + i) ((upd (loF A r k i) (2 + i) ((loF A r k i) (2 + i + 1))) (32 + i + 1))) (62 + i + 1)) = loF A r k (i + 1) := by
  have e1 : (loF A r k i) (2 + i + 1) = A (2 + i + 1) := by rw [loF, if_neg (by omega), if_neg (by omega)]
  have e2 : (upd (loF A r k i) (2 + i) (A (2 + i + 1))) (32 + i + 1) = A (32 + i + 1) := by rw [upd, if_neg (by omega), loF, if_neg (by omega), if_neg (by omega)]
  have e3 : (upd (upd (loF A r k i) (2 + i) (A (2 + i + 1))) (32 + i) (A (32 + i + 1))) (62 + i + 1) = A (62 + i + 1) := by rw [upd, if_neg (by omega), upd, if_neg (by omega), loF, if_neg (by omega), if_neg (by omega)]
  rw [e1, e2, e3]
  funext j
  by_cases h1 : j = 62 + i
  · subst h1; rw [upd, if_pos rfl, loF, if_neg (by omega), if_pos (by omega)]
  · rw [upd, if_neg h1]
    by_cases h2 : j = 32 + i
    · subst h2; rw [upd, if_pos rfl, loF, if_neg (by omega), if_pos (by omega)]
    · rw [upd, if_neg h2]
      by_cases h3 : j = 2 + i
      · subst h3; rw [upd, if_pos rfl, loF, if_neg (by omega), if_pos (by omega)]
      · rw [upd, if_neg h3, loF, loF]
        by_cases h4 : j = 1
        · rw [if_pos h4, if_pos h4]
        · rw [if_neg h4, if_neg h4]
          by_cases h5 : (2 + r ≤ j ∧ j < 2 + i) ∨ (32 + r ≤ j ∧ j < 32 + i) ∨ (62 + r ≤ j ∧ j < 62 + i)
          · rw [if_pos h5, if_pos (by omega)]
          · rw [if_neg h5, if_neg (by omega)]
def loA (A : Nat → Int32) (r k : Nat) : Nat → Int32 := loF A r k (k - 1)
theorem loA_2 {A : Nat → Int32} {r k j : Nat} (hj : j < k - 1) (hr : r < k) (hk : k ≤ 30) : loA A r k (2 + j) = if r ≤ j then A (2 + j + 1) else A (2 + j) := by
  rw [loA, loF, if_neg (by omega)]
  by_cases e : r ≤ j
  · rw [if_pos (by omega), if_pos e]
  · rw [if_neg (by omega), if_neg e]
theorem loA_3 {A : Nat → Int32} {r k j : Nat} (hj : j < k - 1) (hr : r < k) (hk : k ≤ 30) : loA A r k (32 + j) = if r ≤ j then A (32 + j + 1) else A (32 + j) := by
  rw [loA, loF, if_neg (by omega)]
  by_cases e : r ≤ j
  · rw [if_pos (by omega), if_pos e]
  · rw [if_neg (by omega), if_neg e]
theorem loA_6 {A : Nat → Int32} {r k j : Nat} (hj : j < k - 1) (hr : r < k) (hk : k ≤ 30) : loA A r k (62 + j) = if r ≤ j then A (62 + j + 1) else A (62 + j) := by
  rw [loA, loF, if_neg (by omega)]
  by_cases e : r ≤ j
  · rw [if_pos (by omega), if_pos e]
  · rw [if_neg (by omega), if_neg e]
theorem loA_0 {A : Nat → Int32} {r k : Nat} (hk : k ≤ 30) : loA A r k 0 = A 0 := by rw [loA, loF, if_neg (by omega), if_neg (by omega)]
theorem okA_lo {A : Nat → Int32} {r k : Nat} (h : okA A k) (hr : r < k) (hk : k ≤ 30) : okA (loA A r k) (k - 1) := by
  refine okA_of (fun j hj => ?_)
  rw [loA_2 hj hr hk, loA_3 hj hr hk]
  by_cases e : r ≤ j
  · rw [if_pos e, if_pos e]
    obtain ⟨h1, h2, h3, h4⟩ := h (j + 1) (by omega)
    exact ⟨⟨_, h2, h1⟩, ⟨_, h4, h3⟩⟩
  · rw [if_neg e, if_neg e]
    obtain ⟨h1, h2, h3, h4⟩ := h j (by omega)
    exact ⟨⟨_, h2, h1⟩, ⟨_, h4, h3⟩⟩
def hsF (H : Nat → Int32) (o : Nat) : Nat → Int32 := fun j => H (o + j)
/-- roads added out of the parsed row -/
def adM (A : Nat → Int32) (k : Nat) (f : Nat → Int32) : Nat → (Nat → Int32)
  | 0 => A
  | i + 1 => adA (adM A k f i) (k + i) (f (3 * i)) (f (3 * i + 1)) (f (3 * i + 2))
theorem adM_1 {A : Nat → Int32} {k : Nat} {f : Nat → Int32} (h : A 1 = nI k) : ∀ i, adM A k f i 1 = nI (k + i)
  | 0 => h
  | i + 1 => adA_1
/-- the characters, as the reference counts them -/
def mcF : Int64 → Bool → Nat → Nat → Int64 × Bool × Nat
  | x, g, c, 0 => (x, g, c)
  | x, g, c, n + 1 => if (x &&& 255) = 0 then (x, g, c) else mcF (us8 x) (g && inL (x &&& 255) 33 126) (c + 1) n
theorem mcF_s {x : Int64} {g : Bool} {c n n' : Nat} (hn : n = n' + 1) (h : ¬ (x &&& 255) = 0) : mcF x g c n = mcF (us8 x) (g && inL (x &&& 255) 33 126) (c + 1) n' := by
  subst hn
  rw [mcF, if_neg h]
theorem mcF_z {x : Int64} {g : Bool} {c n : Nat} (h : (x &&& 255) = 0) : mcF x g c n = (x, g, c) := by
  cases n with
  | zero => rfl
  | succ n => rw [mcF, if_pos h]
theorem mcF_0 {x : Int64} {g : Bool} {c n : Nat} (h : n = 0) : mcF x g c n = (x, g, c) := by subst h; rfl
def chW (x : Int64) (t : Nat) : Int32 := ((x.toUInt64 >>> ((nI (8 * t)).toInt64.toUInt64 &&& Int64.toUInt64 63)).toInt64 &&& (255 : Int64)).toInt32
def apM (f : Nat → Int32) (L : Nat) (x : Int64) (w : Nat) : Nat → (Nat → Int32)
  | 0 => f
  | j + 1 => upd (apM f L x w j) (L + j) (chW x (w - 1 - j))
def maH (A : Nat → Int32) (k x r : Nat) (st : Int32) : Nat → Nat
  | 0 => 0
  | t + 1 => if (¬ t = r ∧ cnt st (nI t) = true) ∧ (enM A t &&& rsM A (nI 1 <<< (nI r &&& 31)) (-6) k x) = enM A t then maH A k x r st t + 1 else maH A k x r st t
def muP (A : Nat → Int32) (k x : Nat) (st pl : Int32) (r : Nat) : Bool := cnt st (nI r) && decide (nI (maH A k x r st k) = pl)
theorem muP_t {A : Nat → Int32} {k x : Nat} {st pl : Int32} {r : Nat} (h1 : cnt st (nI r) = true) (h2 : nI (maH A k x r st k) = pl) : muP A k x st pl r = true := by rw [muP, h1, decide_eq_true h2]; rfl
theorem muP_f1 {A : Nat → Int32} {k x : Nat} {st pl : Int32} {r : Nat} (h1 : cnt st (nI r) = false) : muP A k x st pl r = false := by rw [muP, h1]; rfl
theorem muP_f2 {A : Nat → Int32} {k x : Nat} {st pl : Int32} {r : Nat} (h2 : ¬ nI (maH A k x r st k) = pl) : muP A k x st pl r = false := by rw [muP, decide_eq_false h2]; simp
def pfM (A : Nat → Int32) (k x y : Nat) : Int32 := if hgM A k x (nI y) = true then nI (popc (pgM A k k)) - nI (popc (muM A k x (nI y) k)) else nI (popc (pgM A k k) + 1)
def leM (A : Nat → Int32) (k x y : Nat) : Nat := if hgM A k x (nI y) = true then popc (muM A k x (nI y) k) else 0
def wlM (A : Nat → Int32) (k : Nat) : Nat → Int32 × Int32
  | 0 => (-6, -6)
  | r + 1 => if ¬ nI (plM A k r) ≤ (wlM A k r).2 then (nI r, nI (plM A k r)) else wlM A k r
theorem wlM_t {A : Nat → Int32} {k r : Nat} (h : ¬ nI (plM A k r) ≤ (wlM A k r).2) : wlM A k (r + 1) = (nI r, nI (plM A k r)) := by rw [wlM, if_pos h]
theorem wlM_f {A : Nat → Int32} {k r : Nat} (h : nI (plM A k r) ≤ (wlM A k r).2) : wlM A k (r + 1) = wlM A k r := by rw [wlM, if_neg (fun q => q h)]
def ndM (A : Nat → Int32) (k n : Nat) (pz : Int32) : Nat → Nat
  | 0 => 0
  | d + 1 => if ¬ (sqM A k n d &&& pz) = 0 ∧ roM A (sqM A k n d) k = 1 then ndM A k n pz d + 1 else ndM A k n pz d
theorem ndM_le (A : Nat → Int32) (k n : Nat) (pz : Int32) : ∀ d, ndM A k n pz d ≤ d
  | 0 => Nat.le_refl 0
  | d + 1 => by
    have h := ndM_le A k n pz d
    simp only [ndM]
    split <;> omega
