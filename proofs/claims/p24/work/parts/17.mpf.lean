/-! the reference's parser (pure) -/
def inI (x lo hi : Int32) : Bool := !decide (x < lo) && !decide (hi < x)
theorem inLL (x lo hi : Int32) : inL x.toInt64 lo.toInt64 hi.toInt64 = inI x lo hi := by
  have e1 : (x.toInt64 < lo.toInt64) ↔ (x < lo) := by rw [Int64.lt_iff_toInt_lt, Int32.lt_iff_toInt_lt, Int32.toInt_toInt64, Int32.toInt_toInt64]
  have e2 : (hi.toInt64 < x.toInt64) ↔ (hi < x) := by rw [Int64.lt_iff_toInt_lt, Int32.lt_iff_toInt_lt, Int32.toInt_toInt64, Int32.toInt_toInt64]
  rw [inL, inI, decide_eq_decide.mpr e1, decide_eq_decide.mpr e2]
def ihM (P : Nat → Int32) (L sn : Nat) (lo hi : Int32) : Bool := decide (sn < L) && inI (P sn) lo hi
theorem ihM_t {P : Nat → Int32} {L sn : Nat} {lo hi : Int32} (h1 : sn < L) (h2 : inL (P sn).toInt64 lo.toInt64 hi.toInt64 = true) : ihM P L sn lo hi = true := by rw [inLL] at h2; rw [ihM, decide_eq_true h1, h2]; rfl
theorem ihM_f1 {P : Nat → Int32} {L sn : Nat} {lo hi : Int32} (h1 : L ≤ sn) : ihM P L sn lo hi = false := by rw [ihM, decide_eq_false (Nat.not_lt.mpr h1)]; rfl
theorem ihM_f2 {P : Nat → Int32} {L sn : Nat} {lo hi : Int32} (h2 : inL (P sn).toInt64 lo.toInt64 hi.toInt64 = false) : ihM P L sn lo hi = false := by rw [inLL] at h2; rw [ihM, h2]; simp
theorem ihM_lt {P : Nat → Int32} {L sn : Nat} {lo hi : Int32} (h : ihM P L sn lo hi = true) : sn < L := by
  simp only [ihM, Bool.and_eq_true, decide_eq_true_eq] at h
  exact h.1
def rnB (P : Nat → Int32) (L sn le : Nat) : Bool := ihM P L sn (nI (48 + le)) (nI 57)
/-- a second digit is taken -/
def rnX (P : Nat → Int32) (L sn : Nat) (mo9 : Int32) : Bool := !decide (P sn - nI 48 ≤ 0) && (ihM P L (sn + 1) (nI 48) (nI 57) && !decide (mo9 < nI 10 * (P sn - nI 48) + P (sn + 1) - nI 48))
def rnN (P : Nat → Int32) (L sn : Nat) (mo9 : Int32) : Int32 := if rnX P L sn mo9 = true then nI 10 * (P sn - nI 48) + P (sn + 1) - nI 48 else P sn - nI 48
def rnS (P : Nat → Int32) (L sn : Nat) (mo9 : Int32) : Nat := if rnX P L sn mo9 = true then sn + 1 + 1 else sn + 1
theorem rnX_1 {P : Nat → Int32} {L sn : Nat} {mo9 : Int32} (h : P sn - nI 48 ≤ 0) : rnX P L sn mo9 = false := by rw [rnX, decide_eq_true h]; rfl
theorem rnX_2 {P : Nat → Int32} {L sn : Nat} {mo9 : Int32} (h : ihM P L (sn + 1) (nI 48) (nI 57) = false) : rnX P L sn mo9 = false := by rw [rnX, h]; simp
theorem rnX_3 {P : Nat → Int32} {L sn : Nat} {mo9 : Int32} (h : mo9 < nI 10 * (P sn - nI 48) + P (sn + 1) - nI 48) : rnX P L sn mo9 = false := by rw [rnX, decide_eq_true h]; simp
theorem rnX_4 {P : Nat → Int32} {L sn : Nat} {mo9 : Int32} (h1 : ¬ P sn - nI 48 ≤ 0) (h2 : ihM P L (sn + 1) (nI 48) (nI 57) = true) (h3 : ¬ mo9 < nI 10 * (P sn - nI 48) + P (sn + 1) - nI 48) : rnX P L sn mo9 = true := by rw [rnX, decide_eq_false h1, h2, decide_eq_false h3]; rfl
theorem rnN_f {P : Nat → Int32} {L sn : Nat} {mo9 : Int32} (h : rnX P L sn mo9 = false) : rnN P L sn mo9 = P sn - nI 48 := by rw [rnN, if_neg (by rw [h]; decide)]
theorem rnN_t {P : Nat → Int32} {L sn : Nat} {mo9 : Int32} (h : rnX P L sn mo9 = true) : rnN P L sn mo9 = nI 10 * (P sn - nI 48) + P (sn + 1) - nI 48 := by rw [rnN, if_pos h]
theorem rnS_f {P : Nat → Int32} {L sn : Nat} {mo9 : Int32} (h : rnX P L sn mo9 = false) : rnS P L sn mo9 = sn + 1 := by rw [rnS, if_neg (by rw [h]; decide)]
theorem rnS_t {P : Nat → Int32} {L sn : Nat} {mo9 : Int32} (h : rnX P L sn mo9 = true) : rnS P L sn mo9 = sn + 1 + 1 := by rw [rnS, if_pos h]
theorem rnS_b {P : Nat → Int32} {L sn le : Nat} {mo9 : Int32} (h : rnB P L sn le = true) : sn + 1 ≤ rnS P L sn mo9 ∧ rnS P L sn mo9 ≤ L := by
  have h1 := ihM_lt h
  cases hx : rnX P L sn mo9 with
  | false => rw [rnS_f hx]; omega
  | true =>
    rw [rnS_t hx]
    simp only [rnX, Bool.and_eq_true] at hx
    have h2 := ihM_lt hx.2.1
    omega
/-- a road is read: whether it is well, spot, number, and the two squares -/
def rr (P : Nat → Int32) (L sn : Nat) (nu : Int32) : Bool × Nat × Int32 × Int32 × Int32 :=
  if rnB P L sn 0 = false then (false, sn, nu, 0, 0)
  else if ihM P L (rnS P L sn (nI 15)) (nI 45) (nI 45) = false then (false, rnS P L sn (nI 15), rnN P L sn (nI 15), 0, 0)
  else if rnB P L (rnS P L sn (nI 15) + 1) 0 = false then (false, rnS P L sn (nI 15) + 1, rnN P L sn (nI 15), 0, 0)
  else if ihM P L (rnS P L (rnS P L sn (nI 15) + 1) (nI 15)) (nI 58) (nI 58) = false then (false, rnS P L (rnS P L sn (nI 15) + 1) (nI 15), rnN P L (rnS P L sn (nI 15) + 1) (nI 15), 0, 0)
  else if rnB P L (rnS P L (rnS P L sn (nI 15) + 1) (nI 15) + 1) 1 = false then (false, rnS P L (rnS P L sn (nI 15) + 1) (nI 15) + 1, rnN P L (rnS P L sn (nI 15) + 1) (nI 15), 0, 0)
  else (true, rnS P L (rnS P L (rnS P L sn (nI 15) + 1) (nI 15) + 1) (nI 99), rnN P L (rnS P L (rnS P L sn (nI 15) + 1) (nI 15) + 1) (nI 99), rnN P L sn (nI 15), rnN P L (rnS P L sn (nI 15) + 1) (nI 15))
theorem rr_1 {P : Nat → Int32} {L sn : Nat} {nu : Int32} (h1 : rnB P L sn 0 = false) : rr P L sn nu = (false, sn, nu, 0, 0) := by rw [rr, if_pos h1]
theorem rr_2 {P : Nat → Int32} {L sn : Nat} {nu : Int32} (h1 : rnB P L sn 0 = true) (h2 : ihM P L (rnS P L sn (nI 15)) (nI 45) (nI 45) = false) : rr P L sn nu = (false, rnS P L sn (nI 15), rnN P L sn (nI 15), 0, 0) := by rw [rr, if_neg (by rw [h1]; decide), if_pos h2]
theorem rr_3 {P : Nat → Int32} {L sn : Nat} {nu : Int32} (h1 : rnB P L sn 0 = true) (h2 : ihM P L (rnS P L sn (nI 15)) (nI 45) (nI 45) = true) (h3 : rnB P L (rnS P L sn (nI 15) + 1) 0 = false) : rr P L sn nu = (false, rnS P L sn (nI 15) + 1, rnN P L sn (nI 15), 0, 0) := by rw [rr, if_neg (by rw [h1]; decide), if_neg (by rw [h2]; decide), if_pos h3]
theorem rr_4 {P : Nat → Int32} {L sn : Nat} {nu : Int32} (h1 : rnB P L sn 0 = true) (h2 : ihM P L (rnS P L sn (nI 15)) (nI 45) (nI 45) = true) (h3 : rnB P L (rnS P L sn (nI 15) + 1) 0 = true) (h4 : ihM P L (rnS P L (rnS P L sn (nI 15) + 1) (nI 15)) (nI 58) (nI 58) = false) : rr P L sn nu = (false, rnS P L (rnS P L sn (nI 15) + 1) (nI 15), rnN P L (rnS P L sn (nI 15) + 1) (nI 15), 0, 0) := by rw [rr, if_neg (by rw [h1]; decide), if_neg (by rw [h2]; decide), if_neg (by rw [h3]; decide), if_pos h4]
theorem rr_5 {P : Nat → Int32} {L sn : Nat} {nu : Int32} (h1 : rnB P L sn 0 = true) (h2 : ihM P L (rnS P L sn (nI 15)) (nI 45) (nI 45) = true) (h3 : rnB P L (rnS P L sn (nI 15) + 1) 0 = true) (h4 : ihM P L (rnS P L (rnS P L sn (nI 15) + 1) (nI 15)) (nI 58) (nI 58) = true) (h5 : rnB P L (rnS P L (rnS P L sn (nI 15) + 1) (nI 15) + 1) 1 = false) : rr P L sn nu = (false, rnS P L (rnS P L sn (nI 15) + 1) (nI 15) + 1, rnN P L (rnS P L sn (nI 15) + 1) (nI 15), 0, 0) := by rw [rr, if_neg (by rw [h1]; decide), if_neg (by rw [h2]; decide), if_neg (by rw [h3]; decide), if_neg (by rw [h4]; decide), if_pos h5]
theorem rr_6 {P : Nat → Int32} {L sn : Nat} {nu : Int32} (h1 : rnB P L sn 0 = true) (h2 : ihM P L (rnS P L sn (nI 15)) (nI 45) (nI 45) = true) (h3 : rnB P L (rnS P L sn (nI 15) + 1) 0 = true) (h4 : ihM P L (rnS P L (rnS P L sn (nI 15) + 1) (nI 15)) (nI 58) (nI 58) = true) (h5 : rnB P L (rnS P L (rnS P L sn (nI 15) + 1) (nI 15) + 1) 1 = true) : rr P L sn nu = (true, rnS P L (rnS P L (rnS P L sn (nI 15) + 1) (nI 15) + 1) (nI 99), rnN P L (rnS P L (rnS P L sn (nI 15) + 1) (nI 15) + 1) (nI 99), rnN P L sn (nI 15), rnN P L (rnS P L sn (nI 15) + 1) (nI 15)) := by rw [rr, if_neg (by rw [h1]; decide), if_neg (by rw [h2]; decide), if_neg (by rw [h3]; decide), if_neg (by rw [h4]; decide), if_neg (by rw [h5]; decide)]
theorem rr_ok {P : Nat → Int32} {L sn : Nat} {nu : Int32} (h : (rr P L sn nu).1 = true) : sn + 5 ≤ (rr P L sn nu).2.1 ∧ (rr P L sn nu).2.1 ≤ L := by
  cases h1 : rnB P L sn 0 with
  | false => rw [rr_1 h1] at h; cases h
  | true =>
    cases h2 : ihM P L (rnS P L sn (nI 15)) (nI 45) (nI 45) with
    | false => rw [rr_2 h1 h2] at h; cases h
    | true =>
      cases h3 : rnB P L (rnS P L sn (nI 15) + 1) 0 with
      | false => rw [rr_3 h1 h2 h3] at h; cases h
      | true =>
        cases h4 : ihM P L (rnS P L (rnS P L sn (nI 15) + 1) (nI 15)) (nI 58) (nI 58) with
        | false => rw [rr_4 h1 h2 h3 h4] at h; cases h
        | true =>
          cases h5 : rnB P L (rnS P L (rnS P L sn (nI 15) + 1) (nI 15) + 1) 1 with
          | false => rw [rr_5 h1 h2 h3 h4 h5] at h; cases h
          | true =>
            rw [rr_6 h1 h2 h3 h4 h5]
            have g1 := rnS_b (mo9 := nI 15) h1
            have g3 := rnS_b (mo9 := nI 15) h3
            have g5 := rnS_b (mo9 := nI 99) h5
            simp only
            omega
def rrF (P : Nat → Int32) (L sn rm : Nat) (nu : Int32) (f : Nat → Int32) : Nat → Int32 := if (rr P L sn nu).1 = true then upd (upd (upd f (3 * rm) (rr P L sn nu).2.2.2.1) (3 * rm + 1) (rr P L sn nu).2.2.2.2) (3 * rm + 2) (rr P L sn nu).2.2.1 else f
def rrK (P : Nat → Int32) (L sn rm : Nat) (nu : Int32) : Nat := if (rr P L sn nu).1 = true then rm + 1 else rm
/-- the whole pad: the answer, then spot, number, how many roads, and their row -/
def fgM (P : Nat → Int32) (L : Nat) : Nat → Nat → Int32 → Nat → (Nat → Int32) → Int32 × Nat × Int32 × Nat × (Nat → Int32)
  | 0, sn, nu, rm, f => (0, sn, nu, rm, f)
  | m + 1, sn, nu, rm, f =>
    if (rr P L sn nu).1 = false then (nI (rr P L sn nu).2.1, (rr P L sn nu).2.1, (rr P L sn nu).2.2.1, rm, f)
    else if ihM P L (rr P L sn nu).2.1 (nI 59) (nI 59) = true then fgM P L m ((rr P L sn nu).2.1 + 1) (rr P L sn nu).2.2.1 (rm + 1) (rrF P L sn rm nu f)
    else (if (rr P L sn nu).2.1 = L then -6 else nI (rr P L sn nu).2.1, (rr P L sn nu).2.1, (rr P L sn nu).2.2.1, rm + 1, rrF P L sn rm nu f)
theorem fgM_1 {P : Nat → Int32} {L m sn rm : Nat} {nu : Int32} {f : Nat → Int32} (h : (rr P L sn nu).1 = false) : fgM P L (m + 1) sn nu rm f = (nI (rr P L sn nu).2.1, (rr P L sn nu).2.1, (rr P L sn nu).2.2.1, rm, f) := by rw [fgM, if_pos h]
theorem fgM_2 {P : Nat → Int32} {L m sn rm : Nat} {nu : Int32} {f : Nat → Int32} (h : (rr P L sn nu).1 = true) (h2 : ihM P L (rr P L sn nu).2.1 (nI 59) (nI 59) = true) : fgM P L (m + 1) sn nu rm f = fgM P L m ((rr P L sn nu).2.1 + 1) (rr P L sn nu).2.2.1 (rm + 1) (rrF P L sn rm nu f) := by rw [fgM, if_neg (by rw [h]; decide), if_pos h2]
theorem fgM_3 {P : Nat → Int32} {L m sn rm : Nat} {nu : Int32} {f : Nat → Int32} (h : (rr P L sn nu).1 = true) (h2 : ihM P L (rr P L sn nu).2.1 (nI 59) (nI 59) = false) : fgM P L (m + 1) sn nu rm f = (if (rr P L sn nu).2.1 = L then -6 else nI (rr P L sn nu).2.1, (rr P L sn nu).2.1, (rr P L sn nu).2.2.1, rm + 1, rrF P L sn rm nu f) := by rw [fgM, if_neg (by rw [h]; decide), if_neg (by rw [h2]; decide)]
theorem eP_b1 {f : Nat → Int32} {sc : Int32} {i : Nat} (h : (!anyB (eP1 f sc) i) = false) : (!anyB (eP1 f sc) (i + 1)) = false := by simp only [anyB]; simp at h; rw [h]; rfl
theorem eP_b2 {p : Nat → Bool} {i : Nat} (h : (!anyB p i) = true) (h2 : p i = false) : (!anyB p (i + 1)) = true := by simp only [anyB]; simp at h; rw [h, h2]; rfl
theorem eP_b3 {p : Nat → Bool} {i : Nat} (h2 : p i = true) : (!anyB p (i + 1)) = false := by simp only [anyB]; rw [h2]; simp
theorem eP_b4 {p : Nat → Bool} {i : Nat} (h : (!anyB p i) = false) : (!anyB p (i + 1)) = false := by simp only [anyB]; simp at h; rw [h]; rfl
