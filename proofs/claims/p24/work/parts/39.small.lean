/-! SMALL ONES (pure) -/
theorem pSq_eq {f g : Nat → Int32} {n : Nat} (h : ∀ q, q < n → f q = g q) : ∀ j, j ≤ n → pSq f j = pSq g j
  | 0, _ => rfl
  | j + 1, hj => by
    simp only [pSq]
    rw [pSq_eq h j (by omega), h j (by omega)]
section SML
variable {k n : Nat} {lo hi le en A : Nat → Int32}
/-- the squares that part -/
theorem pSq_mp (h : TwR k n lo hi le en A) {po lS : Nat → Int32} (hs : SvR k n A po lS) : pSq (mPr en po k n) n = pSq (mpM A k n) n := pSq_eq (fun _ hq => mPr_eq h hq (hs.1 _ hq)) n (Nat.le_refl n)
/-- the best road: both sides' rounds -/
theorem bb_eq (h : TwR k n lo hi le en A) {po lS : Nat → Int32} {pr : Int32} (hs : SvR k n A po lS) (hp : pr = pgM A k k) (s0 : Int32 × Nat × Nat) {i : Nat} (hi' : i ≤ n) : bbO (pfA pr po lS k) n s0 i = bbO (pfM A k) n s0 i :=
  bbO_eq (fun x y hxy hy => pfA_eq h hs hp (by omega) (by have := h.1.2.2; omega)) i hi'
/-- the worst loss: both sides' rounds -/
theorem wl_both (h : TwR k n lo hi le en A) {po lS : Nat → Int32} (hs : SvR k n A po lS) {a : Nat → Nat} (ha : ∀ r, r < k → a r = mlo A r) {r : Nat} (hr : r < k) : wlM A k (r + 1) = (nI (wlR (ppR po lS a) (r + 1)).1, (wlR (ppR po lS a) (r + 1)).2) := by
  refine wl_eq (fun q hq => ⟨ppR_eq h hs hq (ha q hq), ?_⟩) r hr
  unfold plM
  split
  · have h1 := bcnt_le (fun i => (rsM A (nI 1 <<< (nI q &&& 31)) (-6) k (mlo A q)).toBitVec.getLsbD i) 32
    have h2 := bcnt_le (fun i => (rsM A (nI 1 <<< (nI q &&& 31)) (-6) k (mhi A q)).toBitVec.getLsbD i) 32
    have h3 := Nat.mul_le_mul h1 h2
    exact Nat.lt_of_le_of_lt h3 (by decide)
  · omega
end SML
