/-! THE REFERENCE'S FUNCTIONS (pure) -/
def mlo (A : Nat → Int32) (r : Nat) : Nat := (A (2 + r)).toNatClampNeg
def mhi (A : Nat → Int32) (r : Nat) : Nat := (A (32 + r)).toNatClampNeg
def okA (A : Nat → Int32) (k : Nat) : Prop := ∀ r, r < k → A (2 + r) = nI (mlo A r) ∧ mlo A r < 16 ∧ A (32 + r) = nI (mhi A r) ∧ mhi A r < 16
def enM (A : Nat → Int32) (r : Nat) : Int32 := (nI 1 <<< (nI (mlo A r) &&& 31)) ||| (nI 1 <<< (nI (mhi A r) &&& 31))
def alM (A : Nat → Int32) (w z : Int32) (r : Nat) : Bool := !cnt w (nI r) && (!decide (nI (mlo A r) = z) && !decide (nI (mhi A r) = z))
/-- a pass over the roads that are allowed -/
def psG (al : Nat → Bool) (en : Nat → Int32) (x : Int32) : Nat → Int32
  | 0 => x
  | r + 1 => if al r = true ∧ ¬ (psG al en x r &&& en r) = 0 then psG al en x r ||| en r else psG al en x r
def rG (al : Nat → Bool) (en : Nat → Int32) (k q : Nat) : Nat → Int32
  | 0 => nI 1 <<< (nI q &&& 31)
  | j + 1 => psG al en (rG al en k q j) k
def mrG (al : Nat → Bool) (en : Nat → Int32) (k q : Nat) : Nat → Bool
  | 0 => true
  | j + 1 => !decide (rG al en k q (j + 1) = rG al en k q j)
def rsM (A : Nat → Int32) (w z : Int32) (k q : Nat) : Int32 := rG (alM A w z) (enM A) k q 16
theorem or_z (x : Int32) : x ||| nI 0 = x := b_ext (fun i _ => by rw [b_or, nI_0, b_0, Bool.or_false])
theorem and_comm32 (x y : Int32) : x &&& y = y &&& x := b_ext (fun i _ => by rw [b_and, b_and, Bool.and_comm])
theorem rG_fix {al : Nat → Bool} {en : Nat → Int32} {k q j : Nat} (h : rG al en k q (j + 1) = rG al en k q j) : ∀ i, rG al en k q (j + i) = rG al en k q j
  | 0 => rfl
  | i + 1 => by
    show psG al en (rG al en k q (j + i)) k = _
    rw [rG_fix h i]
    exact h
theorem psG_mono {al : Nat → Bool} {en : Nat → Int32} {x : Int32} {i : Nat} (h : bt x i = true) : ∀ r, bt (psG al en x r) i = true
  | 0 => h
  | r + 1 => by
    have ih := psG_mono (al := al) (en := en) h r
    simp only [psG]
    split
    · rw [b_or, ih, Bool.true_or]
    · exact ih
theorem psG_small {al : Nat → Bool} {en : Nat → Int32} {x : Int32} {i : Nat} : ∀ {r : Nat}, bt x i = false → (∀ j, j < r → bt (en j) i = false) → bt (psG al en x r) i = false
  | 0, h, _ => h
  | r + 1, h, he => by
    have ih := psG_small (al := al) (r := r) h (fun j hj => he j (by omega))
    simp only [psG]
    split
    · rw [b_or, ih, he r (by omega), Bool.or_false]
    · exact ih
theorem bit_bt {q i : Nat} (hq : q < 32) (hi : i < 32) : bt (nI 1 <<< (nI q &&& 31)) i = decide (i = q) := by
  rw [b_shl q hq _ hi]
  have h1 : ∀ j, bt (nI 1) j = decide (j = 0) := fun j => by
    rcases Nat.lt_or_ge j 32 with hj | hj
    · exact (by decide +kernel : ∀ j, j < 32 → bt (nI 1) j = decide (j = 0)) j hj
    · rw [b_big hj, decide_eq_false (by omega)]
  rw [h1]
  by_cases e : i = q
  · subst e; simp
  · rw [decide_eq_false e]
    by_cases h : q ≤ i
    · rw [decide_eq_true h, decide_eq_false (by omega)]; rfl
    · rw [decide_eq_false h]; rfl
theorem enM_small {A : Nat → Int32} {k r i : Nat} (hA : okA A k) (hr : r < k) (h : 16 ≤ i) (hi : i < 32) : bt (enM A r) i = false := by
  obtain ⟨-, h2, -, h4⟩ := hA r hr
  rw [enM, b_or, bit_bt (by omega) hi, bit_bt (by omega) hi, decide_eq_false (by omega), decide_eq_false (by omega)]
  rfl
theorem rG_small {al : Nat → Bool} {en : Nat → Int32} {k q i : Nat} (hq : q < 16) (hen : ∀ r, r < k → bt (en r) i = false) (h : 16 ≤ i) (hi : i < 32) : ∀ j, bt (rG al en k q j) i = false
  | 0 => by rw [rG, bit_bt (by omega) hi, decide_eq_false (by omega)]
  | j + 1 => psG_small (rG_small hq hen h hi j) hen
theorem bcnt_sub {p q : Nat → Bool} : ∀ {n : Nat}, (∀ i, i < n → p i = true → q i = true) → bcnt p n ≤ bcnt q n
  | 0, _ => Nat.le_refl 0
  | n + 1, h => by
    have h1 := bcnt_sub (n := n) (fun i hi => h i (by omega))
    have h2 := h n (by omega)
    simp only [bcnt]
    cases hp : p n with
    | true => rw [h2 hp]; simp only [if_true]; omega
    | false => simp only [Bool.false_eq_true, if_false]; omega
theorem bcnt_lt {p q : Nat → Bool} : ∀ {n : Nat}, (∀ i, i < n → p i = true → q i = true) → (∃ i, i < n ∧ p i = false ∧ q i = true) → bcnt p n < bcnt q n
  | 0, _, h => by obtain ⟨i, hi, -⟩ := h; omega
  | n + 1, h, ⟨i, hi, h1, h2⟩ => by
    simp only [bcnt]
    by_cases e : i = n
    · subst e
      have h3 := bcnt_sub (n := i) (fun j hj => h j (by omega))
      rw [h1, h2]; simp only [Bool.false_eq_true, if_false, if_true]; omega
    · have h3 := bcnt_lt (n := n) (fun j hj => h j (by omega)) ⟨i, by omega, h1, h2⟩
      have h4 := h n (by omega)
      cases hp : p n with
      | true => rw [h4 hp]; simp only [if_true]; omega
      | false => simp only [Bool.false_eq_true, if_false]; omega
theorem popc_grow {x y : Int32} (h : ∀ i, bt x i = true → bt y i = true) (hne : ¬ y = x) : popc x < popc y := by
  refine bcnt_lt (fun i _ hi => h i hi) (Classical.byContradiction fun q => hne (b_ext (fun i hi => ?_)))
  cases hx : bt x i with
  | true => exact h i hx
  | false =>
    cases hy : bt y i with
    | false => rfl
    | true => exact absurd ⟨i, hi, hx, hy⟩ q
theorem popc_16 {x : Int32} (h : ∀ i, 16 ≤ i → i < 32 → bt x i = false) : popc x ≤ 16 := by
  have e : popc x = bcnt (bt x) 16 + bcnt (fun i => bt x (16 + i)) 16 := bcnt_split (bt x) 16 16
  have h2 : bcnt (fun i => bt x (16 + i)) 16 = bcnt (fun _ => false) 16 := bcnt_cong (fun i hi => h (16 + i) (by omega) (by omega))
  have h3 : bcnt (fun _ => false) 16 = 0 := by decide
  have h4 := bcnt_le (bt x) 16
  omega
theorem mrG_grow {al : Nat → Bool} {en : Nat → Int32} {k q : Nat} : ∀ j, mrG al en k q j = true → j ≤ popc (rG al en k q j)
  | 0, _ => Nat.zero_le _
  | j + 1, h => by
    have hne : ¬ rG al en k q (j + 1) = rG al en k q j := by simpa [mrG] using h
    have hj : mrG al en k q j = true := by
      cases j with
      | zero => rfl
      | succ i =>
        simp only [mrG, Bool.not_eq_true', decide_eq_false_iff_not]
        intro e
        exact hne ((rG_fix e 2).trans (rG_fix e 1).symm)
    have h1 := mrG_grow j hj
    have h2 : popc (rG al en k q j) < popc (rG al en k q (j + 1)) := popc_grow (fun i hi => psG_mono hi k) hne
    omega
theorem mrG_T {al : Nat → Bool} {en : Nat → Int32} {k q j : Nat} (hq : q < 16) (hen : ∀ i, 16 ≤ i → i < 32 → ∀ r, r < k → bt (en r) i = false) (h : mrG al en k q j = true) : j ≤ 16 :=
  Nat.le_trans (mrG_grow j h) (popc_16 (fun i h1 h2 => rG_small hq (hen i h1 h2) h1 h2 j))
theorem mrG_end {al : Nat → Bool} {en : Nat → Int32} {k q j : Nat} (hj : j ≤ 17) (h : mrG al en k q j = false) : rG al en k q j = rG al en k q 16 := by
  cases j with
  | zero => exact absurd h (by simp [mrG])
  | succ j =>
    have h0 : rG al en k q (j + 1) = rG al en k q j := by simpa [mrG] using h
    have h1 := rG_fix h0 (16 - j)
    rw [show j + (16 - j) = 16 by omega] at h1
    exact h0.trans h1.symm
theorem rG_closed {al : Nat → Bool} {en : Nat → Int32} {k q : Nat} (hq : q < 16) (hen : ∀ i, 16 ≤ i → i < 32 → ∀ r, r < k → bt (en r) i = false) : psG al en (rG al en k q 16) k = rG al en k q 16 := by
  cases h : mrG al en k q 17 with
  | true => exact absurd (mrG_T hq hen h) (by omega)
  | false => exact mrG_end (Nat.le_refl 17) h
theorem alM_f1 {A : Nat → Int32} {w z : Int32} {r : Nat} (h : cnt w (nI r) = true) : alM A w z r = false := by rw [alM, h]; rfl
theorem alM_f2 {A : Nat → Int32} {w z : Int32} {r : Nat} (h : nI (mlo A r) = z) : alM A w z r = false := by rw [alM, decide_eq_true h]; simp
theorem alM_f3 {A : Nat → Int32} {w z : Int32} {r : Nat} (h : nI (mhi A r) = z) : alM A w z r = false := by rw [alM, decide_eq_true h]; simp
theorem alM_t {A : Nat → Int32} {w z : Int32} {r : Nat} (h1 : cnt w (nI r) = false) (h2 : ¬ nI (mlo A r) = z) (h3 : ¬ nI (mhi A r) = z) : alM A w z r = true := by rw [alM, h1, decide_eq_false h2, decide_eq_false h3]; rfl
theorem psG_f1 {al : Nat → Bool} {en : Nat → Int32} {x : Int32} {r : Nat} (h : al r = false) : psG al en x (r + 1) = psG al en x r := by rw [psG, ifn1 (by rw [h]; decide)]
theorem psG_f2 {al : Nat → Bool} {en : Nat → Int32} {x : Int32} {r : Nat} (h : (psG al en x r &&& en r) = 0) : psG al en x (r + 1) = psG al en x r := by rw [psG, ifn2 (fun q => q h)]
theorem psG_t {al : Nat → Bool} {en : Nat → Int32} {x : Int32} {r : Nat} (h1 : al r = true) (h : ¬ (psG al en x r &&& en r) = 0) : psG al en x (r + 1) = psG al en x r ||| en r := by rw [psG, if_pos (And.intro h1 h)]
/-- Kernighan's step: the lowest bit is taken away -/
theorem low_bit : ∀ Y : Nat, 0 < Y → ∃ t u : Nat, Y = 2 ^ (t + 1) * u + 2 ^ t := by
  intro Y
  induction Y using Nat.strongRecOn with
  | _ Y ih =>
    intro h
    rcases Nat.mod_two_eq_zero_or_one Y with e | e
    · obtain ⟨t, u, h1⟩ := ih (Y / 2) (by omega) (by omega)
      refine ⟨t + 1, u, ?_⟩
      have h2 : Y = 2 * (Y / 2) := by omega
      rw [h2, h1, Nat.pow_succ 2 (t + 1), Nat.pow_succ 2 t, Nat.mul_add]
      congr 1
      · simp only [Nat.mul_assoc, Nat.mul_left_comm, Nat.mul_comm]
      · rw [Nat.mul_comm]
    · exact ⟨0, Y / 2, by omega⟩
theorem ker_and (t u : Nat) : (2 ^ (t + 1) * u + 2 ^ t) &&& (2 ^ (t + 1) * u + 2 ^ t - 1) = 2 ^ (t + 1) * u := by
  have hp : 0 < 2 ^ t := Nat.two_pow_pos t
  have hlt : 2 ^ t < 2 ^ (t + 1) := Nat.pow_lt_pow_right (by decide) (by omega)
  rw [show 2 ^ (t + 1) * u + 2 ^ t - 1 = 2 ^ (t + 1) * u + (2 ^ t - 1) by omega]
  apply Nat.eq_of_testBit_eq
  intro j
  rw [Nat.testBit_and, Nat.testBit_two_pow_mul_add _ hlt, Nat.testBit_two_pow_mul_add _ (by omega)]
  have h0 : (2 ^ (t + 1) * u).testBit j = if j < t + 1 then false else u.testBit (j - (t + 1)) := by
    have h := Nat.testBit_two_pow_mul_add u (show 0 < 2 ^ (t + 1) from Nat.two_pow_pos _) j
    rw [Nat.add_zero] at h
    rw [h, Nat.zero_testBit]
  rw [h0]
  by_cases hj : j < t + 1
  · rw [if_pos hj, if_pos hj, if_pos hj, Nat.testBit_two_pow_sub_one, Nat.testBit_two_pow]
    by_cases e : j < t
    · rw [decide_eq_false (show ¬ t = j by omega)]; rfl
    · rw [decide_eq_false e, Bool.and_false]
  · rw [if_neg hj, if_neg hj, if_neg hj, Bool.and_self]
theorem bcnt_one {p q : Nat → Bool} {t : Nat} : ∀ {n : Nat}, (∀ i, i < n → ¬ i = t → p i = q i) → t < n → p t = true → q t = false → bcnt p n = bcnt q n + 1
  | 0, _, h, _, _ => absurd h (Nat.not_lt_zero t)
  | n + 1, h, ht, h1, h2 => by
    simp only [bcnt]
    by_cases e : t = n
    · subst e
      rw [bcnt_cong (fun i hi => h i (by omega) (by omega)), h1, h2]
      simp
    · rw [bcnt_one (n := n) (fun i hi => h i (by omega)) (by omega) h1 h2, h n (by omega) (fun q => e q.symm)]
      omega
theorem popc_ker {y : Int32} (h : ¬ y = 0) : popc (y &&& (y - nI 1)) + 1 = popc y := by
  obtain ⟨Y, hY, rfl⟩ := wb_of32 y
  have h0 : 0 < Y := Nat.pos_of_ne_zero (fun q => h (by subst q; rfl))
  obtain ⟨t, u, rfl⟩ := low_bit Y h0
  have ht : t < 32 := Classical.byContradiction fun q => by
    have h1 : 2 ^ 32 ≤ 2 ^ t := Nat.pow_le_pow_right (by decide) (by omega)
    omega
  rw [pk_sub (by omega), fa_and, ker_and]
  symm
  have hlt : 2 ^ t < 2 ^ (t + 1) := Nat.pow_lt_pow_right (by decide) (by omega)
  refine bcnt_one (t := t) (fun i hi hne => ?_) ht ?_ ?_
  · show bt _ i = bt _ i
    rw [bt_nI _ hi, bt_nI _ hi, Nat.testBit_two_pow_mul_add _ hlt]
    have h := Nat.testBit_two_pow_mul_add u (show 0 < 2 ^ (t + 1) from Nat.two_pow_pos _) i
    rw [Nat.add_zero] at h
    rw [h, Nat.zero_testBit, Nat.testBit_two_pow, decide_eq_false (fun q => hne q.symm)]
  · show bt _ t = true
    rw [bt_nI _ ht, Nat.testBit_two_pow_mul_add _ hlt, if_pos (by omega), Nat.testBit_two_pow, decide_eq_true rfl]
  · show bt _ t = false
    have h := Nat.testBit_two_pow_mul_add u (show 0 < 2 ^ (t + 1) from Nat.two_pow_pos _) t
    rw [Nat.add_zero] at h
    rw [bt_nI _ ht, h, if_pos (by omega), Nat.zero_testBit]
def lwF (x : Int32) : Nat → Nat → Nat
  | i, 0 => i
  | i, n + 1 => if cnt x (nI i) = true then i else lwF x (i + 1) n
