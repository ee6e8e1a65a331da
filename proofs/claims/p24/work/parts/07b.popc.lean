/-! Integer.bitCount counts bits -/
theorem bcnt_cong {p q : Nat → Bool} : ∀ {n : Nat}, (∀ i, i < n → p i = q i) → bcnt p n = bcnt q n
  | 0, _ => rfl
  | n + 1, h => by rw [bcnt, bcnt, bcnt_cong (fun i hi => h i (by omega)), h n (by omega)]
theorem bcnt_split (p : Nat → Bool) (m : Nat) : ∀ n, bcnt p (m + n) = bcnt p m + bcnt (fun i => p (m + i)) n
  | 0 => rfl
  | n + 1 => by
    show bcnt p (m + n) + _ = bcnt p m + (bcnt (fun i => p (m + i)) n + _)
    rw [bcnt_split p m n, Nat.add_assoc]
    rfl
def ush (x : Int32) (k : Nat) : Int32 := (x.toUInt32 >>> ((nI k).toUInt32 &&& Int32.toUInt32 31)).toInt32
def swA (x : Int32) : Int32 := x - (ush x 1 &&& nI 1431655765)
def swB (a : Int32) : Int32 := (a &&& nI 858993459) + (ush a 2 &&& nI 858993459)
def swC (b : Int32) : Int32 := (b + ush b 4) &&& nI 252645135
def swX (c : Int32) : Int32 := c + ush c 8
def swE (d : Int32) : Int32 := d + ush d 16
theorem usN {n : Nat} (hn : n < 2 ^ 32) (k : Nat) (hk : k < 32) : ush (nI n) k = nI (n / 2 ^ k) := pk_ushrN hn (nI k) k (s_u k hk)
theorem mkS {w b s M m : Nat} (hb : b < 256) (hs : s ≤ 8) (hm : m < 2 ^ (8 - s)) : ((256 * w + b) / 2 ^ s) &&& (256 * M + m) = 256 * ((w / 2 ^ s) &&& M) + ((b / 2 ^ s) &&& m) := by
  have hm8 : m < 2 ^ 8 := Nat.lt_of_lt_of_le hm (Nat.pow_le_pow_right (by decide) (by omega))
  have hbm : ((b / 2 ^ s) &&& m) < 2 ^ 8 := Nat.lt_of_le_of_lt Nat.and_le_right hm8
  apply Nat.eq_of_testBit_eq
  intro j
  rw [show (256 : Nat) = 2 ^ 8 by decide, Nat.testBit_and, Nat.testBit_div_two_pow, Nat.testBit_two_pow_mul_add _ hb, Nat.testBit_two_pow_mul_add _ hm8, Nat.testBit_two_pow_mul_add _ hbm]
  by_cases hj : j < 8
  · rw [if_pos hj, if_pos hj, Nat.testBit_and, Nat.testBit_div_two_pow]
    by_cases h2 : s + j < 8
    · rw [if_pos (by omega), Nat.add_comm j s]
    · have h3 : m.testBit j = false := Nat.testBit_lt_two_pow (Nat.lt_of_lt_of_le hm (Nat.pow_le_pow_right (by decide) (by omega)))
      rw [h3, Bool.and_false, Bool.and_false]
  · rw [if_neg hj, if_neg hj, if_neg (by omega), Nat.testBit_and, Nat.testBit_div_two_pow, show j + s - 8 = j - 8 + s by omega]
def fA (M X : Nat) : Nat := X - (X / 2 &&& M)
def fB (M a : Nat) : Nat := (a &&& M) + (a / 4 &&& M)
def fC (M a : Nat) : Nat := (a + a / 16) &&& M
theorem fA_s {w b M : Nat} (hb : b < 256) : fA (256 * M + 85) (256 * w + b) = 256 * fA M w + fA 85 b := by
  have h := mkS (w := w) (M := M) (m := 85) (s := 1) hb (by omega) (by decide)
  simp only [Nat.pow_one] at h
  have h1 : (w / 2 &&& M) ≤ w / 2 := Nat.and_le_left
  have h2 : (b / 2 &&& 85) ≤ b / 2 := Nat.and_le_left
  simp only [fA, h]
  omega
theorem fB_s {w b M : Nat} (hb : b < 256) : fB (256 * M + 51) (256 * w + b) = 256 * fB M w + fB 51 b := by
  have h := mkS (w := w) (M := M) (m := 51) (s := 2) hb (by omega) (by decide)
  have h0 := mkS (w := w) (M := M) (m := 51) (s := 0) hb (by omega) (by decide)
  rw [show (2 : Nat) ^ 2 = 4 by decide] at h
  rw [show (2 : Nat) ^ 0 = 1 by decide] at h0
  simp only [Nat.div_one] at h0
  simp only [fB, h, h0]
  omega
theorem fC_s {w b M : Nat} (hb : b ≤ 68) (hw : w % 16 ≤ 4) : fC (256 * M + 15) (256 * w + b) = 256 * fC M w + fC 15 b := by
  have e : 256 * w + b + (256 * w + b) / 16 = 256 * (w + w / 16) + (b + b / 16 + 16 * (w % 16)) := by omega
  have h0 := mkS (w := w + w / 16) (b := b + b / 16 + 16 * (w % 16)) (M := M) (m := 15) (s := 0) (by omega) (by omega) (by decide)
  rw [show (2 : Nat) ^ 0 = 1 by decide] at h0
  simp only [Nat.div_one] at h0
  simp only [fC, e, h0]
  have m1 : ∀ x : Nat, x &&& 15 = x % 16 := fun x => Nat.and_two_pow_sub_one_eq_mod x 4
  rw [m1, m1]
  omega
def pB (v : Nat) : Nat := bcnt (fun i => v.testBit i) 8
theorem byte_all : ∀ v, v < 256 → fA 85 v < 256 ∧ fB 51 (fA 85 v) ≤ 68 ∧ fB 51 (fA 85 v) % 16 ≤ 4 ∧ fC 15 (fB 51 (fA 85 v)) = pB v ∧ pB v ≤ 8 := by decide +kernel
theorem four (X : Nat) (h : X < 2 ^ 32) : ∃ v0 v1 v2 v3 : Nat, v0 < 256 ∧ v1 < 256 ∧ v2 < 256 ∧ v3 < 256 ∧ X = 256 * (256 * (256 * v3 + v2) + v1) + v0 :=
  ⟨X % 256, X / 256 % 256, X / 65536 % 256, X / 16777216, by omega, by omega, by omega, by omega, by omega⟩
theorem bt_nI (X : Nat) {i : Nat} (hi : i < 32) : bt (nI X) i = X.testBit i := by
  show (BitVec.ofNat 32 X).getLsbD i = X.testBit i
  rw [BitVec.getLsbD_ofNat, decide_eq_true hi, Bool.true_and]
theorem tb_byte {w b : Nat} (hb : b < 256) (i : Nat) : (256 * w + b).testBit i = if i < 8 then b.testBit i else w.testBit (i - 8) := by
  rw [show (256 : Nat) = 2 ^ 8 by decide, Nat.testBit_two_pow_mul_add _ hb]
theorem bc_byte {w b : Nat} (hb : b < 256) (n : Nat) : bcnt (fun i => (256 * w + b).testBit i) (8 + n) = pB b + bcnt (fun i => w.testBit i) n := by
  rw [bcnt_split]
  congr 1
  · exact bcnt_cong (fun i hi => by rw [tb_byte hb, if_pos hi])
  · exact bcnt_cong (fun i hi => by rw [tb_byte hb, if_neg (by omega)]; congr 1; omega)
theorem popc_four {v0 v1 v2 v3 : Nat} (h0 : v0 < 256) (h1 : v1 < 256) (h2 : v2 < 256) (h3 : v3 < 256) : popc (nI (256 * (256 * (256 * v3 + v2) + v1) + v0)) = pB v0 + (pB v1 + (pB v2 + pB v3)) := by
  have e : popc (nI (256 * (256 * (256 * v3 + v2) + v1) + v0)) = bcnt (fun i => (256 * (256 * (256 * v3 + v2) + v1) + v0).testBit i) 32 := bcnt_cong (fun i hi => bt_nI _ hi)
  rw [e, show (32 : Nat) = 8 + 24 by decide, bc_byte h0, show (24 : Nat) = 8 + 16 by decide, bc_byte h1, show (16 : Nat) = 8 + 8 by decide, bc_byte h2]
  rfl
theorem sw_fin {x0 x1 x2 x3 : Nat} (h0 : x0 ≤ 8) (h1 : x1 ≤ 8) (h2 : x2 ≤ 8) (h3 : x3 ≤ 8) : (256 * (256 * (256 * x3 + x2) + x1) + x0 + (256 * (256 * (256 * x3 + x2) + x1) + x0) / 256 + (256 * (256 * (256 * x3 + x2) + x1) + x0 + (256 * (256 * (256 * x3 + x2) + x1) + x0) / 256) / 65536) % 64 = x0 + (x1 + (x2 + x3)) := by
  have e1 : (256 * (256 * (256 * x3 + x2) + x1) + x0) / 256 = 256 * (256 * x3 + x2) + x1 := by omega
  rw [e1]
  have e2 : (256 * (256 * (256 * x3 + x2) + x1) + x0 + (256 * (256 * x3 + x2) + x1)) / 65536 = 256 * x3 + (x2 + x3) := by omega
  rw [e2]
  omega
theorem sw_eq (x : Int32) : swE (swX (swC (swB (swA x)))) &&& nI 63 = nI (popc x) := by
  obtain ⟨X, hX, rfl⟩ := wb_of32 x
  obtain ⟨v0, v1, v2, v3, h0, h1, h2, h3, rfl⟩ := four X hX
  obtain ⟨a0, b0, c0, d0, p0⟩ := byte_all v0 h0
  obtain ⟨a1, b1, c1, d1, p1⟩ := byte_all v1 h1
  obtain ⟨a2, b2, c2, d2, p2⟩ := byte_all v2 h2
  obtain ⟨a3, b3, c3, d3, p3⟩ := byte_all v3 h3
  have eA : swA (nI (256 * (256 * (256 * v3 + v2) + v1) + v0)) = nI (256 * (256 * (256 * fA 85 v3 + fA 85 v2) + fA 85 v1) + fA 85 v0) := by
    rw [swA, usN hX 1 (by decide), Nat.pow_one, fa_and, pk_sub (Nat.le_trans Nat.and_le_left (Nat.div_le_self _ _))]
    show nI (fA 1431655765 _) = _
    rw [show (1431655765 : Nat) = 256 * (256 * (256 * 85 + 85) + 85) + 85 by decide, fA_s h0, fA_s h1, fA_s h2]
  have eB : swB (nI (256 * (256 * (256 * fA 85 v3 + fA 85 v2) + fA 85 v1) + fA 85 v0)) = nI (256 * (256 * (256 * fB 51 (fA 85 v3) + fB 51 (fA 85 v2)) + fB 51 (fA 85 v1)) + fB 51 (fA 85 v0)) := by
    rw [swB, usN (by omega) 2 (by decide), fa_and, fa_and, nI_add]
    show nI (fB 858993459 _) = _
    rw [show (858993459 : Nat) = 256 * (256 * (256 * 51 + 51) + 51) + 51 by decide, fB_s a0, fB_s a1, fB_s a2]
  have eC : swC (nI (256 * (256 * (256 * fB 51 (fA 85 v3) + fB 51 (fA 85 v2)) + fB 51 (fA 85 v1)) + fB 51 (fA 85 v0))) = nI (256 * (256 * (256 * pB v3 + pB v2) + pB v1) + pB v0) := by
    rw [swC, usN (by omega) 4 (by decide), nI_add, fa_and]
    show nI (fC 252645135 _) = _
    rw [show (252645135 : Nat) = 256 * (256 * (256 * 15 + 15) + 15) + 15 by decide, fC_s b0 (by omega), fC_s b1 (by omega), fC_s b2 c3, d0, d1, d2, d3]
  rw [eA, eB, eC, swX, usN (by omega) 8 (by decide), nI_add, swE, usN (by omega) 16 (by decide), nI_add, fa_and, popc_four h0 h1 h2 h3]
  have m1 : ∀ x : Nat, x &&& 63 = x % 64 := fun x => Nat.and_two_pow_sub_one_eq_mod x 6
  rw [m1, show (2 : Nat) ^ 8 = 256 by decide, show (2 : Nat) ^ 16 = 65536 by decide]
  exact congrArg nI (sw_fin p0 p1 p2 p3)
