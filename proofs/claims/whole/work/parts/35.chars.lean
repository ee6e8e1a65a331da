/-! THE CHARACTERS of a long, on both sides (pure) -/
theorem us8_nat (x : Int64) : (us8 x).toUInt64.toNat = x.toUInt64.toNat / 256 := by
  unfold us8
  rw [show ((nI 8).toInt64.toUInt64 &&& Int64.toUInt64 63) = (8 : UInt64) by decide]
  show (x.toUInt64 >>> 8).toNat = _
  rw [UInt64.toNat_shiftRight, Nat.shiftRight_eq_div_pow]
  rfl
theorem z64 {x : Int64} (h : x.toUInt64.toNat = 0) : x = 0 := by
  have h1 : x.toUInt64 = 0 := UInt64.toNat_inj.mp h
  exact congrArg Int64.ofUInt64 h1
theorem mcF_false : ∀ n x c, (mcF x false c n).2.1 = false
  | 0, _, _ => rfl
  | n + 1, x, c => by
    simp only [mcF]
    split
    · rfl
    · rw [Bool.false_and]
      exact mcF_false n _ _
theorem ch_eq : ∀ n x c, x.toUInt64.toNat < 256 ^ n → chG x c n = if (mcF x true c n).1 = 0 ∧ (mcF x true c n).2.1 = true then (mcF x true c n).2.2 else 0
  | 0, x, c, h => by
    have hx : x = 0 := z64 (by omega)
    rw [mcF_0 rfl, if_pos ⟨hx, rfl⟩]
    rfl
  | n + 1, x, c, h => by
    by_cases hx : x = 0
    · rw [chG_z hx, mcF_z (by rw [hx]; decide), if_pos ⟨hx, rfl⟩]
    · by_cases hz : (x &&& 255) = 0
      · rw [chG_b1 (Nat.succ_pos n) hx (by rw [hz]; decide), mcF_z hz, if_neg (fun q => hx q.1)]
      · rw [mcF_s rfl hz, Bool.true_and]
        by_cases h1 : (x &&& 255) < 33
        · rw [chG_b1 (Nat.succ_pos n) hx h1, inL_f1 h1, if_neg (fun q => absurd ((mcF_false n _ _).symm.trans q.2) (by decide))]
        · by_cases h2 : 126 < (x &&& 255)
          · rw [chG_b2 (Nat.succ_pos n) hx h2, inL_f2 h2, if_neg (fun q => absurd ((mcF_false n _ _).symm.trans q.2) (by decide))]
          · rw [chG_s rfl hx h1 h2, inL_t h1 h2]
            refine ch_eq n (us8 x) (c + 1) ?_
            rw [us8_nat]
            rw [Nat.pow_succ] at h
            omega
theorem ch_8 (x : Int64) : chG x 0 8 = if (mcF x true 0 8).1 = 0 ∧ (mcF x true 0 8).2.1 = true then (mcF x true 0 8).2.2 else 0 := ch_eq 8 x 0 (by have h := x.toUInt64.toNat_lt; omega)
