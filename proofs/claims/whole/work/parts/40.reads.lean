/-! ROADS READ, on both sides (pure) -/
section RDS
variable {k n : Nat} {lo hi le en A : Nat → Int32}
theorem le_lt {x y : Nat} (hx : x < 2 ^ 31) (hy : y < 2 ^ 31) (hne : ¬ x = y) : nI y ≤ nI x ↔ nI y < nI x := by
  rw [Int32.le_iff_toInt_le, Int32.lt_iff_toInt_lt, nI_toInt hx, nI_toInt hy]
  omega
theorem TwR.am (h : TwR k n lo hi le en A) {f : Nat → Int32} : ∀ i, k + i ≤ 30 → (∀ t, t < i → ∃ x y z, x < n ∧ y < n ∧ ¬ x = y ∧ 1 ≤ z ∧ z ≤ 99 ∧ f (3 * t) = nI x ∧ f (3 * t + 1) = nI y ∧ f (3 * t + 2) = nI z) → TwR (k + i) n (amL lo (vMn f) k i) (amL hi (vMx f) k i) (amL le (vLe f) k i) (amL en (vEn f) k i) (adM A k f i)
  | 0, _, _ => h
  | i + 1, hi9, hh => by
    obtain ⟨x, y, z, hx, hy, hne, h1, h2, ex, ey, ez⟩ := hh i (by omega)
    have ih := TwR.am h i (by omega) (fun t ht => hh t (by omega))
    have hn := h.1.2.2
    have c1 := le_lt (x := x) (y := y) (by omega) (by omega) hne
    have c2 := le_lt (x := y) (y := x) (by omega) (by omega) (fun e => hne e.symm)
    rw [adM, ex, ey, ez]
    refine TwR.ad ih (by omega) hx hy hne h1 h2 (fun r hr => ?_) (fun r hr => ?_) (fun r hr => ?_) (fun r hr => ?_)
    · rw [amL, upd]
      by_cases e : r = k + i
      · rw [if_pos e, if_pos e, vMn, ex, ey]
        by_cases c : nI y ≤ nI x
        · rw [if_pos (c1.mp c), if_pos c]
        · rw [if_neg (fun w => c (c1.mpr w)), if_neg c]
      · rw [if_neg e, if_neg e]
    · rw [amL, upd]
      by_cases e : r = k + i
      · rw [if_pos e, if_pos e, vMx, ex, ey]
        by_cases c : nI y ≤ nI x
        · rw [if_neg (Int32.not_lt.mpr c), if_pos c]
        · rw [if_pos (Int32.not_le.mp c), if_neg c]
      · rw [if_neg e, if_neg e]
    · rw [amL, upd]
      by_cases e : r = k + i
      · rw [if_pos e, if_pos e, vLe, ez]
      · rw [if_neg e, if_neg e]
    · rw [amL, upd]
      by_cases e : r = k + i
      · rw [if_pos e, if_pos e, vEn, ex, ey]
      · rw [if_neg e, if_neg e]
end RDS
