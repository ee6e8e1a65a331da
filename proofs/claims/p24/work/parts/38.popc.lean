/-! HOW MANY roads a set holds (pure) -/
theorem orS_popc {F : Nat → Int32} {p : Nat → Bool} (h0 : F 0 = nI 0) (hs : ∀ k, F (k + 1) = if p k = true then F k ||| (nI 1 <<< (nI k &&& 31)) else F k) {k : Nat} (hk : k ≤ 32) : popc (F k) = bcnt p k := by
  have e : popc (F k) = bcnt (fun r => decide (r < k) && p r) 32 := bcnt_cong (fun r hr => orS_bt h0 hs hr k hk)
  have e2 := bcnt_split (fun r => decide (r < k) && p r) k (32 - k)
  rw [show k + (32 - k) = 32 by omega] at e2
  have e3 : bcnt (fun r => decide (r < k) && p r) k = bcnt p k := bcnt_cong (fun r hr => by rw [decide_eq_true hr, Bool.true_and])
  have e4 : bcnt (fun i => decide (k + i < k) && p (k + i)) (32 - k) = 0 := bcnt_none (fun i _ => by rw [decide_eq_false (by omega), Bool.false_and])
  omega
section CNTS
variable {k n : Nat} {lo hi le en A : Nat → Int32}
/-- the roads at a square -/
theorem rAt_ro (h : TwR k n lo hi le en A) {x : Nat} (hx : x < 16) : popc (rAt en (nI x) k) = roM A (nI 1 <<< (nI x &&& 31)) k := by
  have hk := h.1.1
  rw [orS_popc (F := rAt en (nI x)) (p := fun r => cnt (en r) (nI x)) rfl (fun _ => rfl) (by omega)]
  have key : ∀ j, j ≤ k → bcnt (fun r => cnt (en r) (nI x)) j = roM A (nI 1 <<< (nI x &&& 31)) j := by
    intro j
    induction j with
    | zero => intro _; rfl
    | succ j ih =>
      intro hj
      have h1 := ih (by omega)
      obtain ⟨ha, hb⟩ := h.ab16 j (by omega)
      obtain ⟨⟨-, -, -, g4⟩, -, ⟨hlt, -⟩, -⟩ := h.2.2 j (by omega)
      have hne : ¬ (enM A j &&& (nI 1 <<< (nI x &&& 31))) = 0 ↔ cnt (enM A j) (nI x) = true := by
        rw [and_ne0, cnt_bt (by omega)]
        constructor
        · rintro ⟨i, hi, z1, z2⟩
          rw [bit_bt (by omega) hi, decide_eq_true_eq] at z2
          subst z2
          exact z1
        · intro z
          exact ⟨x, by omega, z, by rw [bit_bt (by omega) (by omega), decide_eq_true rfl]⟩
      have hnn : ¬ (enM A j &&& (nI 1 <<< (nI x &&& 31))) = enM A j := fun z => by
        have z2 := (ed_sub (a := mlo A) (b := mhi A) (r := j) (S := nI 1 <<< (nI x &&& 31)) (by omega) (by omega)).mp z
        rw [bit_bt (by omega) (by omega), bit_bt (by omega) (by omega), decide_eq_true_eq, decide_eq_true_eq] at z2
        omega
      simp only [bcnt]
      rw [h1]
      by_cases hc : cnt (enM A j) (nI x) = true
      · rw [if_pos (show cnt (en j) (nI x) = true by rw [g4]; exact hc), roM, if_pos ⟨hne.mpr hc, hnn⟩]
      · rw [if_neg (show ¬ cnt (en j) (nI x) = true by rw [g4]; exact hc), roM, if_neg (fun z => hc (hne.mp z.1))]
        rfl
  exact key k (Nat.le_refl k)
end CNTS
