/-! THE LEAST LENGTH, on both sides (pure) -/
theorem psL_cong {a a' b b' : Nat → Nat} {le g : Nat → Int32} {k : Nat} (h : ∀ r, r < k → a r = a' r ∧ b r = b' r) : ∀ r, r ≤ k → psL a b le g r = psL a' b' le g r
  | 0, _ => rfl
  | r + 1, hr => by
    rw [psL, psL, psL_cong h r (by omega), (h r (by omega)).1, (h r (by omega)).2]
theorem dL_cong {a a' b b' : Nat → Nat} {le g : Nat → Int32} {k : Nat} (h : ∀ r, r < k → a r = a' r ∧ b r = b' r) : ∀ j, dL a b le g k j = dL a' b' le g k j
  | 0 => rfl
  | j + 1 => by
    show psL a b le (dL a b le g k j) k = psL a' b' le (dL a' b' le g k j) k
    rw [dL_cong h j, psL_cong h k (Nat.le_refl k)]
theorem Con.wk {al al' : Nat → Bool} {a b w : Nat → Nat} {k x v : Nat} (hh : ∀ r, r < k → al r = true → al' r = true) (h : Con al a b k x v) : ∃ d, Wk al' a b w k x v d :=
  h (fun v => ∃ d, Wk al' a b w k x v d) ⟨0, .rf⟩ (fun r hr ha => ⟨fun ⟨d, z⟩ => ⟨_, .s1 hr (hh r hr ha) z⟩, fun ⟨d, z⟩ => ⟨_, .s2 hr (hh r hr ha) z⟩⟩)
theorem Wk.con {al al' : Nat → Bool} {a b w : Nat → Nat} {k x v d : Nat} (hh : ∀ r, r < k → al' r = true → al r = true) (h : Wk al' a b w k x v d) : Con al a b k x v :=
  h (fun v _ => Con al a b k x v) .rf (fun r hr ha _ => ⟨fun z => .s1 hr (hh r hr ha) z, fun z => .s2 hr (hh r hr ha) z⟩)
def mln (A : Nat → Int32) (r : Nat) : Nat := (A (62 + r)).toNatClampNeg
section RNG
variable {k n : Nat} {lo hi le en A : Nat → Int32}
theorem TwR.ln (h : TwR k n lo hi le en A) {r : Nat} (hr : r < k) : A (62 + r) = nI (mln A r) ∧ 1 ≤ mln A r ∧ mln A r ≤ 99 := by
  obtain ⟨-, -, -, z, h1, h2, e⟩ := h.2.2 r hr
  have e2 : mln A r = z := by rw [mln, e, nI_clamp (by omega)]
  rw [e2]
  exact ⟨e, h1, h2⟩
theorem len_eq (h : TwR k n lo hi le en A) {a b : Nat → Nat} (ha : ∀ r, r < k → a r = mlo A r) (hb : ∀ r, r < k → b r = mhi A r) {x y : Nat} (hx : x < n) (hy : y < n) (hG : CG A k x y) (F : Nat → Int32) : ∃ t, t < 1584 ∧ dL a b le (d0 x) k 16 y = nI t ∧ farM A (nI 0) true F k x y = nI t := by
  have h16 := h.1.2.2
  have hk := h.1.1
  have hw : ∃ d, Wk (fun _ => true) (mlo A) (mhi A) (mln A) k x y d := hG.wk (fun _ _ _ => rfl)
  obtain ⟨t, ht, -, hlt, hf⟩ := far_yes (al := fun _ => true) (a := mlo A) (b := mhi A) (w := mln A) (k := k) (x := x) (by omega) h.ab16 (fun r hr _ => (h.ln hr).2.1) (c := 99) (fun r hr _ => (h.ln hr).2.2) hw
  refine ⟨t, by have := hlt (by omega); omega, ?_, ?_⟩
  · rw [dL_cong (a' := mlo A) (b' := mhi A) (fun r hr => ⟨ha r hr, hb r hr⟩)]
    have h1 := (dL_N (al := fun _ => true) (a := mlo A) (b := mhi A) (w := mln A) (k := k) (x := x) (le := le) (fun _ _ => rfl) (fun r hr => ⟨(h.2.2 r hr).1.2.2.1.trans (h.ln hr).1, by have := (h.ln hr).2.2; omega⟩) 16).1 y
    rw [h1, hf 1584 (by omega)]
  · have h2 := (farM_N (al := fun _ => true) (w := mln A) (k := k) (x := x) (A := A) (m := nI 0) (bl := true) (F := F) h.ab16 (fun r hr => by rw [cnt_0w (by omega)]; rfl) (fun r hr _ => ⟨(byM2 (cnt_0w (by omega))).trans (h.ln hr).1, by have := (h.ln hr).2.2; omega⟩) 16).1 y (by omega)
    rw [farM, h2, hf 100000 (by omega)]
end RNG
