/-! THE SAME TOWN, kept: copies, other numbers of squares, the new town (pure) -/
section KEEP
variable {k n : Nat} {lo hi le en A : Nat → Int32}
theorem TwR.cong (h : TwR k n lo hi le en A) {lo' hi' le' en' : Nat → Int32} (e : ∀ r, r < k → lo' r = lo r ∧ hi' r = hi r ∧ le' r = le r ∧ en' r = en r) : TwR k n lo' hi' le' en' A := by
  refine ⟨h.1, h.2.1, fun r hr => ?_⟩
  obtain ⟨e1, e2, e3, e4⟩ := e r hr
  rw [e1, e2, e3, e4]
  exact h.2.2 r hr
theorem TwR.row (h : TwR k n lo hi le en A) {A' : Nat → Int32} (e : ∀ j, j < 92 → A' j = A j) : TwR k n lo hi le en A' := by
  obtain ⟨h1, ⟨h2, h3⟩, h4⟩ := h
  refine ⟨h1, ⟨(e 0 (by omega)).trans h2, (e 1 (by omega)).trans h3⟩, fun r hr => ?_⟩
  have h5 := h1.1
  have := h4 r hr
  unfold enM mlo mhi at this ⊢
  rw [e (2 + r) (by omega), e (32 + r) (by omega), e (62 + r) (by omega)]
  exact this
theorem TwR.cpy (h : TwR k n lo hi le en A) (f1 f2 f3 f4 : Nat → Int32) : TwR k n (va_cpy lo f1 0 0 30) (va_cpy hi f2 0 0 30) (va_cpy le f3 0 0 30) (va_cpy en f4 0 0 30) A :=
  h.cong (fun r hr => by
    have h1 := h.1.1
    exact ⟨cpy_in (by omega), cpy_in (by omega), cpy_in (by omega), cpy_in (by omega)⟩)
theorem TwR.sq (h : TwR k n lo hi le en A) {m : Nat} (h2 : 2 ≤ m) (h16 : m ≤ 16) (hf : fitsB hi k (nI m) = true) : TwR k m lo hi le en (upd A 0 (nI m)) := by
  have hfit : ∀ r, r < k → hi r < nI m := of_decide_eq_true hf
  refine ⟨⟨h.1.1, h2, h16⟩, ⟨by simp [upd], by simp only [upd]; exact h.2.1.2⟩, fun r hr => ?_⟩
  have hh := h.2.2 r hr
  have hb := h.ab16 r hr
  have hlt : mhi A r < m := by
    have h3 := hfit r hr
    rw [hh.1.2.1, hh.2.1.2] at h3
    have h4 := Int32.lt_iff_toInt_lt.mp h3
    rw [nI_toInt (by omega), nI_toInt (by omega)] at h4
    omega
  have e : ∀ j, 1 ≤ j → upd A 0 (nI m) j = A j := fun j hj => by rw [upd, if_neg (by omega)]
  unfold mhi at hlt
  unfold enM mlo mhi at hh ⊢
  rw [e (2 + r) (by omega), e (32 + r) (by omega), e (62 + r) (by omega)]
  exact ⟨hh.1, hh.2.1, ⟨hh.2.2.1.1, hlt⟩, hh.2.2.2⟩
theorem TwR.new (lo hi le en : Nat → Int32) : TwR 0 8 lo hi le en (upd (fun _ => 0) 0 (nI 8)) :=
  ⟨⟨by omega, by omega, by omega⟩, ⟨rfl, rfl⟩, fun r hr => absurd hr (Nat.not_lt_zero r)⟩
theorem TwR.okl (h : TwR k n lo hi le en A) : okL lo k ∧ okL hi k := by
  refine ⟨okL_of (fun r hr => ?_), okL_of (fun r hr => ?_)⟩
  · exact ⟨mlo A r, (h.ab16 r hr).1, (h.2.2 r hr).1.1.trans (h.2.2 r hr).2.1.1⟩
  · exact ⟨mhi A r, (h.ab16 r hr).2, (h.2.2 r hr).1.2.1.trans (h.2.2 r hr).2.1.2⟩
end KEEP
