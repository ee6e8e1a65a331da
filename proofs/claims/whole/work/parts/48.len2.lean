/-! THE LEAST LENGTH behind the class's own start (pure); small ones for the law -/
theorem sho_in {g g' : Nat → Int32} {f t : Nat} {w : Int32} (hf : f < 16) (ht : t < 16) (h : ∀ v, v < 16 → g v = g' v) : ∀ v, v < 16 → sho g f t w v = sho g' f t w v := fun v hv => by
  simp only [sho]
  rw [h f hf, h t ht]
  split
  · simp only [upd]
    split
    · rfl
    · exact h v hv
  · exact h v hv
theorem psL_in {a b : Nat → Nat} {le g g' : Nat → Int32} {k : Nat} (hab : ∀ r, r < k → a r < 16 ∧ b r < 16) (h : ∀ v, v < 16 → g v = g' v) : ∀ r, r ≤ k → ∀ v, v < 16 → psL a b le g r v = psL a b le g' r v
  | 0, _, v, hv => h v hv
  | r + 1, hr, v, hv => by
    have ih := psL_in (le := le) hab h r (by omega)
    obtain ⟨h1, h2⟩ := hab r (by omega)
    have e : shoB (psL a b le g r) (a r) (b r) (le r) = shoB (psL a b le g' r) (a r) (b r) (le r) := by
      simp only [shoB]
      rw [ih _ h1, ih _ h2]
    rw [psL, psL, psS, psS, e]
    split
    · exact sho_in h1 h2 ih v hv
    · exact sho_in h2 h1 (sho_in h1 h2 ih) v hv
theorem dL_in {a b : Nat → Nat} {le g g' : Nat → Int32} {k : Nat} (hab : ∀ r, r < k → a r < 16 ∧ b r < 16) (h : ∀ v, v < 16 → g v = g' v) : ∀ j v, v < 16 → dL a b le g k j v = dL a b le g' k j v
  | 0, v, hv => h v hv
  | j + 1, v, hv => psL_in hab (dL_in hab h j) k (Nat.le_refl k) v hv
theorem len_res {k n : Nat} {lo hi le en A : Nat → Int32} (h : TwR k n lo hi le en A) {x y : Nat} (hx : x < n) (hy : y < n) (hG : CG A k x y) (di F : Nat → Int32) : dL (clp lo) (clp hi) le (upd (dLf di 16) x (nI 0)) k 16 y = farM A (nI 0) true F k x y := by
  have hn := h.1.2.2
  obtain ⟨t, -, e1, e2⟩ := len_eq h (a := clp lo) (b := clp hi) (fun r hr => h.clp hr) (fun r hr => h.clp2 hr) hx hy hG F
  rw [e2, ← e1]
  refine dL_in (fun r hr => ?_) (fun v hv => ?_) 16 y (by omega)
  · rw [h.clp hr, h.clp2 hr]
    exact h.ab16 r hr
  · simp only [upd, d0]
    split
    · rfl
    · rw [dLf, if_pos hv]
theorem in2 {a b : Int32} {n k : Nat} (h : ¬ (inR a (nI n) = true → inR b (nI k) = false)) : inR a (nI n) = true ∧ inR b (nI k) = true := by
  cases ha : inR a (nI n) with
  | false => exact absurd (fun z => absurd (ha.symm.trans z) (by decide)) h
  | true =>
    cases hb : inR b (nI k) with
    | false => exact absurd (fun _ => hb) h
    | true => exact ⟨rfl, rfl⟩
theorem out01 {w : Int32} (h : w < nI 0 ∨ nI 1 < w) : ¬ w = 0 ∧ ¬ w = nI 1 := by
  refine ⟨fun e => ?_, fun e => ?_⟩
  · subst e
    exact absurd h (by decide)
  · subst e
    exact absurd h (by decide)
theorem slot_bad {w : Int32} (h : w < nI 0 ∨ nI 1 < w) : w < 0 ∨ ¬ w < nI 2 := by
  rcases h with h | h
  · exact Or.inl h
  · refine Or.inr (fun q => ?_)
    rw [Int32.lt_iff_toInt_lt, nI_toInt (by omega)] at h q
    omega
theorem rot_sf {sf : Nat → Option Nat} {hu : Nat → Nat} : ∀ i, i < 6 → (va_up (va_up (va_up (va_up (va_up (va_up sf (1 - 1) (some (hu 1))) (2 - 1) (some (hu 2))) (3 - 1) (some (hu 3))) (4 - 1) (some (hu 4))) (5 - 1) (some (hu 5))) 5 (some (hu 0))) i = some ((fun i => hu (rt i)) i)
  | 0, _ => rfl
  | 1, _ => rfl
  | 2, _ => rfl
  | 3, _ => rfl
  | 4, _ => rfl
  | 5, _ => rfl
  | i + 6, h => absurd h (by omega)
def LInv (E : EE) (A : Nat → Prop) (ad : Nat → Nat) (H : Heap) : Prop := ∃ (n k : Nat) (lo hi le en po dO dS lS di : Nat → Int32) (pc ds : Nat) (pr : Int32) (L : Nat) (pb pd : Int32) (cf f0 : Nat → Int32) (hc : Nat) (sf sl : Nat → Option Nat) (sv : Nat → Int32) (zn zk : Nat → Nat) (za : Nat → Nat → Nat → Int32) (Al K Hc Sl mv Fa P rf : Nat → Int32) (sp0 nu0 rm0 : Int32) (hu : Nat → Nat) (hw : Nat → Nat → Nat) (hn hk : Nat → Nat) (ha : Nat → Nat → Nat → Int32), LRel ad n k lo hi le en po dO dS lS pc ds pr L cf hc sf sl sv zn zk za Al Hc Sl mv P hu hn hk ha ∧ va_P E.1 vwCl (LC0 E ad n k lo hi le en po dO dS lS di pc ds pr L pb pd cf f0 hc sf sl sv zn zk za Al K Hc Sl mv Fa P rf hc L sp0 nu0 rm0 ++ HG E hu hw hn hk ha) H ∧ va_D A (LC0 E ad n k lo hi le en po dO dS lS di pc ds pr L pb pd cf f0 hc sf sl sv zn zk za Al K Hc Sl mv Fa P rf hc L sp0 nu0 rm0 ++ HG E hu hw hn hk ha)
/-- the law's own: the machine at its entry -/
def LCx (p : Program) (s : State) (m : MethodId) (c : Code) (b L0 : Nat) (xs : Nat → Int32) (E : EE) (A : Nat → Prop) : Prop := p.tables.exec = Jvm.exec ∧ c.code = cL_law ∧ c.maxLocals = 4 ∧ s.vm.findClass RL = some m.cls ∧ (∀ w ∈ wsL_law, w.before #[Value.ref b] s = true) ∧ va_X b L0 xs s s.heap ∧ b < s.heap.size ∧ ¬ A b ∧ (∀ q, s.heap.size ≤ q → A q) ∧ va_K E.1 vwCl (tyE E) s ∧ nst s
theorem ct77 : Cond.constantLong RL 77 (4294967295) ∈ wsL_law := by decide +kernel
