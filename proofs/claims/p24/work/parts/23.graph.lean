/-! THE GRAPH: what is reached, as a relation between squares (pure) -/
def ed (a b : Nat → Nat) (r : Nat) : Int32 := (nI 1 <<< (nI (a r) &&& 31)) ||| (nI 1 <<< (nI (b r) &&& 31))
theorem bt_ed {a b : Nat → Nat} {r i : Nat} (ha : a r < 32) (hb : b r < 32) (hi : i < 32) : bt (ed a b r) i = (decide (i = a r) || decide (i = b r)) := by
  rw [ed, b_or, bit_bt ha hi, bit_bt hb hi]
theorem and_ne0 {x y : Int32} : ¬ (x &&& y) = 0 ↔ ∃ i, i < 32 ∧ bt x i = true ∧ bt y i = true := by
  constructor
  · intro h
    refine Classical.byContradiction fun q => h (b_ext (fun i hi => ?_))
    rw [b_and, b_0]
    cases hx : bt x i with
    | false => rfl
    | true =>
      cases hy : bt y i with
      | false => rfl
      | true => exact absurd ⟨i, hi, hx, hy⟩ q
  · rintro ⟨i, hi, h1, h2⟩ h
    have h3 : bt (x &&& y) i = false := by rw [h, b_0]
    rw [b_and, h1, h2] at h3
    exact absurd h3 (by decide)
theorem psC_G {en : Nat → Int32} {rs x : Int32} : ∀ k, psC en rs x k = psG (fun r => cnt rs (nI r)) en x k
  | 0 => rfl
  | k + 1 => by
    simp only [psC, psG]
    rw [psC_G k, and_comm32 (en k)]
theorem psG_cong {al al' : Nat → Bool} {en en' : Nat → Int32} {x : Int32} : ∀ {k : Nat}, (∀ r, r < k → al r = al' r ∧ en r = en' r) → psG al en x k = psG al' en' x k
  | 0, _ => rfl
  | k + 1, h => by
    simp only [psG]
    rw [psG_cong (k := k) (fun r hr => h r (by omega)), (h k (by omega)).1, (h k (by omega)).2]
theorem rG_cong {al al' : Nat → Bool} {en en' : Nat → Int32} {k q : Nat} (h : ∀ r, r < k → al r = al' r ∧ en r = en' r) : ∀ j, rG al en k q j = rG al' en' k q j
  | 0 => rfl
  | j + 1 => by
    show psG al en (rG al en k q j) k = psG al' en' (rG al' en' k q j) k
    rw [rG_cong h j, psG_cong h]
theorem rC_G {en : Nat → Int32} {rs : Int32} {k q : Nat} : ∀ j, rC en rs k q j = rG (fun r => cnt rs (nI r)) en k q j
  | 0 => rfl
  | j + 1 => by
    show psC en rs (rC en rs k q j) k = psG _ en (rG _ en k q j) k
    rw [rC_G j, psC_G]
theorem rsC_G {en en' : Nat → Int32} {rs : Int32} {k q : Nat} {al : Nat → Bool} (h : ∀ r, r < k → cnt rs (nI r) = al r ∧ en r = en' r) : rsC en rs k q = rG al en' k q 16 := by
  rw [rsC, rC_G, rG_cong h]
/-- i is in all that q is in and that the allowed roads respect -/
def Con (al : Nat → Bool) (a b : Nat → Nat) (k q i : Nat) : Prop := ∀ P : Nat → Prop, P q → (∀ r, r < k → al r = true → (P (a r) ↔ P (b r))) → P i
section CON
variable {al : Nat → Bool} {a b : Nat → Nat} {k : Nat}
theorem Con.rf {q : Nat} : Con al a b k q q := fun _ h _ => h
theorem Con.s1 {q r : Nat} (hr : r < k) (ha : al r = true) (h : Con al a b k q (a r)) : Con al a b k q (b r) := fun P hq hc => (hc r hr ha).mp (h P hq hc)
theorem Con.s2 {q r : Nat} (hr : r < k) (ha : al r = true) (h : Con al a b k q (b r)) : Con al a b k q (a r) := fun P hq hc => (hc r hr ha).mpr (h P hq hc)
theorem Con.tr {q x y : Nat} (h1 : Con al a b k q x) (h2 : Con al a b k x y) : Con al a b k q y := fun P hq hc => h2 P (h1 P hq hc) hc
theorem Con.sy {q x : Nat} (h : Con al a b k q x) : Con al a b k x q :=
  h (fun y => Con al a b k y q) .rf (fun r hr ha => ⟨fun g P hq hc => g P ((hc r hr ha).mpr hq) hc, fun g P hq hc => g P ((hc r hr ha).mp hq) hc⟩)
theorem Con.lt {q x : Nat} {N : Nat} (h : Con al a b k q x) (hq : q < N) (hab : ∀ r, r < k → a r < N ∧ b r < N) : x < N :=
  h (fun y => y < N) hq (fun r hr _ => ⟨fun _ => (hab r hr).2, fun _ => (hab r hr).1⟩)
theorem Con.cong {al' : Nat → Bool} {q x : Nat} (hh : ∀ r, r < k → al r = true → al' r = true) (h : Con al a b k q x) : Con al' a b k q x := fun P hq hc => h P hq (fun r hr ha => hc r hr (hh r hr ha))
theorem psG_con (hab : ∀ r, r < k → a r < 32 ∧ b r < 32) {X : Int32} {q : Nat} (hX : ∀ i, i < 32 → bt X i = true → Con al a b k q i) : ∀ r, r ≤ k → ∀ i, i < 32 → bt (psG al (ed a b) X r) i = true → Con al a b k q i
  | 0, _, i, hi, h => hX i hi h
  | r + 1, hr, i, hi, h => by
    have ih := psG_con hab hX r (by omega)
    simp only [psG] at h
    split at h
    · rename_i hc
      obtain ⟨j, hj, h1, h2⟩ := and_ne0.mp hc.2
      have h3 := ih j hj h1
      obtain ⟨g1, g2⟩ := hab r (by omega)
      rw [bt_ed g1 g2 hj, Bool.or_eq_true, decide_eq_true_eq, decide_eq_true_eq] at h2
      rw [b_or, Bool.or_eq_true, bt_ed g1 g2 hi, Bool.or_eq_true, decide_eq_true_eq, decide_eq_true_eq] at h
      rcases h with h | h
      · exact ih i hi h
      · rcases h2 with rfl | rfl
        · rcases h with rfl | rfl
          · exact h3
          · exact .s1 (by omega) hc.1 h3
        · rcases h with rfl | rfl
          · exact .s2 (by omega) hc.1 h3
          · exact h3
    · exact ih i hi h
theorem psG_up {en : Nat → Int32} {x : Int32} {r i : Nat} (h : bt (psG al en x r) i = true) : ∀ d, bt (psG al en x (r + d)) i = true
  | 0 => h
  | d + 1 => by
    have ih := psG_up h d
    show bt (psG al en x ((r + d) + 1)) i = true
    simp only [psG]
    split
    · rw [b_or, ih, Bool.true_or]
    · exact ih
theorem psG_fix {en : Nat → Int32} {X : Int32} (h : psG al en X k = X) {r : Nat} (hr : r ≤ k) : psG al en X r = X := by
  refine b_ext (fun i hi => ?_)
  cases h1 : bt X i with
  | true => exact psG_mono h1 r
  | false =>
    cases h2 : bt (psG al en X r) i with
    | false => rfl
    | true =>
      have h3 := psG_up h2 (k - r)
      rw [show r + (k - r) = k by omega, h, h1] at h3
      exact absurd h3 (by decide)
theorem psG_cl {en : Nat → Int32} {X : Int32} (h : psG al en X k = X) {r : Nat} (hr : r < k) (ha : al r = true) (hc : ¬ (X &&& en r) = 0) {i : Nat} (hi : bt (en r) i = true) : bt X i = true := by
  have h1 := psG_fix h (show r + 1 ≤ k by omega)
  rw [psG, psG_fix h (show r ≤ k by omega), if_pos ⟨ha, hc⟩] at h1
  rw [← h1, b_or, hi, Bool.or_true]
theorem rG_con (hab : ∀ r, r < k → a r < 16 ∧ b r < 16) {q : Nat} (hq : q < 16) : ∀ j i, i < 32 → bt (rG al (ed a b) k q j) i = true → Con al a b k q i
  | 0, i, hi, h => by
    rw [rG, bit_bt (by omega) hi, decide_eq_true_eq] at h
    subst h
    exact .rf
  | j + 1, i, hi, h => psG_con (fun r hr => ⟨by have := hab r hr; omega, by have := hab r hr; omega⟩) (fun i hi h => rG_con hab hq j i hi h) k (Nat.le_refl k) i hi h
theorem ed_small (hab : ∀ r, r < k → a r < 16 ∧ b r < 16) : ∀ i, 16 ≤ i → i < 32 → ∀ r, r < k → bt (ed a b r) i = false := fun i h1 h2 r hr => by
  obtain ⟨g1, g2⟩ := hab r hr
  rw [bt_ed (by omega) (by omega) h2, decide_eq_false (by omega), decide_eq_false (by omega)]
  rfl
theorem rG_self {en : Nat → Int32} {q : Nat} (hq : q < 32) : ∀ j, bt (rG al en k q j) q = true
  | 0 => by rw [rG, bit_bt hq hq, decide_eq_true rfl]
  | j + 1 => psG_mono (rG_self hq j) k
theorem rG_iff (hab : ∀ r, r < k → a r < 16 ∧ b r < 16) {q : Nat} (hq : q < 16) {i : Nat} (hi : i < 32) : bt (rG al (ed a b) k q 16) i = true ↔ Con al a b k q i := by
  refine ⟨rG_con hab hq 16 i hi, fun h => ?_⟩
  have hcl := rG_closed (al := al) hq (ed_small hab)
  refine h (fun i => bt (rG al (ed a b) k q 16) i = true) (rG_self (by omega) 16) (fun r hr ha => ?_)
  obtain ⟨g1, g2⟩ := hab r hr
  have e1 : bt (ed a b r) (a r) = true := by rw [bt_ed (by omega) (by omega) (by omega), decide_eq_true rfl]; rfl
  have e2 : bt (ed a b r) (b r) = true := by rw [bt_ed (by omega) (by omega) (by omega), decide_eq_true (rfl : b r = b r), Bool.or_true]
  exact ⟨fun ih => psG_cl hcl hr ha (and_ne0.mpr ⟨a r, by omega, ih, e1⟩) e2, fun ih => psG_cl hcl hr ha (and_ne0.mpr ⟨b r, by omega, ih, e2⟩) e1⟩
/-- g parts the sixteen squares into classes -/
def Eq16 (g : Nat → Int32) : Prop := ∀ q, q < 16 → bt (g q) q = true ∧ (∀ i, 16 ≤ i → i < 32 → bt (g q) i = false) ∧ ∀ i, i < 16 → bt (g q) i = true → g i = g q
theorem rG_Eq16 (hab : ∀ r, r < k → a r < 16 ∧ b r < 16) : Eq16 (fun q => rG al (ed a b) k q 16) := fun q hq => by
  refine ⟨rG_self (by omega) 16, fun i h1 h2 => rG_small hq (fun r hr => ed_small hab i h1 h2 r hr) h1 h2 16, fun i hi h => b_ext (fun j hj => ?_)⟩
  have h1 := (rG_iff hab hq (by omega)).mp h
  have e : bt (rG al (ed a b) k i 16) j = true ↔ bt (rG al (ed a b) k q 16) j = true := by
    rw [rG_iff hab hi hj, rG_iff hab hq hj]
    exact ⟨fun h2 => h1.tr h2, fun h2 => h1.sy.tr h2⟩
  cases h3 : bt (rG al (ed a b) k i 16) j with
  | true => exact (e.mp h3).symm
  | false =>
    cases h4 : bt (rG al (ed a b) k q 16) j with
    | false => rfl
    | true => exact absurd (h3.symm.trans (e.mpr h4)) (by decide)
end CON
theorem Eq16.sym {g : Nat → Int32} (h : Eq16 g) {q i : Nat} (hq : q < 16) (hi : i < 16) (hb : bt (g q) i = true) : bt (g i) q = true := by
  rw [(h q hq).2.2 i hi hb]
  exact (h q hq).1
theorem Eq16.lt {g : Nat → Int32} (h : Eq16 g) {q i : Nat} (hq : q < 16) (hi : i < 32) (hb : bt (g q) i = true) : i < 16 := Classical.byContradiction fun z => absurd (hb.symm.trans ((h q hq).2.1 i (by omega) hi)) (by decide)
