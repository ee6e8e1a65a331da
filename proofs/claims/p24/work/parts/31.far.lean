/-! DISTANCES: sixteen rounds are enough (pure, over Nat) -/
def shN (g : Nat → Nat) (f t w : Nat) : Nat → Nat := fun v => if v = t then (if g f + w < g t then g f + w else g t) else g v
def psN (al : Nat → Bool) (a b w : Nat → Nat) (g : Nat → Nat) : Nat → (Nat → Nat)
  | 0 => g
  | r + 1 => if al r = true then shN (shN (psN al a b w g r) (a r) (b r) (w r)) (b r) (a r) (w r) else psN al a b w g r
def frN (al : Nat → Bool) (a b w : Nat → Nat) (g : Nat → Nat) (k : Nat) : Nat → (Nat → Nat)
  | 0 => g
  | j + 1 => psN al a b w (frN al a b w g k j) k
/-- a walk from x to v, d long -/
def Wk (al : Nat → Bool) (a b w : Nat → Nat) (k x v d : Nat) : Prop := ∀ P : Nat → Nat → Prop, P x 0 → (∀ r, r < k → al r = true → ∀ d, (P (a r) d → P (b r) (d + w r)) ∧ (P (b r) d → P (a r) (d + w r))) → P v d
section WLK
variable {al : Nat → Bool} {a b w : Nat → Nat} {k x : Nat}
theorem Wk.rf : Wk al a b w k x x 0 := fun _ h _ => h
theorem Wk.s1 {r d : Nat} (hr : r < k) (ha : al r = true) (h : Wk al a b w k x (a r) d) : Wk al a b w k x (b r) (d + w r) := fun P h0 hc => (hc r hr ha d).1 (h P h0 hc)
theorem Wk.s2 {r d : Nat} (hr : r < k) (ha : al r = true) (h : Wk al a b w k x (b r) d) : Wk al a b w k x (a r) (d + w r) := fun P h0 hc => (hc r hr ha d).2 (h P h0 hc)
theorem Wk.inv {v d : Nat} (h : Wk al a b w k x v d) : (v = x ∧ d = 0) ∨ ∃ u r d', r < k ∧ al r = true ∧ d = d' + w r ∧ Wk al a b w k x u d' ∧ ((u = a r ∧ v = b r) ∨ (u = b r ∧ v = a r)) := by
  have h2 := h (fun v d => Wk al a b w k x v d ∧ ((v = x ∧ d = 0) ∨ ∃ u r d', r < k ∧ al r = true ∧ d = d' + w r ∧ Wk al a b w k x u d' ∧ ((u = a r ∧ v = b r) ∨ (u = b r ∧ v = a r)))) ⟨.rf, Or.inl ⟨rfl, rfl⟩⟩ (fun r hr ha d => ⟨fun z => ⟨.s1 hr ha z.1, Or.inr ⟨a r, r, d, hr, ha, rfl, z.1, Or.inl ⟨rfl, rfl⟩⟩⟩, fun z => ⟨.s2 hr ha z.1, Or.inr ⟨b r, r, d, hr, ha, rfl, z.1, Or.inr ⟨rfl, rfl⟩⟩⟩⟩)
  exact h2.2
theorem Wk.lt {v d N : Nat} (h : Wk al a b w k x v d) (hx : x < N) (hab : ∀ r, r < k → a r < N ∧ b r < N) : v < N :=
  h (fun v _ => v < N) hx (fun r hr _ _ => ⟨fun _ => (hab r hr).2, fun _ => (hab r hr).1⟩)
theorem shN_le (g : Nat → Nat) (f t w v : Nat) : shN g f t w v ≤ g v := by
  unfold shN
  split
  · rename_i e
    subst e
    split <;> omega
  · exact Nat.le_refl _
theorem shN_hit (g : Nat → Nat) (f t w : Nat) : shN g f t w t ≤ g f + w := by
  unfold shN
  rw [if_pos rfl]
  split <;> omega
theorem psN_s (g : Nat → Nat) (r v : Nat) : psN al a b w g (r + 1) v ≤ psN al a b w g r v := by
  simp only [psN]
  split
  · exact Nat.le_trans (shN_le _ _ _ _ _) (shN_le _ _ _ _ _)
  · exact Nat.le_refl _
theorem psN_le (g : Nat → Nat) (v r : Nat) : ∀ d, psN al a b w g (r + d) v ≤ psN al a b w g r v
  | 0 => Nat.le_refl _
  | d + 1 => Nat.le_trans (psN_s g (r + d) v) (psN_le g v r d)
theorem psN_g (g : Nat → Nat) (v r : Nat) : psN al a b w g r v ≤ g v := by
  have h := psN_le (al := al) (a := a) (b := b) (w := w) g v 0 r
  rw [Nat.zero_add] at h
  exact h
theorem psN_hit (g : Nat → Nat) {r : Nat} (hr : r < k) (ha : al r = true) : psN al a b w g k (b r) ≤ g (a r) + w r ∧ psN al a b w g k (a r) ≤ g (b r) + w r := by
  have e : ∀ v, psN al a b w g k v ≤ shN (shN (psN al a b w g r) (a r) (b r) (w r)) (b r) (a r) (w r) v := fun v => by
    have h1 := psN_le (al := al) (a := a) (b := b) (w := w) g v (r + 1) (k - (r + 1))
    rw [show r + 1 + (k - (r + 1)) = k by omega] at h1
    rw [psN, if_pos ha] at h1
    exact h1
  constructor
  · have h1 := shN_le (shN (psN al a b w g r) (a r) (b r) (w r)) (b r) (a r) (w r) (b r)
    have h2 := shN_hit (psN al a b w g r) (a r) (b r) (w r)
    have h3 := psN_g (al := al) (a := a) (b := b) (w := w) g (a r) r
    have h4 := e (b r)
    omega
  · have h1 := shN_hit (shN (psN al a b w g r) (a r) (b r) (w r)) (b r) (a r) (w r)
    have h2 := shN_le (psN al a b w g r) (a r) (b r) (w r) (b r)
    have h3 := psN_g (al := al) (a := a) (b := b) (w := w) g (b r) r
    have h4 := e (a r)
    omega
def Snd (al : Nat → Bool) (a b w : Nat → Nat) (k x : Nat) (inf : Nat) (g : Nat → Nat) : Prop := ∀ v, g v ≤ inf ∧ (g v = inf ∨ Wk al a b w k x v (g v))
theorem shN_snd {inf : Nat} {g : Nat → Nat} {f t u : Nat} (h : Snd al a b w k x inf g) (hs : ∀ d, Wk al a b w k x f d → Wk al a b w k x t (d + u)) : Snd al a b w k x inf (shN g f t u) := fun v => by
  obtain ⟨h1, h2⟩ := h v
  obtain ⟨h3, h4⟩ := h f
  unfold shN
  split
  · rename_i e
    subst e
    split
    · refine ⟨by omega, Or.inr ?_⟩
      rcases h4 with z | z
      · omega
      · exact hs _ z
    · exact ⟨h1, h2⟩
  · exact ⟨h1, h2⟩
theorem psN_snd {inf : Nat} {g : Nat → Nat} (h : Snd al a b w k x inf g) : ∀ r, r ≤ k → Snd al a b w k x inf (psN al a b w g r)
  | 0, _ => h
  | r + 1, hr => by
    have ih := psN_snd h r (by omega)
    simp only [psN]
    split
    · rename_i ha
      exact shN_snd (shN_snd ih (fun d z => .s1 (by omega) ha z)) (fun d z => .s2 (by omega) ha z)
    · exact ih
theorem frN_snd {inf : Nat} {g : Nat → Nat} (h : Snd al a b w k x inf g) : ∀ j, Snd al a b w k x inf (frN al a b w g k j)
  | 0 => h
  | j + 1 => psN_snd (frN_snd h j) k (Nat.le_refl k)
theorem frN_mono (g : Nat → Nat) (v j : Nat) : ∀ d, frN al a b w g k (j + d) v ≤ frN al a b w g k j v
  | 0 => Nat.le_refl _
  | d + 1 => Nat.le_trans (psN_g _ v k) (frN_mono g v j d)
theorem least_ex {P : Nat → Prop} : ∀ d, P d → ∃ m, P m ∧ ∀ e, P e → m ≤ e := by
  intro d
  induction d using Nat.strongRecOn with
  | _ d ih =>
    intro hd
    by_cases h : ∃ e, e < d ∧ P e
    · obtain ⟨e, he, hp⟩ := h
      exact ih e he hp
    · exact ⟨d, hd, fun e he => Nat.le_of_not_lt (fun z => h ⟨e, z, he⟩)⟩
/-- the true distance -/
def Tr (al : Nat → Bool) (a b w : Nat → Nat) (k x v t : Nat) : Prop := Wk al a b w k x v t ∧ ∀ d, Wk al a b w k x v d → t ≤ d
theorem Tr.pre (hw : ∀ r, r < k → al r = true → 1 ≤ w r) {v t : Nat} (h : Tr al a b w k x v t) (hv : ¬ v = x) : ∃ u r s, r < k ∧ al r = true ∧ t = s + w r ∧ s < t ∧ Tr al a b w k x u s ∧ ((u = a r ∧ v = b r) ∨ (u = b r ∧ v = a r)) := by
  rcases h.1.inv with ⟨e, -⟩ | ⟨u, r, s, hr, ha, e, hu, hh⟩
  · exact absurd e hv
  · have h1 := hw r hr ha
    refine ⟨u, r, s, hr, ha, e, by omega, ⟨hu, fun d hd => ?_⟩, hh⟩
    have h2 : t ≤ d + w r := by
      refine h.2 _ ?_
      rcases hh with ⟨rfl, rfl⟩ | ⟨rfl, rfl⟩
      · exact .s1 hr ha hd
      · exact .s2 hr ha hd
    omega
/-- all are right after as many rounds as there are nearer squares; c bounds a road -/
theorem frN_right (hx : x < 16) (hab : ∀ r, r < k → a r < 16 ∧ b r < 16) (hw : ∀ r, r < k → al r = true → 1 ≤ w r) {c : Nat} (hc : ∀ r, r < k → al r = true → w r ≤ c) {inf : Nat} (hi : 16 * c ≤ inf) {g : Nat → Nat} (hg : Snd al a b w k x inf g) (hg0 : g x = 0) (T : Nat → Nat) (hT : ∀ v, (∃ d, Wk al a b w k x v d) → Tr al a b w k x v (T v)) (C : Nat → Bool) (hC : ∀ v, C v = true ↔ ∃ d, Wk al a b w k x v d) : ∀ t v, Tr al a b w k x v t → t ≤ c * bcnt (fun u => C u && decide (T u < t)) 16 ∧ ∀ j, bcnt (fun u => C u && decide (T u < t)) 16 ≤ j → frN al a b w g k j v = t := by
  intro t
  induction t using Nat.strongRecOn with
  | _ t ih =>
    intro v hv
    by_cases e : v = x
    · subst e
      have h0 : t = 0 := Nat.le_zero.mp (hv.2 0 .rf)
      subst h0
      refine ⟨Nat.zero_le _, fun j _ => ?_⟩
      have h1 := frN_mono (al := al) (a := a) (b := b) (w := w) (k := k) g v 0 j
      rw [Nat.zero_add] at h1
      have h2 : frN al a b w g k 0 v = 0 := hg0
      omega
    · obtain ⟨u, r, s, hr, ha, e1, e2, hu, hh⟩ := hv.pre hw e
      obtain ⟨ih1, ih2⟩ := ih s e2 u hu
      have hTu : T u = s := by
        have h1 := hT u ⟨s, hu.1⟩
        have h2 := h1.2 s hu.1
        have h3 := hu.2 _ h1.1
        omega
      have hu16 := hu.1.lt hx hab
      have hlt : bcnt (fun u => C u && decide (T u < s)) 16 < bcnt (fun u => C u && decide (T u < t)) 16 := by
        refine bcnt_lt (fun i _ hb => ?_) ⟨u, hu16, ?_, ?_⟩
        · rw [Bool.and_eq_true, decide_eq_true_eq] at hb ⊢
          exact ⟨hb.1, by omega⟩
        · rw [decide_eq_false (by omega), Bool.and_false]
        · rw [Bool.and_eq_true, decide_eq_true_eq]
          exact ⟨(hC u).mpr ⟨s, hu.1⟩, by omega⟩
      have hcr := hc r hr ha
      have hb : t ≤ c * bcnt (fun u => C u && decide (T u < t)) 16 := by
        have h1 := Nat.mul_le_mul_left c (show bcnt (fun u => C u && decide (T u < s)) 16 + 1 ≤ bcnt (fun u => C u && decide (T u < t)) 16 from hlt)
        rw [Nat.mul_add, Nat.mul_one] at h1
        omega
      refine ⟨hb, fun j hj => ?_⟩
      obtain ⟨i, rfl⟩ : ∃ i, j = i + 1 := ⟨j - 1, by omega⟩
      have h1 := ih2 i (by omega)
      have h2 := psN_hit (al := al) (a := a) (b := b) (w := w) (frN al a b w g k i) hr ha
      have h3 : frN al a b w g k (i + 1) v ≤ t := by
        show psN al a b w (frN al a b w g k i) k v ≤ t
        rcases hh with ⟨rfl, rfl⟩ | ⟨rfl, rfl⟩
        · omega
        · omega
      have h5 := bcnt_le (fun u => C u && decide (T u < t)) 16
      have h6 := Nat.mul_le_mul_left c h5
      rcases (frN_snd hg (i + 1) v).2 with z | z
      · rw [Nat.mul_comm] at hi
        omega
      · have h4 := hv.2 _ z
        omega
end WLK
