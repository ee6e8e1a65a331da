/-! DISTANCES on both sides (pure) -/
def iniN (inf x : Nat) : Nat → Nat := fun v => if v = x then 0 else inf
section LEN
variable {al : Nat → Bool} {a b w : Nat → Nat} {k x : Nat}
theorem ini_snd (inf : Nat) : Snd al a b w k x inf (iniN inf x) := fun v => by
  unfold iniN
  split
  · rename_i e
    subst e
    exact ⟨Nat.zero_le _, Or.inr .rf⟩
  · exact ⟨Nat.le_refl _, Or.inl rfl⟩
theorem far_not {inf v : Nat} (h : ¬ ∃ d, Wk al a b w k x v d) (j : Nat) : frN al a b w (iniN inf x) k j v = inf := by
  rcases (frN_snd (ini_snd (al := al) (a := a) (b := b) (w := w) (k := k) (x := x) inf) j v).2 with z | z
  · exact z
  · exact absurd ⟨_, z⟩ h
theorem far_yes (hx : x < 16) (hab : ∀ r, r < k → a r < 16 ∧ b r < 16) (hw : ∀ r, r < k → al r = true → 1 ≤ w r) {c : Nat} (hc : ∀ r, r < k → al r = true → w r ≤ c) {v : Nat} (h : ∃ d, Wk al a b w k x v d) : ∃ t, Tr al a b w k x v t ∧ t ≤ 16 * c ∧ (1 ≤ c → t < 16 * c) ∧ ∀ inf, 16 * c ≤ inf → frN al a b w (iniN inf x) k 16 v = t := by
  obtain ⟨d0, hd0⟩ := h
  obtain ⟨t, ht⟩ := least_ex (P := fun d => Wk al a b w k x v d) d0 hd0
  have hex : ∀ u, (∃ d, Wk al a b w k x u d) → ∃ s, Tr al a b w k x u s := fun u hu => by
    obtain ⟨d, hd⟩ := hu
    exact least_ex (P := fun d => Wk al a b w k x u d) d hd
  have hch : ∀ u, ∃ s, (∃ d, Wk al a b w k x u d) → Tr al a b w k x u s := fun u => by
    by_cases z : ∃ d, Wk al a b w k x u d
    · obtain ⟨s, hs⟩ := hex u z
      exact ⟨s, fun _ => hs⟩
    · exact ⟨0, fun q => absurd q z⟩
  have hT := fun u => Classical.choose_spec (hch u)
  have hbc : ∀ u, ∃ c : Bool, c = true ↔ ∃ d, Wk al a b w k x u d := fun u => by
    by_cases z : ∃ d, Wk al a b w k x u d
    · exact ⟨true, fun _ => z, fun _ => rfl⟩
    · exact ⟨false, fun q => absurd q (by decide), fun q => absurd q z⟩
  have hC := fun u => Classical.choose_spec (hbc u)
  have key := fun inf hi => frN_right hx hab hw hc (inf := inf) hi (ini_snd inf) (by unfold iniN; rw [if_pos rfl]) (fun u => Classical.choose (hch u)) hT (fun u => Classical.choose (hbc u)) hC t v ht
  have hv16 := hd0.lt hx hab
  have hTv : Classical.choose (hch v) = t := by
    have h1 := hT v ⟨d0, hd0⟩
    have h2 := h1.2 t ht.1
    have h3 := ht.2 _ h1.1
    omega
  have h15 : bcnt (fun u => Classical.choose (hbc u) && decide (Classical.choose (hch u) < t)) 16 < 16 := by
    have h1 : bcnt (fun u => Classical.choose (hbc u) && decide (Classical.choose (hch u) < t)) 16 < bcnt (fun _ => true) 16 := bcnt_lt (fun _ _ _ => rfl) ⟨v, hv16, by rw [hTv, decide_eq_false (Nat.lt_irrefl t), Bool.and_false], rfl⟩
    have h2 := bcnt_le (fun _ => true) 16
    omega
  have hle := (key (16 * c) (Nat.le_refl _)).1
  generalize hm : bcnt (fun u => Classical.choose (hbc u) && decide (Classical.choose (hch u) < t)) 16 = m at hle h15 key
  have h3 := Nat.mul_le_mul_left c (show m ≤ 15 by omega)
  refine ⟨t, ht, by omega, fun _ => by omega, fun inf hi => (key inf hi).2 16 (by omega)⟩
/-- the class's round is the round of numbers -/
theorem sho_N {g : Nat → Int32} {G : Nat → Nat} {u : Int32} {z f t : Nat} (hg : ∀ v, g v = nI (G v)) (hG : ∀ v, G v ≤ 1000000) (hu : u = nI z) (hz : z ≤ 1000000) (v : Nat) : sho g f t u v = nI (shN G f t z v) := by
  have h1 := hG f
  have h2 := hG t
  have e : g f + u < g t ↔ G f + z < G t := by
    rw [hg, hg, hu, nI_add, Int32.lt_iff_toInt_lt, nI_toInt (by omega), nI_toInt (by omega)]
    omega
  unfold sho shN
  by_cases hc : G f + z < G t
  · rw [if_pos (e.mpr hc), if_pos hc]
    unfold upd
    by_cases ev : v = t
    · rw [if_pos ev, if_pos ev, hg, hu, nI_add]
    · rw [if_neg ev, if_neg ev, hg]
  · rw [if_neg (fun q => hc (e.mp q)), if_neg hc, hg]
    by_cases ev : v = t
    · rw [if_pos ev, ev]
    · rw [if_neg ev]
theorem shN_back {G : Nat → Nat} {z f t : Nat} (h : G f + z < G t) (v : Nat) : shN (shN G f t z) t f z v = shN G f t z v := by
  have e : ¬ f = t := fun q => by subst q; omega
  unfold shN
  rw [if_neg e, if_pos rfl, if_pos h]
  by_cases ev : v = f
  · subst ev
    rw [if_pos rfl, if_neg (by omega), if_neg e]
  · rw [if_neg ev]
theorem psL_N {le g : Nat → Int32} {G : Nat → Nat} (hal : ∀ r, r < k → al r = true) (hle : ∀ r, r < k → le r = nI (w r) ∧ w r ≤ 1000000) (hg : ∀ v, g v = nI (G v)) (hG : ∀ v, G v ≤ 1000000) : ∀ r, r ≤ k → (∀ v, psL a b le g r v = nI (psN al a b w G r v)) ∧ ∀ v, psN al a b w G r v ≤ 1000000
  | 0, _ => ⟨hg, hG⟩
  | r + 1, hr => by
    obtain ⟨h1, h2⟩ := psL_N hal hle hg hG r (by omega)
    obtain ⟨h3, h4⟩ := hle r (by omega)
    have h5 := sho_N (f := a r) (t := b r) h1 h2 h3 h4
    have h6 : ∀ v, shN (psN al a b w G r) (a r) (b r) (w r) v ≤ 1000000 := fun v => Nat.le_trans (shN_le _ _ _ _ _) (h2 v)
    refine ⟨fun v => ?_, fun v => Nat.le_trans (psN_s G r v) (h2 v)⟩
    rw [psL, psN, if_pos (hal r (by omega)), psS]
    split
    · rename_i hc
      rw [h5 v]
      have hc2 : psN al a b w G r (a r) + w r < psN al a b w G r (b r) := by
        have h7 := h2 (a r)
        have h8 := h2 (b r)
        have h9 := of_decide_eq_true hc
        rw [h1, h1, h3, nI_add, Int32.lt_iff_toInt_lt, nI_toInt (by omega), nI_toInt (by omega)] at h9
        omega
      congr 1
      exact (shN_back hc2 v).symm
    · exact sho_N h5 h6 h3 h4 v
theorem dL_N {le : Nat → Int32} (hal : ∀ r, r < k → al r = true) (hle : ∀ r, r < k → le r = nI (w r) ∧ w r ≤ 1000000) : ∀ j, (∀ v, dL a b le (d0 x) k j v = nI (frN al a b w (iniN 1584 x) k j v)) ∧ ∀ v, frN al a b w (iniN 1584 x) k j v ≤ 1000000
  | 0 => ⟨fun v => by
      show d0 x v = nI (iniN 1584 x v)
      unfold d0 upd iniN
      split <;> rfl, fun v => by
      show iniN 1584 x v ≤ _
      unfold iniN
      split <;> omega⟩
  | j + 1 => by
    obtain ⟨h1, h2⟩ := dL_N hal hle j
    exact psL_N hal hle h1 h2 k (Nat.le_refl k)
/-- the reference's round is the round of numbers -/
theorem shoM_N {g : Nat → Int32} {G : Nat → Nat} {u : Int32} {z f t : Nat} (hf : f < 16) (ht : t < 16) (hg : ∀ v, v < 16 → g v = nI (G v)) (hG : ∀ v, G v ≤ 100000) (hu : u = nI z) (hz : z ≤ 1000000) {v : Nat} (hv : v < 16) : shoM g f t u v = nI (shN G f t z v) := by
  have h1 := hG f
  have h2 := hG t
  have e : g t ≤ g f + u ↔ ¬ G f + z < G t := by
    rw [hg t ht, hg f hf, hu, nI_add, Int32.le_iff_toInt_le, nI_toInt (by omega), nI_toInt (by omega)]
    omega
  unfold shoM shN upd
  by_cases ev : v = t
  · rw [if_pos ev, if_pos ev]
    by_cases hc : G f + z < G t
    · rw [if_neg (fun q => (e.mp q) hc), if_pos hc, hg f hf, hu, nI_add]
    · rw [if_pos (e.mpr hc), if_neg hc, hg t ht]
  · rw [if_neg ev, if_neg ev, hg v hv]
theorem shoM_inf {g : Nat → Int32} {G : Nat → Nat} {f t : Nat} (hf : f < 16) (ht : t < 16) (hg : ∀ v, v < 16 → g v = nI (G v)) (hG : ∀ v, G v ≤ 100000) {v : Nat} (hv : v < 16) : shoM g f t (nI 100000) v = nI (G v) := by
  rw [shoM_N hf ht hg hG rfl (by omega) hv]
  have h2 := hG t
  unfold shN
  by_cases ev : v = t
  · rw [if_pos ev, if_neg (by omega), ev]
  · rw [if_neg ev]
theorem fpM_N {A : Nat → Int32} {m : Int32} {bl : Bool} {g : Nat → Int32} {G : Nat → Nat} (hok : ∀ r, r < k → mlo A r < 16 ∧ mhi A r < 16) (hal : ∀ r, r < k → al r = !cnt m (nI r)) (hby : ∀ r, r < k → al r = true → byM A m bl r = nI (w r) ∧ w r ≤ 1000000) (hg : ∀ v, v < 16 → g v = nI (G v)) (hG : ∀ v, G v ≤ 100000) : ∀ r, r ≤ k → (∀ v, v < 16 → fpM A m bl g r v = nI (psN al (mlo A) (mhi A) w G r v)) ∧ ∀ v, psN al (mlo A) (mhi A) w G r v ≤ 100000
  | 0, _ => ⟨hg, hG⟩
  | r + 1, hr => by
    obtain ⟨h1, h2⟩ := fpM_N hok hal hby hg hG r (by omega)
    obtain ⟨ha, hb⟩ := hok r (by omega)
    refine ⟨fun v hv => ?_, fun v => Nat.le_trans (psN_s G r v) (h2 v)⟩
    cases hc : al r with
    | true =>
      obtain ⟨h3, h4⟩ := hby r (by omega) hc
      rw [fpM, psN, if_pos hc]
      exact shoM_N hb ha (fun v hv => shoM_N ha hb h1 h2 h3 h4 hv) (fun v => Nat.le_trans (shN_le _ _ _ _ _) (h2 v)) h3 h4 hv
    | false =>
      have h3 : cnt m (nI r) = true := by
        have h4 := hal r (by omega)
        rw [hc] at h4
        cases hq : cnt m (nI r) with
        | true => rfl
        | false => rw [hq] at h4; exact absurd h4 (by decide)
      rw [fpM, psN, if_neg (by rw [hc]; decide), byM1 h3]
      exact shoM_inf hb ha (fun v hv => shoM_inf ha hb h1 h2 hv) h2 hv
theorem farM_N {A : Nat → Int32} {m : Int32} {bl : Bool} {F : Nat → Int32} (hok : ∀ r, r < k → mlo A r < 16 ∧ mhi A r < 16) (hal : ∀ r, r < k → al r = !cnt m (nI r)) (hby : ∀ r, r < k → al r = true → byM A m bl r = nI (w r) ∧ w r ≤ 1000000) : ∀ j, (∀ v, v < 16 → frM A m bl (fiM F x 16) k j v = nI (frN al (mlo A) (mhi A) w (iniN 100000 x) k j v)) ∧ ∀ v, frN al (mlo A) (mhi A) w (iniN 100000 x) k j v ≤ 100000
  | 0 => ⟨fun v hv => by
      show fiM F x 16 v = nI (iniN 100000 x v)
      unfold fiM iniN
      rw [if_pos hv]
      split <;> rfl, fun v => by
      show iniN 100000 x v ≤ _
      unfold iniN
      split <;> omega⟩
  | j + 1 => by
    obtain ⟨h1, h2⟩ := farM_N hok hal hby j
    exact fpM_N hok hal hby h1 h2 k (Nat.le_refl k)
end LEN
