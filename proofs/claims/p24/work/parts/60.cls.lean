/-! CLASSES COUNTED: least squares of an equivalence, and how a road more changes their number (pure) -/
noncomputable def pD (P : Prop) : Bool := @decide P (Classical.propDecidable P)
theorem pD_iff {P : Prop} : pD P = true ↔ P := @decide_eq_true_iff P (Classical.propDecidable P)
theorem pD_t {P : Prop} (h : P) : pD P = true := pD_iff.mpr h
theorem pD_f {P : Prop} (h : ¬ P) : pD P = false := Bool.eq_false_iff.mpr (fun q => h (pD_iff.mp q))
theorem pD_cong {P Q : Prop} (h : P ↔ Q) : pD P = pD Q := b_iff (by rw [pD_iff, pD_iff]; exact h)
def Lsr (R : Nat → Nat → Prop) (t : Nat) : Prop := ∀ u, u < t → ¬ R u t
noncomputable def nL (Z : Nat → Bool) (R : Nat → Nat → Prop) (N : Nat) : Nat := bcnt (fun t => Z t && pD (Lsr R t)) N
def Eqv (R : Nat → Nat → Prop) : Prop := (∀ x, R x x) ∧ (∀ x y, R x y → R y x) ∧ ∀ x y z, R x y → R y z → R x z
theorem lsr_ex {R : Nat → Nat → Prop} (h : Eqv R) (u : Nat) : ∃ u0, u0 ≤ u ∧ R u0 u ∧ Lsr R u0 := by
  obtain ⟨m, h1, h2⟩ := least_ex (P := fun d => R d u) u (h.1 u)
  refine ⟨m, h2 u (h.1 u), h1, fun w hw hr => ?_⟩
  have h3 := h2 w (h.2.2 _ _ _ hr h1)
  omega
theorem lsr_uni {R : Nat → Nat → Prop} (h : Eqv R) {x y : Nat} (hx : Lsr R x) (hy : Lsr R y) (hr : R x y) : x = y := by
  rcases Nat.lt_trichotomy x y with z | z | z
  · exact absurd hr (hy x z)
  · exact z
  · exact absurd (h.2.1 _ _ hr) (hx y z)
theorem merge0 {R R' : Nat → Nat → Prop} (h : Eqv R) {u v u0 v0 : Nat} (hR : ∀ x y, R' x y ↔ R x y ∨ (R x u ∧ R v y) ∨ (R x v ∧ R u y)) (hu : R u0 u) (hv : R v0 v) (lu : Lsr R u0) (lv : Lsr R v0) (hlt : u0 < v0) (t : Nat) : Lsr R' t ↔ Lsr R t ∧ ¬ t = v0 := by
  constructor
  · intro hl
    refine ⟨fun w hw hr => hl w hw ((hR w t).mpr (Or.inl hr)), fun e => ?_⟩
    subst e
    exact hl u0 hlt ((hR u0 t).mpr (Or.inr (Or.inl ⟨hu, h.2.1 _ _ hv⟩)))
  · rintro ⟨hl, hne⟩ w hw hr
    rcases (hR w t).mp hr with z | ⟨z1, z2⟩ | ⟨z1, z2⟩
    · exact hl w hw z
    · exact hne (lsr_uni h hl lv (h.2.2 _ _ _ (h.2.1 _ _ z2) (h.2.1 _ _ hv)))
    · have e : t = u0 := lsr_uni h hl lu (h.2.2 _ _ _ (h.2.1 _ _ z2) (h.2.1 _ _ hu))
      subst e
      have h3 : ¬ w < v0 := fun q => lv w q (h.2.2 _ _ _ z1 (h.2.1 _ _ hv))
      omega
theorem merge {R R' : Nat → Nat → Prop} (h : Eqv R) {Z : Nat → Bool} {N u v : Nat} (hR : ∀ x y, R' x y ↔ R x y ∨ (R x u ∧ R v y) ∨ (R x v ∧ R u y)) (hne : ¬ R u v) (hZ : ∀ x y, R x y → Z x = Z y) (hZuv : Z u = Z v) (hu : u < N) (hv : v < N) : nL Z R N = nL Z R' N + (if Z u = true then 1 else 0) := by
  obtain ⟨u0, u1, u2, u3⟩ := lsr_ex h u
  obtain ⟨v0, v1, v2, v3⟩ := lsr_ex h v
  have key : ∃ M, M < N ∧ Lsr R M ∧ Z M = Z u ∧ ∀ t, Lsr R' t ↔ Lsr R t ∧ ¬ t = M := by
    rcases Nat.lt_trichotomy u0 v0 with z | z | z
    · exact ⟨v0, by omega, v3, (hZ _ _ v2).trans hZuv.symm, merge0 h hR u2 v2 u3 v3 z⟩
    · subst z
      exact absurd (h.2.2 _ _ _ (h.2.1 _ _ u2) v2) hne
    · exact ⟨u0, by omega, u3, hZ _ _ u2, merge0 h (u := v) (v := u) (fun x y => (hR x y).trans ⟨fun q => q.imp id Or.symm, fun q => q.imp id Or.symm⟩) v2 u2 v3 u3 z⟩
  obtain ⟨M, m1, m2, m3, m4⟩ := key
  unfold nL
  have hc : ∀ i, ¬ i = M → pD (Lsr R i) = pD (Lsr R' i) := fun i hi => pD_cong ⟨fun q => (m4 i).mpr ⟨q, hi⟩, fun q => ((m4 i).mp q).1⟩
  by_cases hz : Z u = true
  · rw [if_pos hz]
    refine bcnt_one (t := M) (fun i _ hi => ?_) m1 ?_ ?_
    · show (Z i && pD (Lsr R i)) = (Z i && pD (Lsr R' i))
      rw [hc i hi]
    · show (Z M && pD (Lsr R M)) = true
      rw [m3, hz, pD_t m2]; rfl
    · show (Z M && pD (Lsr R' M)) = false
      rw [pD_f (fun q => ((m4 M).mp q).2 rfl), Bool.and_false]
  · rw [if_neg hz, Nat.add_zero]
    refine bcnt_cong (fun i _ => ?_)
    show (Z i && pD (Lsr R i)) = (Z i && pD (Lsr R' i))
    by_cases e : i = M
    · subst e
      rw [m3, Bool.eq_false_iff.mpr hz]; rfl
    · rw [hc i e]
theorem nL_cong {Z : Nat → Bool} {R R' : Nat → Nat → Prop} {N : Nat} (h : ∀ x y, x < N → y < N → (R x y ↔ R' x y)) : nL Z R N = nL Z R' N := by
  unfold nL
  refine bcnt_cong (fun i hi => ?_)
  show (Z i && pD (Lsr R i)) = (Z i && pD (Lsr R' i))
  rw [pD_cong (P := Lsr R i) (Q := Lsr R' i) ⟨fun q u hu r => q u hu ((h u i (by omega) hi).mpr r), fun q u hu r => q u hu ((h u i (by omega) hi).mp r)⟩]
theorem nL_congZ {Z Z' : Nat → Bool} {R : Nat → Nat → Prop} {N : Nat} (h : ∀ x, x < N → Z x = Z' x) : nL Z R N = nL Z' R N := by
  unfold nL
  refine bcnt_cong (fun i hi => ?_)
  show (Z i && pD (Lsr R i)) = (Z' i && pD (Lsr R i))
  rw [h i hi]
section CCN
variable {al al' : Nat → Bool} {a b : Nat → Nat} {k k' x y : Nat}
theorem con_eqv : Eqv (Con al a b k) := ⟨fun _ => .rf, fun _ _ h => h.sy, fun _ _ _ h g => h.tr g⟩
theorem Con.lift (hk : k ≤ k') (hh : ∀ r, r < k → al r = true → al' r = true) (h : Con al a b k x y) : Con al' a b k' x y := fun P hq hc => h P hq (fun r hr ha => hc r (by omega) (hh r hr ha))
theorem Con.up (hal : al k = true) : Con al a b (k + 1) x y ↔ Con al a b k x y ∨ (Con al a b k x (a k) ∧ Con al a b k (b k) y) ∨ (Con al a b k x (b k) ∧ Con al a b k (a k) y) := by
  constructor
  · intro hc
    refine hc (fun y => Con al a b k x y ∨ (Con al a b k x (a k) ∧ Con al a b k (b k) y) ∨ (Con al a b k x (b k) ∧ Con al a b k (a k) y)) (Or.inl .rf) (fun j hj ha => ?_)
    by_cases e : j = k
    · subst e
      constructor
      · rintro (h1 | ⟨h1, h2⟩ | ⟨h1, h2⟩)
        · exact Or.inr (Or.inl ⟨h1, .rf⟩)
        · exact Or.inl (h1.tr h2.sy)
        · exact Or.inl h1
      · rintro (h1 | ⟨h1, h2⟩ | ⟨h1, h2⟩)
        · exact Or.inr (Or.inr ⟨h1, .rf⟩)
        · exact Or.inl h1
        · exact Or.inl (h1.tr h2.sy)
    · have hj2 : j < k := by omega
      constructor
      · rintro (h1 | ⟨h1, h2⟩ | ⟨h1, h2⟩)
        · exact Or.inl (.s1 hj2 ha h1)
        · exact Or.inr (Or.inl ⟨h1, .s1 hj2 ha h2⟩)
        · exact Or.inr (Or.inr ⟨h1, .s1 hj2 ha h2⟩)
      · rintro (h1 | ⟨h1, h2⟩ | ⟨h1, h2⟩)
        · exact Or.inl (.s2 hj2 ha h1)
        · exact Or.inr (Or.inl ⟨h1, .s2 hj2 ha h2⟩)
        · exact Or.inr (Or.inr ⟨h1, .s2 hj2 ha h2⟩)
  · have up : ∀ {x y : Nat}, Con al a b k x y → Con al a b (k + 1) x y := fun q => q.lift (by omega) (fun _ _ h => h)
    rintro (z | ⟨z1, z2⟩ | ⟨z1, z2⟩)
    · exact up z
    · exact (Con.s1 (by omega) hal (up z1)).tr (up z2)
    · exact (Con.s2 (by omega) hal (up z1)).tr (up z2)
theorem Con.no (hal : al k = false) : Con al a b (k + 1) x y ↔ Con al a b k x y := by
  refine ⟨fun h P hq hc => h P hq (fun r hr ha => hc r ?_ ha), fun q => q.lift (by omega) (fun _ _ h => h)⟩
  rcases (show r < k ∨ r = k by omega) with z | z
  · exact z
  · subst z; rw [hal] at ha; cases ha
theorem Con.z {Z : Nat → Bool} (h : ∀ r, r < k → al r = true → Z (a r) = Z (b r)) (hc : Con al a b k x y) : Z x = Z y :=
  hc (fun y => Z x = Z y) rfl (fun r hr ha => by rw [h r hr ha])
theorem nL_0 {Z : Nat → Bool} {N : Nat} : nL Z (Con al a b 0) N = bcnt Z N := by
  unfold nL
  refine bcnt_cong (fun i hi => ?_)
  show (Z i && pD (Lsr (Con al a b 0) i)) = Z i
  have h1 : Lsr (Con al a b 0) i := fun u hu hr => by
    have e : i = u := hr (fun y => y = u) rfl (fun r hr _ => absurd hr (Nat.not_lt_zero r))
    omega
  rw [pD_t h1, Bool.and_true]
/-- the roads that make a piece fewer, as they are laid one by one -/
noncomputable def inF (al : Nat → Bool) (a b : Nat → Nat) (Z : Nat → Bool) (r : Nat) : Bool := al r && (Z (a r) && pD (¬ Con al a b r (a r) (b r)))
theorem K_eq {Z : Nat → Bool} {N : Nat} : ∀ k, (∀ r, r < k → al r = true → (a r < N ∧ b r < N) ∧ Z (a r) = Z (b r)) → nL Z (Con al a b k) N + bcnt (inF al a b Z) k = bcnt Z N
  | 0, _ => by rw [nL_0]; rfl
  | k + 1, h => by
    have ih := K_eq k (fun r hr => h r (by omega))
    have e : bcnt (inF al a b Z) (k + 1) = bcnt (inF al a b Z) k + (if inF al a b Z k = true then 1 else 0) := rfl
    rw [e]
    cases hal : al k with
    | false =>
      have hi : inF al a b Z k = false := by unfold inF; rw [hal]; rfl
      rw [nL_cong (R' := Con al a b k) (fun x y _ _ => Con.no hal), hi, if_neg (by decide), Nat.add_zero]
      exact ih
    | true =>
      have hk := h k (by omega) hal
      by_cases hc : Con al a b k (a k) (b k)
      · have hi : inF al a b Z k = false := by unfold inF; rw [pD_f (fun q => q hc)]; simp
        rw [nL_cong (R' := Con al a b k) (fun x y _ _ => (Con.up hal).trans ⟨fun q => q.elim id (fun q => q.elim (fun q => q.1.tr (hc.tr q.2)) (fun q => q.1.tr (hc.sy.tr q.2))), Or.inl⟩), hi, if_neg (by decide), Nat.add_zero]
        exact ih
      · have hm := merge (R := Con al a b k) (R' := Con al a b (k + 1)) con_eqv (Z := Z) (N := N) (u := a k) (v := b k) (fun x y => Con.up hal) hc (fun x y q => q.z (fun r hr ha => (h r (by omega) ha).2)) hk.2 hk.1.1 hk.1.2
        have hi : inF al a b Z k = Z (a k) := by unfold inF; rw [hal, pD_t hc]; simp
        rw [hi]
        omega
end CCN
/-- a road that does not part -/
noncomputable def npB (a b : Nat → Nat) (k r : Nat) : Bool := pD (Con (fun j => !decide (j = r)) a b k (a r) (b r))
section STR
variable {al : Nat → Bool} {a b : Nat → Nat} {k K x y : Nat}
/-- what hangs together without each road that parts hangs together without all of them -/
theorem strip (hK : K ≤ k) (hc : Con al a b K x y) (h1 : ∀ s, s < K → al s = true → npB a b k s = false → Con (fun j => !decide (j = s)) a b k x y) : Con (fun i => al i && npB a b k i) a b K x y := by
  have key : ∀ j, j ≤ K → Con (fun i => al i && (npB a b k i || !decide (i < j))) a b K x y := by
    intro j
    induction j with
    | zero => exact fun _ => hc.lift (Nat.le_refl K) (fun r _ ha => by simp [ha])
    | succ j ih =>
      intro hj
      have ih := ih (by omega)
      by_cases hs : al j = true ∧ npB a b k j = false
      · have hl : ∀ {u w : Nat}, Con (fun i => al i && (npB a b k i || !decide (i < j + 1))) a b K u w → Con (fun i => !decide (i = j)) a b k u w := fun q => q.lift hK (fun r _ ha => by
          have ha : (al r && (npB a b k r || !decide (r < j + 1))) = true := ha
          show (!decide (r = j)) = true
          by_cases e : r = j
          · subst e
            rw [hs.2, decide_eq_true (show r < r + 1 by omega)] at ha
            simp at ha
          · rw [decide_eq_false e]; rfl)
        have hj1 := h1 j (by omega) hs.1 hs.2
        have no : ¬ Con (fun i => !decide (i = j)) a b k (a j) (b j) := fun q => by
          have e : npB a b k j = true := pD_t q
          rw [hs.2] at e; cases e
        rcases ih.br (r := j) (al' := fun i => al i && (npB a b k i || !decide (i < j + 1))) (fun i hi hne ha => by
          have e : decide (i < j + 1) = decide (i < j) := decide_eq_decide.mpr (by omega)
          show (al i && (npB a b k i || !decide (i < j + 1))) = true
          rw [e]; exact ha) with z | ⟨z1, z2⟩ | ⟨z1, z2⟩
        · exact z
        · exact absurd ((hl z1).sy.tr (hj1.tr (hl z2).sy)) no
        · exact absurd ((hl z2).tr (hj1.sy.tr (hl z1))) no
      · refine ih.lift (Nat.le_refl K) (fun i hi ha => ?_)
        have ha : (al i && (npB a b k i || !decide (i < j))) = true := ha
        show (al i && (npB a b k i || !decide (i < j + 1))) = true
        by_cases e : i = j
        · subst e
          rw [Bool.and_eq_true] at ha
          have e2 : npB a b k i = true := by
            cases q : npB a b k i with
            | true => rfl
            | false => exact absurd ⟨ha.1, q⟩ hs
          rw [ha.1, e2]; rfl
        · have e3 : decide (i < j + 1) = decide (i < j) := decide_eq_decide.mpr (by omega)
          rw [e3]; exact ha
  refine (key K (Nat.le_refl K)).lift (Nat.le_refl K) (fun r hr ha => ?_)
  have ha : (al r && (npB a b k r || !decide (r < K))) = true := ha
  rw [decide_eq_true hr] at ha
  simpa using ha
theorem np_tree {r : Nat} (hr : r < k) (hn : npB a b k r = true) : Con (fun _ => true) a b r (a r) (b r) ↔ Con (npB a b k) a b r (a r) (b r) := by
  constructor
  · intro hc
    refine (strip (k := k) (by omega) hc (fun s hs _ _ => ?_)).lift (Nat.le_refl r) (fun i _ ha => by simpa using ha)
    exact Con.s1 hr (by show (!decide (r = s)) = true; rw [decide_eq_false (by omega)]; rfl) .rf
  · exact fun hc => hc.lift (Nat.le_refl r) (fun _ _ _ => rfl)
theorem pt_tree {r : Nat} (hr : r < k) (hn : npB a b k r = false) : ¬ Con (fun _ => true) a b r (a r) (b r) := fun hc => by
  have e : npB a b k r = true := pD_t (hc.lift (by omega) (fun i hi _ => by show (!decide (i = r)) = true; rw [decide_eq_false (by omega)]; rfl))
  rw [hn] at e; cases e
/-- districts are as many as pieces and roads that part -/
theorem B_eq {N : Nat} (hab : ∀ r, r < k → a r < N ∧ b r < N) : nL (fun _ => true) (Con (npB a b k) a b k) N = nL (fun _ => true) (Con (fun _ => true) a b k) N + bcnt (fun r => !npB a b k r) k := by
  have h1 := K_eq (al := fun _ => true) (a := a) (b := b) (Z := fun _ => true) (N := N) k (fun r hr _ => ⟨hab r hr, rfl⟩)
  have h2 := K_eq (al := npB a b k) (a := a) (b := b) (Z := fun _ => true) (N := N) k (fun r hr _ => ⟨hab r hr, rfl⟩)
  have h3 : bcnt (inF (fun _ => true) a b (fun _ => true)) k = bcnt (fun r => !npB a b k r) k + bcnt (inF (npB a b k) a b (fun _ => true)) k := by
    refine bcnt_add (fun r hr => ?_)
    unfold inF
    cases hn : npB a b k r with
    | true =>
      have e := np_tree hr hn
      rw [pD_cong (P := ¬ Con (fun _ => true) a b r (a r) (b r)) (Q := ¬ Con (npB a b k) a b r (a r) (b r)) (not_congr e)]
      simp
    | false =>
      rw [pD_t (pt_tree hr hn)]
      simp
  omega
theorem last_ex {p : Nat → Bool} : ∀ {k : Nat}, 0 < bcnt p k → ∃ r0, r0 < k ∧ p r0 = true ∧ ∀ r, r0 < r → r < k → p r = false
  | 0, h => absurd h (Nat.lt_irrefl 0)
  | k + 1, h => by
    cases hp : p k with
    | true => exact ⟨k, by omega, hp, fun r h1 h2 => by omega⟩
    | false =>
      have e : bcnt p (k + 1) = bcnt p k + (if p k = true then 1 else 0) := rfl
      rw [e, hp, if_neg (by decide), Nat.add_zero] at h
      obtain ⟨r0, h1, h2, h3⟩ := last_ex h
      refine ⟨r0, by omega, h2, fun r h4 h5 => ?_⟩
      rcases (show r < k ∨ r = k by omega) with z | z
      · exact h3 r h4 z
      · subst z; exact hp
/-- the independent rings of a class of squares that no single road parts -/
theorem R_eq {N : Nat} {Z : Nat → Bool} (hab : ∀ r, r < k → a r < N ∧ b r < N) (hZ : ∀ r, r < k → npB a b k r = true → Z (a r) = Z (b r)) (h1 : nL Z (Con (npB a b k) a b k) N = 1) : bcnt Z N ≤ bcnt (fun r => npB a b k r && Z (a r)) k + 1 ∧ (bcnt (fun r => npB a b k r && Z (a r)) k + 1 ≤ bcnt Z N → bcnt Z N = 1) := by
  have hk := K_eq (al := npB a b k) (a := a) (b := b) (Z := Z) (N := N) k (fun r hr ha => ⟨hab r hr, hZ r hr ha⟩)
  have h3 : bcnt (fun r => npB a b k r && Z (a r)) k = bcnt (inF (npB a b k) a b Z) k + bcnt (fun r => npB a b k r && (Z (a r) && pD (Con (npB a b k) a b r (a r) (b r)))) k := by
    refine bcnt_add (fun r hr => ?_)
    unfold inF
    by_cases hc : Con (npB a b k) a b r (a r) (b r)
    · rw [pD_t hc, pD_f (fun q => q hc)]; simp
    · rw [pD_f hc, pD_t hc]; simp
  refine ⟨by omega, fun h4 => ?_⟩
  have h5 : bcnt (fun r => npB a b k r && (Z (a r) && pD (Con (npB a b k) a b r (a r) (b r)))) k = 0 := by omega
  have h6 : bcnt (fun r => npB a b k r && Z (a r)) k = 0 := by
    refine Classical.byContradiction fun hne => ?_
    obtain ⟨r0, g1, g2, g3⟩ := last_ex (p := fun r => npB a b k r && Z (a r)) (k := k) (by omega)
    have g2 : (npB a b k r0 && Z (a r0)) = true := g2
    rw [Bool.and_eq_true] at g2
    have hc : Con (fun j => !decide (j = r0)) a b k (a r0) (b r0) := pD_iff.mp g2.1
    have hs := strip (k := k) (Nat.le_refl k) hc (fun s hs ha _ => by
      have ha : (!decide (s = r0)) = true := ha
      refine Con.s1 g1 ?_ .rf
      show (!decide (r0 = s)) = true
      have : ¬ s = r0 := by simpa using ha
      rw [decide_eq_false (fun q => this q.symm)]; rfl)
    have hin : Z (b r0) = true ∧ Con (npB a b k) a b r0 (a r0) (b r0) := hs (fun y => Z y = true ∧ Con (npB a b k) a b r0 (a r0) y) ⟨g2.2, .rf⟩ (fun r hr ha => by
      have ha : ((!decide (r = r0)) && npB a b k r) = true := ha
      rw [Bool.and_eq_true] at ha
      have hne2 : ¬ r = r0 := by simpa using ha.1
      have hz := hZ r hr ha.2
      have hlt : Z (a r) = true → r < r0 := fun hza => Classical.byContradiction fun q => by
        have g4 : (npB a b k r && Z (a r)) = false := g3 r (by omega) hr
        rw [ha.2, hza] at g4
        exact absurd g4 (by decide)
      exact ⟨fun q => ⟨hz.symm.trans q.1, .s1 (hlt q.1) ha.2 q.2⟩, fun q => ⟨hz.trans q.1, .s2 (hlt (hz.trans q.1)) ha.2 q.2⟩⟩)
    have h7 := bcnt_some (p := fun r => npB a b k r && (Z (a r) && pD (Con (npB a b k) a b r (a r) (b r)))) (u := r0) (n := k) g1 (by
      show (npB a b k r0 && (Z (a r0) && pD (Con (npB a b k) a b r0 (a r0) (b r0)))) = true
      rw [g2.1, g2.2, pD_t hin.2]; rfl)
    omega
  omega
end STR
