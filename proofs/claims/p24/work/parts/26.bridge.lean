/-! ONE ROAD LESS: the squares behind a road, the roads that a way must take, the pairs parted (pure) -/
theorem Con.br {al al' : Nat → Bool} {a b : Nat → Nat} {k r x y : Nat} (h : ∀ j, j < k → ¬ j = r → al j = true → al' j = true) (hc : Con al a b k x y) : Con al' a b k x y ∨ (Con al' a b k x (a r) ∧ Con al' a b k (b r) y) ∨ (Con al' a b k x (b r) ∧ Con al' a b k (a r) y) := by
  refine hc (fun y => Con al' a b k x y ∨ (Con al' a b k x (a r) ∧ Con al' a b k (b r) y) ∨ (Con al' a b k x (b r) ∧ Con al' a b k (a r) y)) (Or.inl .rf) (fun j hj ha => ?_)
  by_cases e : j = r
  · subst e
    constructor
    · rintro (h1 | ⟨h1, h2⟩ | ⟨h1, h2⟩)
      · exact Or.inr (Or.inl ⟨h1, .rf⟩)
      · exact Or.inl (h1.tr h2.sy)
      · exact Or.inl h1
    · rintro (h1 | ⟨h1, h2⟩ | ⟨h1, h2⟩)
      · exact Or.inr (Or.inr ⟨h1, .rf⟩)
      · exact Or.inl h1
      · exact Or.inl (h1.tr h2.sy)
  · have ha2 := h j hj e ha
    constructor
    · rintro (h1 | ⟨h1, h2⟩ | ⟨h1, h2⟩)
      · exact Or.inl (.s1 hj ha2 h1)
      · exact Or.inr (Or.inl ⟨h1, .s1 hj ha2 h2⟩)
      · exact Or.inr (Or.inr ⟨h1, .s1 hj ha2 h2⟩)
    · rintro (h1 | ⟨h1, h2⟩ | ⟨h1, h2⟩)
      · exact Or.inl (.s2 hj ha2 h1)
      · exact Or.inr (Or.inl ⟨h1, .s2 hj ha2 h2⟩)
      · exact Or.inr (Or.inr ⟨h1, .s2 hj ha2 h2⟩)
theorem popc_two {x y z : Int32} (h : ∀ i, i < 32 → bt x i = (bt y i || bt z i)) (hd : ∀ i, i < 32 → ¬ (bt y i = true ∧ bt z i = true)) : popc x = popc y + popc z := by
  have e : ∀ n, n ≤ 32 → bcnt (bt x) n = bcnt (bt y) n + bcnt (bt z) n := by
    intro n
    induction n with
    | zero => intro _; rfl
    | succ n ih =>
      intro hn
      have h1 := ih (by omega)
      have h2 := h n (by omega)
      have h3 := hd n (by omega)
      simp only [bcnt]
      rw [h1, h2]
      cases hy : bt y n <;> cases hz : bt z n
      · simp
      · simp; omega
      · simp; omega
      · exact absurd ⟨hy, hz⟩ h3
  exact e 32 (Nat.le_refl 32)
section TWB
variable {k n : Nat} {lo hi le en A : Nat → Int32}
/-- the roads but one, as the reference allows them -/
theorem al1 (h : TwR k n lo hi le en A) {r j : Nat} (hr : r < k) (hj : j < k) : alM A (nI 1 <<< (nI r &&& 31)) (-6) j = !decide (j = r) := by
  obtain ⟨h1, h2⟩ := h.ab16 j hj
  have h3 := h.1.1
  rw [alM_6 (by omega) (by omega), cnt_bt (by omega), bit_bt (by omega) (by omega)]
theorem al0 (h : TwR k n lo hi le en A) {j : Nat} (hj : j < k) : alM A (nI 0) (-6) j = true := by
  obtain ⟨h1, h2⟩ := h.ab16 j hj
  have h3 := h.1.1
  rw [alM_6 (by omega) (by omega), cnt_0w (by omega)]
  rfl
abbrev CG (A : Nat → Int32) (k : Nat) : Nat → Nat → Prop := Con (alM A (nI 0) (-6)) (mlo A) (mhi A) k
abbrev C1 (A : Nat → Int32) (k r : Nat) : Nat → Nat → Prop := Con (alM A (nI 1 <<< (nI r &&& 31)) (-6)) (mlo A) (mhi A) k
theorem CG_br (h : TwR k n lo hi le en A) {r x y : Nat} (hr : r < k) (hc : CG A k x y) : C1 A k r x y ∨ (C1 A k r x (mlo A r) ∧ C1 A k r (mhi A r) y) ∨ (C1 A k r x (mhi A r) ∧ C1 A k r (mlo A r) y) :=
  hc.br (fun j hj e _ => by rw [al1 h hr hj, decide_eq_false e]; rfl)
theorem C1_G (h : TwR k n lo hi le en A) {r x y : Nat} (hc : C1 A k r x y) : CG A k x y := hc.cong (fun j hj _ => al0 h hj)
theorem CG_r (h : TwR k n lo hi le en A) {r : Nat} (hr : r < k) : CG A k (mlo A r) (mhi A r) := .s1 hr (al0 h hr) .rf
theorem g_iff (h : TwR k n lo hi le en A) {x y : Nat} (hx : x < 16) (hy : y < 32) : bt (rsM A (nI 0) (-6) k x) y = true ↔ CG A k x y := rG_iff (a := mlo A) (b := mhi A) h.ab16 hx hy
theorem g1_iff (h : TwR k n lo hi le en A) {r x y : Nat} (hx : x < 16) (hy : y < 32) : bt (rsM A (nI 1 <<< (nI r &&& 31)) (-6) k x) y = true ↔ C1 A k r x y := rG_iff (a := mlo A) (b := mhi A) h.ab16 hx hy
theorem b_iff {x y : Bool} (h : x = true ↔ y = true) : x = y := by cases x <;> cases y <;> simp_all
/-- the squares behind road r, seen from x -/
theorem sqB_bt (h : TwR k n lo hi le en A) {po lS : Nat → Int32} {r x y : Nat} (hr : r < k) (hx : x < 16) (hy : y < 32) (hpo : po x = rsM A (nI 0) (-6) k x) (hlS : lS r = rsM A (nI 1 <<< (nI r &&& 31)) (-6) k (mlo A r)) : bt (sqB po lS x r) y = (bt (rsM A (nI 0) (-6) k x) y && !bt (rsM A (nI 1 <<< (nI r &&& 31)) (-6) k x) y) := by
  obtain ⟨ha, hb⟩ := h.ab16 r hr
  have e1 : bt (sqB po lS x r) y = (bt (rsM A (nI 0) (-6) k x) y && (bt (lS r) x ^^ bt (lS r) y)) := by
    cases hc : cnt (lS r) (nI x) with
    | true =>
      rw [sqB_t hc, b_and, bt_not hy, hpo]
      rw [cnt_bt (by omega)] at hc
      rw [hc, Bool.true_xor]
    | false =>
      rw [sqB_f hc, b_and, hpo]
      rw [cnt_bt (by omega)] at hc
      rw [hc, Bool.false_xor]
  rw [e1, hlS]
  cases hg : bt (rsM A (nI 0) (-6) k x) y with
  | false => rfl
  | true =>
    rw [Bool.true_and, Bool.true_and]
    have hG := (g_iff h hx hy).mp hg
    have i1 := g1_iff h (r := r) ha (show x < 32 by omega)
    have i2 := g1_iff h (r := r) ha hy
    have i3 := g1_iff h (r := r) hx hy
    have key : C1 A k r x y ↔ (C1 A k r (mlo A r) x ↔ C1 A k r (mlo A r) y) := by
      constructor
      · exact fun q => ⟨fun z => z.tr q, fun z => z.tr q.sy⟩
      · intro q
        rcases CG_br h hr hG with z | ⟨z1, z2⟩ | ⟨z1, z2⟩
        · exact z
        · exact z1.tr (q.mp z1.sy)
        · exact (q.mpr z2).sy.tr z2
    cases c1 : bt (rsM A (nI 1 <<< (nI r &&& 31)) (-6) k (mlo A r)) x <;> cases c2 : bt (rsM A (nI 1 <<< (nI r &&& 31)) (-6) k (mlo A r)) y
    · have : C1 A k r x y := key.mpr ⟨fun z => absurd ((i1.mpr z).symm.trans c1) (by decide), fun z => absurd ((i2.mpr z).symm.trans c2) (by decide)⟩
      rw [i3.mpr this]; rfl
    · have : ¬ C1 A k r x y := fun z => absurd ((i1.mpr ((key.mp z).mpr (i2.mp c2))).symm.trans c1) (by decide)
      rw [Bool.eq_false_iff.mpr (fun z => this (i3.mp z))]; rfl
    · have : ¬ C1 A k r x y := fun z => absurd ((i2.mpr ((key.mp z).mp (i1.mp c1))).symm.trans c2) (by decide)
      rw [Bool.eq_false_iff.mpr (fun z => this (i3.mp z))]; rfl
    · have : C1 A k r x y := key.mpr ⟨fun _ => i2.mp c2, fun _ => i1.mp c1⟩
      rw [i3.mpr this]; rfl
/-- what the survey keeps of this town -/
def SvR (k n : Nat) (A po lS : Nat → Int32) : Prop := (∀ x, x < n → po x = rsM A (nI 0) (-6) k x) ∧ ∀ r, r < k → lS r = rsM A (nI 1 <<< (nI r &&& 31)) (-6) k (mlo A r)
theorem rBt_eq (h : TwR k n lo hi le en A) {po lS : Nat → Int32} (hs : SvR k n A po lS) {x y : Nat} (hxn : x < n) (hy : y < 16) (hg : cnt (rsM A (nI 0) (-6) k x) (nI y) = true) : rBt po lS x (nI y) k = muM A k x (nI y) k := by
  have hx : x < 16 := by have := h.1.2.2; omega
  have h3 := h.1.1
  refine orS_eq (F := rBt po lS x (nI y)) (G := muM A k x (nI y)) (k := k) (p := fun r => cnt (sqB po lS x r) (nI y)) (q := fun r => !cnt (rsM A (nI 1 <<< (nI r &&& 31)) (-6) k x) (nI y)) rfl (fun _ => rfl) rfl (fun r => ?_) (by omega) (fun r hr => ?_)
  · rw [muM, ite_not]
  · show cnt (sqB po lS x r) (nI y) = !cnt (rsM A (nI 1 <<< (nI r &&& 31)) (-6) k x) (nI y)
    rw [cnt_bt (by omega)] at hg
    rw [cnt_bt (by omega), cnt_bt (by omega), sqB_bt h hr hx (by omega) (hs.1 x hxn) (hs.2 r hr), hg, Bool.true_and]
theorem pfA_eq (h : TwR k n lo hi le en A) {po lS : Nat → Int32} {pr : Int32} (hs : SvR k n A po lS) (hp : pr = pgM A k k) {x y : Nat} (hxn : x < n) (hy : y < 16) : pfA pr po lS k x y = pfM A k x y := by
  rw [pfA, pAf, pfM, hgM, hs.1 x hxn, hp]
  cases hg : cnt (rsM A (nI 0) (-6) k x) (nI y) with
  | true => rw [if_pos rfl, if_pos rfl, rBt_eq h hs hxn hy hg]
  | false => rw [if_neg (by decide), if_neg (by decide)]
theorem ppR_eq (h : TwR k n lo hi le en A) {po lS : Nat → Int32} (hs : SvR k n A po lS) {a : Nat → Nat} {r : Nat} (hr : r < k) (ha : a r = mlo A r) : ppR po lS a r = nI (plM A k r) := by
  obtain ⟨hx, hy⟩ := h.ab16 r hr
  have hb : ∀ i, i < 32 → bt (sqB po lS (mlo A r) r) i = (bt (rsM A (nI 0) (-6) k (mlo A r)) i && !bt (rsM A (nI 1 <<< (nI r &&& 31)) (-6) k (mlo A r)) i) := fun i hi => sqB_bt h hr hx hi (hs.1 _ (h.ab r hr).1) (hs.2 r hr)
  rw [ppR, ha, hs.1 _ (h.ab r hr).1]
  cases hp : ptM A k r with
  | true =>
    rw [plM, if_pos hp]
    have hn : ¬ C1 A k r (mlo A r) (mhi A r) := fun z => by
      rw [ptM, cnt_bt (by omega), (g1_iff h hx (by omega)).mpr z] at hp
      exact absurd hp (by decide)
    have e1 : sqB po lS (mlo A r) r = rsM A (nI 1 <<< (nI r &&& 31)) (-6) k (mhi A r) := b_ext (fun i hi => by
      rw [hb i hi]
      refine b_iff ?_
      rw [Bool.and_eq_true, g_iff h hx hi, g1_iff h hy hi, Bool.not_eq_true', Bool.eq_false_iff, ne_eq, g1_iff h hx hi]
      constructor
      · rintro ⟨h1, h2⟩
        rcases CG_br h hr h1 with z | ⟨-, z⟩ | ⟨z, -⟩
        · exact absurd z h2
        · exact z
        · exact absurd z hn
      · exact fun z => ⟨(CG_r h hr).tr (C1_G h z), fun w => hn (w.tr z.sy)⟩)
    have e2 : popc (rsM A (nI 0) (-6) k (mlo A r)) = popc (rsM A (nI 1 <<< (nI r &&& 31)) (-6) k (mlo A r)) + popc (rsM A (nI 1 <<< (nI r &&& 31)) (-6) k (mhi A r)) := popc_two (fun i hi => by
      refine b_iff ?_
      rw [Bool.or_eq_true, g_iff h hx hi, g1_iff h hx hi, g1_iff h hy hi]
      constructor
      · intro h1
        rcases CG_br h hr h1 with z | ⟨-, z⟩ | ⟨z, -⟩
        · exact Or.inl z
        · exact Or.inr z
        · exact absurd z hn
      · rintro (z | z)
        · exact C1_G h z
        · exact (CG_r h hr).tr (C1_G h z)) (fun i hi z => by
      rw [g1_iff h hx hi, g1_iff h hy hi] at z
      exact hn (z.1.tr z.2.sy))
    have e3 := popc_lt (rsM A (nI 0) (-6) k (mlo A r))
    rw [e1, pk_sub (by omega), e2, Nat.add_sub_cancel, pk_mul, Nat.mul_comm]
  | false =>
    rw [plM, if_neg (by rw [hp]; decide)]
    have hn : C1 A k r (mlo A r) (mhi A r) := by
      rw [ptM, cnt_bt (by omega)] at hp
      have hp2 : bt (rsM A (nI 1 <<< (nI r &&& 31)) (-6) k (mlo A r)) (mhi A r) = true := by
        cases hq : bt (rsM A (nI 1 <<< (nI r &&& 31)) (-6) k (mlo A r)) (mhi A r) with
        | true => rfl
        | false => rw [hq] at hp; exact absurd hp (by decide)
      exact (g1_iff h hx (by omega)).mp hp2
    have e1 : sqB po lS (mlo A r) r = 0 := b_ext (fun i hi => by
      rw [hb i hi, b_0]
      cases hg : bt (rsM A (nI 0) (-6) k (mlo A r)) i with
      | false => rfl
      | true =>
        have h1 := (g_iff h hx hi).mp hg
        have h2 : C1 A k r (mlo A r) i := by
          rcases CG_br h hr h1 with z | ⟨-, z⟩ | ⟨-, z⟩
          · exact z
          · exact hn.tr z
          · exact z
        rw [(g1_iff h hx hi).mpr h2]
        rfl)
    rw [e1, popc_0]
    exact Int32.zero_mul
/-- bestBuilt's rounds speak of the same -/
theorem bbI_eq {pf pg : Nat → Nat → Int32} {t : Nat} {s0 : Int32 × Nat × Nat} : ∀ {j : Nat}, (∀ i, i < j → pf t (t + 1 + i) = pg t (t + 1 + i)) → bbI pf t s0 j = bbI pg t s0 j
  | 0, _ => rfl
  | j + 1, hh => by
    simp only [bbI]
    rw [bbI_eq (j := j) (fun i hi => hh i (by omega)), hh j (by omega)]
theorem bbO_eq {pf pg : Nat → Nat → Int32} {n : Nat} {s0 : Int32 × Nat × Nat} (hh : ∀ x y, x < y → y < n → pf x y = pg x y) : ∀ i, i ≤ n → bbO pf n s0 i = bbO pg n s0 i
  | 0, _ => rfl
  | i + 1, hi => by
    simp only [bbO]
    rw [bbO_eq hh i (by omega)]
    exact bbI_eq (fun j hj => hh i (i + 1 + j) (by omega) (by omega))
theorem wl_eq {pp : Nat → Int32} (hh : ∀ r, r < k → pp r = nI (plM A k r) ∧ plM A k r < 2 ^ 31) : ∀ r, r < k → wlM A k (r + 1) = (nI (wlR pp (r + 1)).1, (wlR pp (r + 1)).2)
  | 0, h0 => by
    obtain ⟨h1, h2⟩ := hh 0 h0
    rw [wlR_1, wlM_t ?_]
    · rw [h1]
    · intro z
      have h3 := Int32.le_iff_toInt_le.mp z
      rw [nI_toInt h2] at h3
      have h4 : (wlM A k 0).2 = -6 := rfl
      rw [h4] at h3
      have h5 : (-6 : Int32).toInt = -6 := by decide
      omega
  | r + 1, hr => by
    have ih := wl_eq hh r (by omega)
    obtain ⟨h1, -⟩ := hh (r + 1) hr
    by_cases hc : pp (r + 1) ≤ (wlR pp (r + 1)).2
    · rw [wlR_f hc, wlM_f (by rw [ih, ← h1]; exact hc), ih]
    · rw [wlR_t hc, wlM_t (by rw [ih, ← h1]; exact hc), h1]
end TWB
