/-! THE ORDER of the roads that a way must take (pure) -/
theorem Con.av {al : Nat → Bool} {a b : Nat → Nat} {k x y t : Nat} (hc : Con al a b k x y) (h1 : ¬ Con al a b k x (a t)) (h2 : ¬ Con al a b k x (b t)) : Con (fun j => al j && !decide (j = t)) a b k x y := by
  refine (hc (fun y => Con al a b k x y ∧ Con (fun j => al j && !decide (j = t)) a b k x y) ⟨.rf, .rf⟩ (fun j hj ha => ?_)).2
  by_cases e : j = t
  · subst e
    exact ⟨fun z => absurd z.1 h1, fun z => absurd z.1 h2⟩
  · have ha2 : (fun j => al j && !decide (j = t)) j = true := by simp [ha, e]
    exact ⟨fun z => ⟨.s1 hj ha z.1, .s1 hj ha2 z.2⟩, fun z => ⟨.s2 hj ha z.1, .s2 hj ha2 z.2⟩⟩
theorem popc_sub {x y : Int32} (h : ∀ i, i < 32 → bt x i = true → bt y i = true) : popc x ≤ popc y := bcnt_sub (fun i hi hb => h i hi hb)
theorem ed_sub {a b : Nat → Nat} {r : Nat} {S : Int32} (ha : a r < 32) (hb : b r < 32) : (ed a b r &&& S) = ed a b r ↔ (bt S (a r) = true ∧ bt S (b r) = true) := by
  constructor
  · intro h
    have g : ∀ i, i < 32 → bt (ed a b r) i = true → bt S i = true := fun i hi hh => by
      have h2 : bt (ed a b r &&& S) i = true := by rw [h]; exact hh
      rw [b_and, hh, Bool.true_and] at h2
      exact h2
    exact ⟨g _ ha (by rw [bt_ed ha hb ha, decide_eq_true rfl]; rfl), g _ hb (by rw [bt_ed ha hb hb, decide_eq_true (rfl : b r = b r), Bool.or_true])⟩
  · rintro ⟨h1, h2⟩
    refine b_ext (fun i hi => ?_)
    rw [b_and]
    cases hh : bt (ed a b r) i with
    | false => rfl
    | true =>
      rw [bt_ed ha hb hi, Bool.or_eq_true, decide_eq_true_eq, decide_eq_true_eq] at hh
      rcases hh with rfl | rfl
      · rw [h1]; rfl
      · rw [h2]; rfl
section TWO
variable {k n : Nat} {lo hi le en A : Nat → Int32}
theorem C1_av (h : TwR k n lo hi le en A) {r t x y : Nat} (hr : r < k) (ht : t < k) (hc : C1 A k r x y) (h1 : ¬ C1 A k r x (mlo A t)) (h2 : ¬ C1 A k r x (mhi A t)) : C1 A k t x y :=
  (hc.av h1 h2).cong (fun j hj ha => by
    rw [al1 h ht hj]
    simp only [Bool.and_eq_true] at ha
    exact ha.2)
theorem C1_end (h : TwR k n lo hi le en A) {r t x : Nat} (hr : r < k) (ht : t < k) (hne : ¬ t = r) : C1 A k r x (mlo A t) ↔ C1 A k r x (mhi A t) := by
  have ha : alM A (nI 1 <<< (nI r &&& 31)) (-6) t = true := by rw [al1 h hr ht, decide_eq_false hne]; rfl
  exact ⟨fun z => .s1 ht ha z, fun z => .s2 ht ha z⟩
theorem ord1 (h : TwR k n lo hi le en A) {r t x y : Nat} (hr : r < k) (ht : t < k) (hne : ¬ t = r) (hG : CG A k x y) (hyr : ¬ C1 A k r x y) (hyt : ¬ C1 A k t x y) (hS : C1 A k r x (mlo A t)) {v : Nat} (hv : CG A k x v) (hv2 : ¬ C1 A k r x v) : ¬ C1 A k t x v := by
  have hvy : C1 A k r v y := by
    rcases CG_br h hr hv with z | ⟨z1, z2⟩ | ⟨z1, z2⟩
    · exact absurd z hv2
    · rcases CG_br h hr hG with w | ⟨w1, w2⟩ | ⟨w1, w2⟩
      · exact absurd w hyr
      · exact z2.sy.tr w2
      · exact absurd (z1.tr w2) hyr
    · rcases CG_br h hr hG with w | ⟨w1, w2⟩ | ⟨w1, w2⟩
      · exact absurd w hyr
      · exact absurd (z1.tr w2) hyr
      · exact z2.sy.tr w2
  have h1 : ¬ C1 A k r v (mlo A t) := fun z => hv2 (hS.tr z.sy)
  have h2 : ¬ C1 A k r v (mhi A t) := fun z => hv2 (((C1_end h hr ht hne).mp hS).tr z.sy)
  exact fun z => hyt (z.tr (C1_av h hr ht hvy h1 h2))
theorem ord2 (h : TwR k n lo hi le en A) {r t x : Nat} (hr : r < k) (ht : t < k) (hne : ¬ t = r) (hS : ¬ C1 A k r x (mlo A t)) {v : Nat} (hv2 : ¬ C1 A k t x v) : ¬ C1 A k r x v := fun z =>
  hv2 (C1_av h hr ht z hS (fun w => hS ((C1_end h hr ht hne).mpr w)))
theorem far_end (h : TwR k n lo hi le en A) {t x y : Nat} (ht : t < k) (hG : CG A k x y) (hyt : ¬ C1 A k t x y) : ∃ f, (f = mlo A t ∨ f = mhi A t) ∧ CG A k x f ∧ ¬ C1 A k t x f := by
  rcases CG_br h ht hG with z | ⟨z1, z2⟩ | ⟨z1, z2⟩
  · exact absurd z hyt
  · exact ⟨mhi A t, Or.inr rfl, hG.tr (C1_G h z2).sy, fun w => hyt (w.tr z2)⟩
  · exact ⟨mlo A t, Or.inl rfl, hG.tr (C1_G h z2).sy, fun w => hyt (w.tr z2)⟩
theorem sqB_iff (h : TwR k n lo hi le en A) {po lS : Nat → Int32} (hs : SvR k n A po lS) {r x v : Nat} (hr : r < k) (hxn : x < n) (hv : v < 32) : bt (sqB po lS x r) v = true ↔ CG A k x v ∧ ¬ C1 A k r x v := by
  have hx : x < 16 := by have := h.1.2.2; omega
  rw [sqB_bt h hr hx hv (hs.1 x hxn) (hs.2 r hr), Bool.and_eq_true, g_iff h hx hv, Bool.not_eq_true', Bool.eq_false_iff, ne_eq, g1_iff h hx hv]
theorem ord_iff (h : TwR k n lo hi le en A) {po lS : Nat → Int32} (hs : SvR k n A po lS) {r t x y : Nat} (hr : r < k) (ht : t < k) (hxn : x < n) (hG : CG A k x y) (hyr : ¬ C1 A k r x y) (hyt : ¬ C1 A k t x y) : popc (sqB po lS x r) < popc (sqB po lS x t) ↔ ¬ t = r ∧ (enM A t &&& rsM A (nI 1 <<< (nI r &&& 31)) (-6) k x) = enM A t := by
  have hx : x < 16 := by have := h.1.2.2; omega
  obtain ⟨ha, hb⟩ := h.ab16 t ht
  have he : (enM A t &&& rsM A (nI 1 <<< (nI r &&& 31)) (-6) k x) = enM A t ↔ (C1 A k r x (mlo A t) ∧ C1 A k r x (mhi A t)) := by
    rw [← g1_iff h hx (show mlo A t < 32 by omega), ← g1_iff h hx (show mhi A t < 32 by omega)]
    exact ed_sub (a := mlo A) (b := mhi A) (by omega) (by omega)
  rw [he]
  by_cases hne : t = r
  · subst hne
    exact ⟨fun z => absurd z (Nat.lt_irrefl _), fun z => absurd rfl z.1⟩
  · constructor
    · intro hlt
      refine ⟨hne, Classical.byContradiction fun hc => ?_⟩
      have hS : ¬ C1 A k r x (mlo A t) := fun z => hc ⟨z, (C1_end h hr ht hne).mp z⟩
      have h1 : popc (sqB po lS x t) ≤ popc (sqB po lS x r) := popc_sub (fun i hi hb => by
        obtain ⟨g1, g2⟩ := (sqB_iff h hs ht hxn hi).mp hb
        exact (sqB_iff h hs hr hxn hi).mpr ⟨g1, ord2 h hr ht hne hS g2⟩)
      omega
    · rintro ⟨-, hS, hS2⟩
      obtain ⟨f, hf, f1, f2⟩ := far_end h ht hG hyt
      have hf3 : f < 16 := by rcases hf with rfl | rfl <;> omega
      have hf4 : C1 A k r x f := by rcases hf with rfl | rfl <;> assumption
      refine bcnt_lt (fun i hi hb => ?_) ⟨f, by omega, ?_, (sqB_iff h hs ht hxn (by omega)).mpr ⟨f1, f2⟩⟩
      · obtain ⟨g1, g2⟩ := (sqB_iff h hs hr hxn hi).mp hb
        exact (sqB_iff h hs ht hxn hi).mpr ⟨g1, ord1 h hr ht hne hG hyr hyt hS g1 g2⟩
      · refine Bool.eq_false_iff.mpr (fun z => ?_)
        exact ((sqB_iff h hs hr hxn (by omega)).mp z).2 hf4
/-- which roads a way from x to y must take -/
theorem muM_iff (h : TwR k n lo hi le en A) {x y r : Nat} (hr : r < k) (hx : x < 16) (hy : y < 16) : cnt (muM A k x (nI y) k) (nI r) = true ↔ ¬ C1 A k r x y := by
  have h3 := h.1.1
  rw [cnt_bt (by omega), orS_bt (F := muM A k x (nI y)) (p := fun r => !cnt (rsM A (nI 1 <<< (nI r &&& 31)) (-6) k x) (nI y)) rfl (fun r => by rw [muM, ite_not]) (by omega) k (by omega), decide_eq_true hr, Bool.true_and, Bool.not_eq_true', Bool.eq_false_iff, ne_eq, cnt_bt (by omega), g1_iff h hx (by omega)]
theorem rAh_eq (h : TwR k n lo hi le en A) {po lS : Nat → Int32} (hs : SvR k n A po lS) {r x y : Nat} (hr : r < k) (hxn : x < n) (hy : y < 16) (hG : CG A k x y) (hyr : ¬ C1 A k r x y) : ∀ j, j ≤ k → rAh po lS x r (muM A k x (nI y) k) j = maH A k x r (muM A k x (nI y) k) j
  | 0, _ => rfl
  | j + 1, hj => by
    have hx : x < 16 := by have := h.1.2.2; omega
    have ih := rAh_eq h hs hr hxn hy hG hyr j (by omega)
    have hm := muM_iff h (r := j) (by omega) hx hy
    by_cases hc : cnt (muM A k x (nI y) k) (nI j) = true
    · have ho := ord_iff h hs hr (show j < k by omega) hxn hG hyr (hm.mp hc)
      by_cases hp : popc (sqB po lS x r) < popc (sqB po lS x j)
      · rw [rAh, maH, if_pos ⟨hc, hp⟩, if_pos ⟨⟨(ho.mp hp).1, hc⟩, (ho.mp hp).2⟩, ih]
      · rw [rAh, maH, if_neg (fun z => hp z.2), if_neg (fun z => hp (ho.mpr ⟨z.1.1, z.2⟩)), ih]
    · rw [rAh, maH, if_neg (fun z => hc z.1), if_neg (fun z => hc z.1.2), ih]
theorem fst6_eq {p q : Nat → Bool} : ∀ n i, (∀ r, i ≤ r → r < i + n → p r = q r) → fst6 p i n = fst6 q i n
  | 0, _, _ => rfl
  | n + 1, i, hh => by
    simp only [fst6]
    rw [hh i (Nat.le_refl i) (by omega), fst6_eq n (i + 1) (fun r h1 h2 => hh r (by omega) (by omega))]
/-- the place-th road of the way -/
theorem must_eq (h : TwR k n lo hi le en A) {po lS : Nat → Int32} (hs : SvR k n A po lS) {x y : Nat} (hxn : x < n) (hy : y < 16) (hG : CG A k x y) (pl : Int32) : fst6 (rOWp po lS x (rBt po lS x (nI y) k) pl k) 0 k = fst6 (muP A k x (muM A k x (nI y) k) pl) 0 k := by
  have hx : x < 16 := by have := h.1.2.2; omega
  have hg : cnt (rsM A (nI 0) (-6) k x) (nI y) = true := by rw [cnt_bt (by omega)]; exact (g_iff h hx (by omega)).mpr hG
  rw [rBt_eq h hs hxn hy hg]
  refine fst6_eq k 0 (fun r _ hr => ?_)
  have hr2 : r < k := by omega
  cases hc : cnt (muM A k x (nI y) k) (nI r) with
  | false => rw [rOWp_f1 hc, muP_f1 hc]
  | true =>
    rw [rOWp, muP, hc, rAh_eq h hs hr2 hxn hy hG ((muM_iff h hr2 hx hy).mp hc) k (Nat.le_refl k)]
end TWO
