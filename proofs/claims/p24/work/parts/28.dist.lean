/-! THE DISTRICTS: their squares, their lengths, the parting roads out of them (pure) -/
theorem and_not0 {x s : Int32} : (x &&& (s ^^^ (-1))) = 0 ↔ (x &&& s) = x := by
  constructor
  · intro h
    refine b_ext (fun i hi => ?_)
    have h1 : bt (x &&& (s ^^^ (-1))) i = false := by rw [h, b_0]
    rw [b_and, bt_not hi] at h1
    rw [b_and]
    cases hx : bt x i with
    | false => rfl
    | true =>
      rw [hx, Bool.true_and, Bool.not_eq_false'] at h1
      rw [h1]; rfl
  · intro h
    refine b_ext (fun i hi => ?_)
    have h1 : bt (x &&& s) i = bt x i := by rw [h]
    rw [b_and] at h1
    rw [b_and, bt_not hi, b_0]
    cases hx : bt x i with
    | false => rfl
    | true =>
      rw [hx, Bool.true_and] at h1
      rw [h1]; rfl
theorem rWi_bt {en : Nat → Int32} {sq : Int32} {r : Nat} (hr : r < 32) (k : Nat) (hk : k ≤ 32) : bt (rWi en sq k) r = (decide (r < k) && decide ((en r &&& (sq ^^^ (-1))) = 0)) :=
  orS_bt (F := rWi en sq) (p := fun r => decide ((en r &&& (sq ^^^ (-1))) = 0)) rfl (fun r => by simp only [rWi, decide_eq_true_eq]) hr k hk
section DST
variable {k n : Nat} {lo hi le en A : Nat → Int32}
theorem lnO_eq (h : TwR k n lo hi le en A) (sq : Int32) : ∀ j, j ≤ k → lnO le (rWi en sq k) j = lwM A sq j
  | 0, _ => rfl
  | j + 1, hj => by
    have ih := lnO_eq h sq j (by omega)
    have h3 := h.1.1
    obtain ⟨⟨-, -, g3, g4⟩, -⟩ := h.2.2 j (by omega)
    have hc : cnt (rWi en sq k) (nI j) = true ↔ (enM A j &&& sq) = enM A j := by
      rw [cnt_bt (by omega), rWi_bt (by omega) k (by omega), decide_eq_true (show j < k by omega), Bool.true_and, decide_eq_true_eq, and_not0, g4]
    by_cases hp : (enM A j &&& sq) = enM A j
    · rw [lnO, if_pos (hc.mpr hp), lwM, if_pos hp, ih, g3]
    · rw [lnO, if_neg (fun z => hp (hc.mp z)), lwM, if_neg hp, ih, nI_0]
      exact (Int32.add_zero _).symm
theorem lwM_nat (h : TwR k n lo hi le en A) (sq : Int32) : ∀ j, j ≤ k → ∃ s, s ≤ 99 * j ∧ lwM A sq j = nI s
  | 0, _ => ⟨0, Nat.le_refl 0, rfl⟩
  | j + 1, hj => by
    obtain ⟨s, hs, e⟩ := lwM_nat h sq j (by omega)
    obtain ⟨-, -, -, z, -, hz, ez⟩ := h.2.2 j (by omega)
    by_cases hp : (enM A j &&& sq) = enM A j
    · exact ⟨s + z, by omega, by rw [lwM, if_pos hp, e, ez, nI_add]⟩
    · exact ⟨s + 0, by omega, by rw [lwM, if_neg hp, e, nI_add]⟩
theorem lgD_eq {ln lm : Nat → Int32} (h0 : ¬ lm 0 ≤ -1) : ∀ d, (∀ i, i < d + 1 → ln i = lm i) → lgD ln (d + 1) = ldM lm (d + 1)
  | 0, hh => by rw [lgD_1, ldM_t (show ¬ lm 0 ≤ (ldM lm 0).2 from h0), hh 0 (by omega)]
  | d + 1, hh => by
    have ih := lgD_eq h0 d (fun i hi => hh i (by omega))
    by_cases hc : ln (d + 1) ≤ (lgD ln (d + 1)).2
    · rw [lgD_f hc, ldM_f (by rw [← ih, ← hh (d + 1) (by omega)]; exact hc), ih]
    · rw [lgD_t hc, ldM_t (by rw [← ih, ← hh (d + 1) (by omega)]; exact hc), hh (d + 1) (by omega)]
/-- the longest district -/
theorem long_eq (h : TwR k n lo hi le en A) {dS : Nat → Int32} {d : Nat} (hd : ∀ i, i < d + 1 → dS i = sqM A k n i) : lgD (dLn en le dS k) (d + 1) = ldM (dlM A k n) (d + 1) := by
  refine lgD_eq ?_ d (fun i hi => ?_)
  · obtain ⟨s, h1, h2⟩ := lwM_nat h (sqM A k n 0) k (Nat.le_refl k)
    have h3 := h.1.1
    rw [dlM, h2]
    intro z
    have h4 := Int32.le_iff_toInt_le.mp z
    rw [nI_toInt (by omega)] at h4
    have h5 : (-1 : Int32).toInt = -1 := by decide
    omega
  · rw [dLn, hd i hi, lnO_eq h _ k (Nat.le_refl k)]
    rfl
abbrev gD (A : Nat → Int32) (k : Nat) : Nat → Int32 := rsM A (pgM A k k) (-6) k
abbrev CD (A : Nat → Int32) (k : Nat) : Nat → Nat → Prop := Con (alM A (pgM A k k) (-6)) (mlo A) (mhi A) k
theorem gD_iff (h : TwR k n lo hi le en A) {x y : Nat} (hx : x < 16) (hy : y < 32) : bt (gD A k x) y = true ↔ CD A k x y := rG_iff (a := mlo A) (b := mhi A) h.ab16 hx hy
theorem pg_iff (h : TwR k n lo hi le en A) {r : Nat} (hr : r < k) : cnt (pgM A k k) (nI r) = true ↔ ¬ C1 A k r (mlo A r) (mhi A r) := by
  have h3 := h.1.1
  obtain ⟨hx, hy⟩ := h.ab16 r hr
  rw [cnt_bt (by omega), orS_bt (F := pgM A k) (p := fun r => ptM A k r) rfl (fun _ => rfl) (by omega) k (by omega), decide_eq_true hr, Bool.true_and, ptM, Bool.not_eq_true', Bool.eq_false_iff, ne_eq, cnt_bt (by omega), g1_iff h hx (by omega)]
theorem CD_1 (h : TwR k n lo hi le en A) {r x y : Nat} (hr : r < k) (hp : cnt (pgM A k k) (nI r) = true) (hc : CD A k x y) : C1 A k r x y := hc.cong (fun j hj ha => by
  obtain ⟨g1, g2⟩ := h.ab16 j hj
  rw [alM_6 (by omega) (by omega)] at ha
  rw [al1 h hr hj]
  by_cases e : j = r
  · subst e; rw [hp] at ha; exact absurd ha (by decide)
  · rw [decide_eq_false e]; rfl)
/-- the parting roads out of a class of districts -/
theorem pRo_eq (h : TwR k n lo hi le en A) {t : Nat} (ht : t < 16) : ∀ j, j ≤ k → pRo en (pgM A k k) (gD A k t) j = roM A (gD A k t) j
  | 0, _ => rfl
  | j + 1, hj => by
    have ih := pRo_eq h ht j (by omega)
    obtain ⟨ha, hb⟩ := h.ab16 j (by omega)
    have h3 := h.1.1
    have e4 : en j = enM A j := (h.2.2 j (by omega)).1.2.2.2
    have i1 := gD_iff h ht (show mlo A j < 32 by omega)
    have i2 := gD_iff h ht (show mhi A j < 32 by omega)
    have hn : ¬ (enM A j &&& gD A k t) = 0 ↔ (CD A k t (mlo A j) ∨ CD A k t (mhi A j)) := by
      rw [and_ne0]
      constructor
      · rintro ⟨i, hi, h1, h2⟩
        have h1 : bt (ed (mlo A) (mhi A) j) i = true := h1
        rw [bt_ed (by omega) (by omega) hi, Bool.or_eq_true, decide_eq_true_eq, decide_eq_true_eq] at h1
        rcases h1 with rfl | rfl
        · exact Or.inl (i1.mp h2)
        · exact Or.inr (i2.mp h2)
      · rintro (z | z)
        · refine ⟨mlo A j, by omega, ?_, i1.mpr z⟩
          show bt (ed (mlo A) (mhi A) j) _ = true
          rw [bt_ed (by omega) (by omega) (by omega), decide_eq_true rfl]; rfl
        · refine ⟨mhi A j, by omega, ?_, i2.mpr z⟩
          show bt (ed (mlo A) (mhi A) j) _ = true
          rw [bt_ed (by omega) (by omega) (by omega), decide_eq_true (rfl : mhi A j = mhi A j), Bool.or_true]
    have hs : (enM A j &&& gD A k t) = enM A j ↔ (CD A k t (mlo A j) ∧ CD A k t (mhi A j)) := by
      rw [← i1, ← i2]
      exact ed_sub (a := mlo A) (b := mhi A) (by omega) (by omega)
    have key : (cnt (pgM A k k) (nI j) = true ∧ ¬ (en j &&& gD A k t) = 0) ↔ (¬ (enM A j &&& gD A k t) = 0 ∧ ¬ (enM A j &&& gD A k t) = enM A j) := by
      rw [e4, hs]
      constructor
      · rintro ⟨h1, h2⟩
        refine ⟨h2, fun z => ?_⟩
        exact (pg_iff h (by omega)).mp h1 (CD_1 h (by omega) h1 (z.1.sy.tr z.2))
      · rintro ⟨h1, h2⟩
        refine ⟨Classical.byContradiction fun hp => h2 ?_, h1⟩
        have hal : alM A (pgM A k k) (-6) j = true := by
          rw [alM_6 (by omega) (by omega), Bool.eq_false_iff.mpr hp]; rfl
        rcases hn.mp h1 with z | z
        · exact ⟨z, .s1 (by omega) hal z⟩
        · exact ⟨.s2 (by omega) hal z, z⟩
    by_cases hp : cnt (pgM A k k) (nI j) = true ∧ ¬ (en j &&& gD A k t) = 0
    · rw [pRo, if_pos hp, roM, if_pos (key.mp hp), ih]
    · rw [pRo, if_neg hp, roM, if_neg (fun z => hp (key.mpr z)), ih]
theorem sqM_gD (h : TwR k n lo hi le en A) {d : Nat} (hd : d < pwM (gD A k) (-6) n) : ∃ t, t < n ∧ Lst (gD A k) t ∧ pwM (gD A k) (-6) t = d ∧ sqM A k n d = gD A k t := by
  have hn := h.1.2.2
  obtain ⟨t, h1, h2, rfl⟩ := pwM_ex n (by omega) hd
  exact ⟨t, h1, h2, rfl, sqF_S h2 n 0 (Nat.zero_le t) (by omega) (by omega)⟩
/-- the districts of a piece with one parting road out of them -/
theorem lfD_eq (h : TwR k n lo hi le en A) {dS : Nat → Int32} {pr pc : Int32} (hp : pr = pgM A k k) : ∀ d, d ≤ pwM (gD A k) (-6) n → (∀ i, i < d → dS i = sqM A k n i) → lfD en dS pr pc k d = ndM A k n pc d
  | 0, _, _ => rfl
  | d + 1, hd, hh => by
    have ih := lfD_eq h (pc := pc) hp d (by omega) (fun i hi => hh i (by omega))
    obtain ⟨t, h1, -, -, h4⟩ := sqM_gD h (show d < pwM (gD A k) (-6) n by omega)
    have hn := h.1.2.2
    simp only [lfD, ndM]
    rw [ih, hh d (by omega), h4, hp, pRo_eq h (by omega) k (Nat.le_refl k)]
end DST
