/-! THE PARSERS: the class's machine of one character against the reference's reading (pure) -/
theorem pGo_cong {cf P : Nat → Int32} : ∀ n m c f i, (∀ j, i ≤ j → j < i + n → cf j = P j) → pGo cf m c f i n = pGo P m c f i n
  | 0, _, _, _, _, _ => rfl
  | n + 1, m, c, f, i, h => by
    rw [pGo, pGo, h i (Nat.le_refl i) (by omega)]
    split
    · exact pGo_cong n _ _ _ _ (fun j h1 h2 => h j (by omega) (by omega))
    · rfl
theorem dig_ex {x : Int32} (h3 : ¬ x < nI 48) (h9 : ¬ nI 57 < x) : ∃ d, d ≤ 9 ∧ x = nI (48 + d) := by
  rw [Int32.lt_iff_toInt_lt, nI_toInt (show 48 < 2 ^ 31 by omega)] at h3
  rw [Int32.lt_iff_toInt_lt, nI_toInt (show 57 < 2 ^ 31 by omega)] at h9
  refine ⟨x.toInt.toNat - 48, by omega, ?_⟩
  apply Int32.toInt_inj.mp
  rw [nI_toInt (by omega)]
  omega
theorem ihM_iff {P : Nat → Int32} {L i : Nat} {lo hi : Int32} : ihM P L i lo hi = true ↔ i < L ∧ ¬ P i < lo ∧ ¬ hi < P i := by
  simp only [ihM, inI, Bool.and_eq_true, decide_eq_true_eq, Bool.not_eq_true', decide_eq_false_iff_not]
theorem ihM_one {P : Nat → Int32} {L i : Nat} {x : Int32} : ihM P L i x x = true ↔ i < L ∧ P i = x := by
  rw [ihM_iff]
  constructor
  · rintro ⟨h1, h2, h3⟩
    refine ⟨h1, ?_⟩
    rw [Int32.lt_iff_toInt_lt] at h2 h3
    apply Int32.toInt_inj.mp
    omega
  · rintro ⟨h1, h2⟩
    rw [h2]
    exact ⟨h1, Int32.lt_irrefl, Int32.lt_irrefl⟩
theorem nI_m1 {v : Nat} (hv : v < 2 ^ 31) : ¬ nI v = -1 := fun q => by
  have h1 := congrArg Int32.toInt q
  rw [nI_toInt hv] at h1
  have h2 : (-1 : Int32).toInt = -1 := by decide
  omega
theorem td_n {v d c mo : Nat} (hv : v ≤ 99) (hd : d ≤ 9) (hm : mxN c = nI mo) (hmo : mo ≤ 99) : (tdB (nI v) c (nI d) = true ↔ ¬ v = 0 ∧ 10 * v + d ≤ mo) ∧ (¬ v = 0 → 10 * v + d ≤ mo → tdM (nI v) c (nI d) = nI (10 * v + d)) := by
  have e1 : nI v * nI 10 + nI d = nI (10 * v + d) := by rw [pk_mul, nI_add, Nat.mul_comm]
  have e2 : nI (10 * v + d) ≤ nI mo ↔ 10 * v + d ≤ mo := nI_leI (by omega) (by omega)
  have e3 : nI v = 0 ↔ v = 0 := nI_z (by omega)
  constructor
  · rw [tdB, if_neg (nI_m1 (by omega)), e1, hm]
    simp only [Bool.and_eq_true, Bool.not_eq_true', decide_eq_false_iff_not, decide_eq_true_eq, e2, e3]
  · intro h1 h2
    rw [tdM, if_neg (nI_m1 (by omega)), e1, hm, if_neg (fun q => q.elim (fun z => h1 (e3.mp z)) (fun z => z (e2.mpr h2)))]
/-- a place of the row: which least digit, which greatest number -/
def leC (c : Nat) : Nat := if atL c = true then 1 else 0
def moC (c : Nat) : Nat := if atL c = true then 99 else 15
theorem mx_mo (c : Nat) : mxN c = nI (moC c) := by
  unfold mxN moC
  split <;> rfl
theorem mo_99 (c : Nat) : moC c ≤ 99 ∧ 15 ≤ moC c := by
  unfold moC
  split <;> omega
theorem tk_dg {m : Int32} {c : Nat} {f : Nat → Int32} {d : Nat} (hd : d ≤ 9) : tk m c f (nI (48 + d)) = (tdB m c (nI d), tdM m c (nI d), c, f) := by
  have e : nI (48 + d) - nI 48 = nI d := by rw [pk_sub (by omega), show 48 + d - 48 = d by omega]
  rw [tk_d (nI_nlt (by omega) (by omega)) (nI_nlt (by omega) (by omega)), e]
/-- no number at i: both find the fault there -/
theorem num_no {P : Nat → Int32} {L i c : Nat} {f : Nat → Int32} (hi : i ≤ L) (h : rnB P L i (leC c) = false) : (pGo P (-1) c f i (L - i)).1 = nI i := by
  rcases Nat.lt_or_ge i L with hL | hL
  · have hf : (tk (-1) c f (P i)).1 = false := by
      by_cases h3 : P i < nI 48
      · rw [tk_n1 h3 rfl]
      · by_cases h9 : nI 57 < P i
        · rw [tk_n2 h9 rfl]
        · obtain ⟨d, hd, ed⟩ := dig_ex h3 h9
          rw [ed, tk_dg hd]
          show tdB (-1) c (nI d) = false
          have hn : ¬ ihM P L i (nI (48 + leC c)) (nI 57) = true := by
            have h' : ihM P L i (nI (48 + leC c)) (nI 57) = false := h
            rw [h']; decide
          rw [ihM_iff, ed] at hn
          have hlt : 48 + d < 48 + leC c := Classical.byContradiction fun q => hn ⟨hL, nI_nlt (by omega) (by omega), nI_nlt (by omega) (by omega)⟩
          unfold leC at hlt
          split at hlt
          · rename_i ha
            have : d = 0 := by omega
            subst this
            exact tdB_3 rfl (by decide) ha
          · omega
    rw [pGo_hit (by omega) hf]
  · rw [pGo_end1 (by omega) (Or.inr rfl)]
/-- a number at i: both read it; no digit is taken behind it -/
theorem num_yes {P : Nat → Int32} {L i c : Nat} {f : Nat → Int32} (h : rnB P L i (leC c) = true) : ∃ v, leC c ≤ v ∧ v ≤ moC c ∧ rnN P L i (nI (moC c)) = nI v ∧ pGo P (-1) c f i (L - i) = pGo P (nI v) c f (rnS P L i (nI (moC c))) (L - rnS P L i (nI (moC c))) ∧ ∀ d, d ≤ 9 → rnS P L i (nI (moC c)) < L → P (rnS P L i (nI (moC c))) = nI (48 + d) → tdB (nI v) c (nI d) = false := by
  obtain ⟨hL, h4, h9⟩ := ihM_iff.mp h
  have hle : leC c ≤ 1 := by unfold leC; split <;> omega
  obtain ⟨hmo, hm15⟩ := mo_99 c
  have h3 : ¬ P i < nI 48 := fun q => h4 (by
    rw [Int32.lt_iff_toInt_lt, nI_toInt (by omega)] at q ⊢
    omega)
  obtain ⟨d, hd, ed⟩ := dig_ex h3 h9
  have hdl : leC c ≤ d := Classical.byContradiction fun q => h4 (by rw [ed]; exact nI_lt (by omega) (by omega))
  have htB : tdB (-1) c (nI d) = true := by
    cases ha : atL c with
    | false => exact tdB_2 rfl ha
    | true =>
      have : leC c = 1 := by unfold leC; rw [if_pos ha]
      exact tdB_1 rfl (by
        rw [← nI_0]
        exact nI_lt (by omega) (by omega))
  have htk : tk (-1) c f (P i) = (true, nI d, c, f) := by rw [ed, tk_dg hd, htB, tdM_a rfl]
  have s1 : pGo P (-1) c f i (L - i) = pGo P (nI d) c f (i + 1) (L - (i + 1)) := by
    rw [pGo_miss (n' := L - (i + 1)) (by omega) (by rw [htk]), htk]
  have e1 : P i - nI 48 = nI d := by rw [ed, pk_sub (by omega), show 48 + d - 48 = d by omega]
  have e0 : nI d ≤ 0 ↔ d = 0 := by
    rw [← nI_0, nI_leI (by omega) (by omega)]
    omega
  have hdm : d ≤ moC c := by omega
  cases hx : rnX P L i (nI (moC c)) with
  | false =>
    rw [rnN_f hx, rnS_f hx, e1]
    refine ⟨d, hdl, hdm, rfl, s1, fun d2 hd2 hL2 ed2 => ?_⟩
    refine Bool.eq_false_iff.mpr (fun q => ?_)
    obtain ⟨q1, q2⟩ := (td_n (by omega) hd2 (mx_mo c) hmo).1.mp q
    have hn : rnX P L i (nI (moC c)) = true := rnX_4 (by rw [e1, e0]; exact q1) (ihM_iff.mpr ⟨hL2, by rw [ed2]; exact nI_nlt (by omega) (by omega), by rw [ed2]; exact nI_nlt (by omega) (by omega)⟩) (by
      rw [e1, ed2, pk_mul, nI_add, pk_sub (by omega)]
      exact nI_nlt (by omega) (by omega))
    rw [hx] at hn
    cases hn
  | true =>
    rw [rnN_t hx, rnS_t hx, e1]
    simp only [rnX, Bool.and_eq_true, Bool.not_eq_true', decide_eq_false_iff_not, e1, e0] at hx
    obtain ⟨x1, x2, x3⟩ := hx
    obtain ⟨g1, g2, g3⟩ := ihM_iff.mp x2
    obtain ⟨d2, hd2, ed2⟩ := dig_ex g2 g3
    have e4 : nI 10 * nI d + P (i + 1) - nI 48 = nI (10 * d + d2) := by
      rw [ed2, pk_mul, nI_add, pk_sub (by omega)]
      congr 1
      omega
    rw [e4] at x3 ⊢
    have hle2 : 10 * d + d2 ≤ moC c := Classical.byContradiction fun q => x3 (nI_lt (by omega) (by omega))
    have t1 := td_n (v := d) (d := d2) (c := c) (by omega) hd2 (mx_mo c) hmo
    have htk2 : tk (nI d) c f (P (i + 1)) = (true, nI (10 * d + d2), c, f) := by rw [ed2, tk_dg hd2, t1.1.mpr ⟨x1, hle2⟩, t1.2 x1 hle2]
    refine ⟨10 * d + d2, by omega, hle2, rfl, ?_, fun d3 hd3 _ _ => ?_⟩
    · rw [s1, pGo_miss (n' := L - (i + 1 + 1)) (by omega) (by rw [htk2]), htk2]
    · refine Bool.eq_false_iff.mpr (fun q => ?_)
      obtain ⟨q1, q2⟩ := (td_n (by omega) hd3 (mx_mo c) hmo).1.mp q
      omega
/-- behind a number: the character that is due, or the end, or a fault -/
theorem sep_yes {P : Nat → Int32} {L i c v : Nat} {f : Nat → Int32} (hv : v ≤ 99) (h : ihM P L i (chB c) (chB c) = true) : pGo P (nI v) c f i (L - i) = pGo P (-1) (kpC c) (kpF c (nI v) f) (i + 1) (L - (i + 1)) := by
  obtain ⟨hL, e⟩ := ihM_one.mp h
  have hc : chB c < nI 48 ∨ nI 57 < chB c := by
    unfold chB
    split
    · exact Or.inl (by decide)
    · split
      · exact Or.inr (by decide)
      · exact Or.inr (by decide)
  have ht : tk (nI v) c f (P i) = (true, -1, kpC c, kpF c (nI v) f) := by
    rw [e]
    exact hc.elim (fun q => tk_y1 q (nI_m1 (by omega)) rfl) (fun q => tk_y2 q (nI_m1 (by omega)) rfl)
  rw [pGo_miss (n' := L - (i + 1)) (by omega) (by rw [ht]), ht]
theorem sep_no {P : Nat → Int32} {L i c v : Nat} {f : Nat → Int32} (hL : i < L) (h : ihM P L i (chB c) (chB c) = false) (hd : ∀ d, d ≤ 9 → i < L → P i = nI (48 + d) → tdB (nI v) c (nI d) = false) : (pGo P (nI v) c f i (L - i)).1 = nI i := by
  have hne : ¬ P i = chB c := fun q => by
    have h1 := ihM_one.mpr ⟨hL, q⟩
    rw [h] at h1
    cases h1
  have hf : (tk (nI v) c f (P i)).1 = false := by
    by_cases h3 : P i < nI 48
    · rw [tk_n3 h3 hne]
    · by_cases h9 : nI 57 < P i
      · rw [tk_n4 h9 hne]
      · obtain ⟨d, hd9, ed⟩ := dig_ex h3 h9
        rw [ed, tk_dg hd9]
        exact hd d hd9 hL ed
  rw [pGo_hit (by omega) hf]
theorem sep_end {P : Nat → Int32} {L c v : Nat} {f : Nat → Int32} (ha : atL c = false) : (pGo P (nI v) c f L (L - L)).1 = nI L := by
  rw [pGo_end1 (by omega) (Or.inl ha)]
/-- the character that is due, or a fault, at an inner number -/
theorem sep_f {P : Nat → Int32} {L i c v : Nat} {f : Nat → Int32} (hi : i ≤ L) (ha : atL c = false) (h : ihM P L i (chB c) (chB c) = false) (hd : ∀ d, d ≤ 9 → i < L → P i = nI (48 + d) → tdB (nI v) c (nI d) = false) : (pGo P (nI v) c f i (L - i)).1 = nI i := by
  rcases Nat.lt_or_ge i L with hL | hL
  · exact sep_no hL h hd
  · have e : i = L := by omega
    subst e
    exact sep_end ha
theorem c3_0 (r : Nat) : atL (3 * r) = false ∧ chB (3 * r) = nI 45 := ⟨decide_eq_false (by omega), by rw [chB, if_pos (by omega)]⟩
theorem c3_1 (r : Nat) : atL (3 * r + 1) = false ∧ chB (3 * r + 1) = nI 58 := ⟨decide_eq_false (by omega), by rw [chB, if_neg (by omega), if_pos (by omega)]⟩
theorem c3_2 (r : Nat) : atL (3 * r + 2) = true ∧ chB (3 * r + 2) = nI 59 := ⟨decide_eq_true (by omega), by rw [chB, if_neg (by omega), if_neg (by omega)]⟩
theorem le_f {c : Nat} (h : atL c = false) : leC c = 0 ∧ moC c = 15 := by unfold leC moC; rw [h]; exact ⟨rfl, rfl⟩
theorem le_t {c : Nat} (h : atL c = true) : leC c = 1 ∧ moC c = 99 := by unfold leC moC; rw [h]; exact ⟨rfl, rfl⟩
/-- a road is read by both -/
theorem road_eq {P : Nat → Int32} {L sn rm : Nat} {nu : Int32} {f : Nat → Int32} (hs : sn ≤ L) (hr : rm ≤ 20) : ((rr P L sn nu).1 = false → (pGo P (-1) (3 * rm) f sn (L - sn)).1 = nI (rr P L sn nu).2.1) ∧ ((rr P L sn nu).1 = true → ∃ x y z, x ≤ 15 ∧ y ≤ 15 ∧ 1 ≤ z ∧ z ≤ 99 ∧ (rr P L sn nu).2.2.2.1 = nI x ∧ (rr P L sn nu).2.2.2.2 = nI y ∧ (rr P L sn nu).2.2.1 = nI z ∧ pGo P (-1) (3 * rm) f sn (L - sn) = pGo P (nI z) (3 * rm + 2) (upd (upd f (3 * rm) (nI x)) (3 * rm + 1) (nI y)) (rr P L sn nu).2.1 (L - (rr P L sn nu).2.1) ∧ ∀ d, d ≤ 9 → (rr P L sn nu).2.1 < L → P (rr P L sn nu).2.1 = nI (48 + d) → tdB (nI z) (3 * rm + 2) (nI d) = false) := by
  obtain ⟨a0, b0⟩ := c3_0 rm
  obtain ⟨a1, b1⟩ := c3_1 rm
  obtain ⟨a2, b2⟩ := c3_2 rm
  obtain ⟨l0, m0⟩ := le_f a0
  obtain ⟨l1, m1⟩ := le_f a1
  obtain ⟨l2, m2⟩ := le_t a2
  have k0 : kpC (3 * rm) = 3 * rm + 1 := by rw [kpC, if_pos (by omega)]
  have k1 : kpC (3 * rm + 1) = 3 * rm + 2 := by rw [kpC, if_pos (by omega)]
  cases h1 : rnB P L sn 0 with
  | false =>
    rw [rr_1 h1]
    exact ⟨fun _ => num_no hs (by rw [l0]; exact h1), fun q => by cases q⟩
  | true =>
    obtain ⟨x, -, hx2, ex, gx, dx⟩ := num_yes (c := 3 * rm) (f := f) (by rw [l0]; exact h1)
    rw [m0] at hx2 ex gx dx
    have g1 := rnS_b (mo9 := nI 15) h1
    cases h2 : ihM P L (rnS P L sn (nI 15)) (nI 45) (nI 45) with
    | false =>
      rw [rr_2 h1 h2]
      exact ⟨fun _ => by rw [gx]; exact sep_f g1.2 a0 (by rw [b0]; exact h2) dx, fun q => by cases q⟩
    | true =>
      rw [sep_yes (by omega) (by rw [b0]; exact h2), k0, kpF, if_pos (by omega)] at gx
      have g2 := ihM_lt h2
      cases h3 : rnB P L (rnS P L sn (nI 15) + 1) 0 with
      | false =>
        rw [rr_3 h1 h2 h3]
        exact ⟨fun _ => by rw [gx]; exact num_no (by omega) (by rw [l1]; exact h3), fun q => by cases q⟩
      | true =>
        obtain ⟨y, -, hy2, ey, gy, dy⟩ := num_yes (c := 3 * rm + 1) (f := upd f (3 * rm) (nI x)) (by rw [l1]; exact h3)
        rw [m1] at hy2 ey gy dy
        have g3 := rnS_b (mo9 := nI 15) h3
        rw [gy] at gx
        cases h4 : ihM P L (rnS P L (rnS P L sn (nI 15) + 1) (nI 15)) (nI 58) (nI 58) with
        | false =>
          rw [rr_4 h1 h2 h3 h4]
          exact ⟨fun _ => by rw [gx]; exact sep_f g3.2 a1 (by rw [b1]; exact h4) dy, fun q => by cases q⟩
        | true =>
          rw [sep_yes (by omega) (by rw [b1]; exact h4), k1, kpF, if_pos (by omega)] at gx
          have g4 := ihM_lt h4
          cases h5 : rnB P L (rnS P L (rnS P L sn (nI 15) + 1) (nI 15) + 1) 1 with
          | false =>
            rw [rr_5 h1 h2 h3 h4 h5]
            exact ⟨fun _ => by rw [gx]; exact num_no (by omega) (by rw [l2]; exact h5), fun q => by cases q⟩
          | true =>
            obtain ⟨z, hz1, hz2, ez, gz, dz⟩ := num_yes (c := 3 * rm + 2) (f := upd (upd f (3 * rm) (nI x)) (3 * rm + 1) (nI y)) (by rw [l2]; exact h5)
            rw [m2] at hz2 ez gz dz
            rw [l2] at hz1
            rw [rr_6 h1 h2 h3 h4 h5]
            refine ⟨fun q => by (cases q), fun _ => ⟨x, y, z, hx2, hy2, hz1, hz2, ex, ey, ez, ?_, dz⟩⟩
            rw [gx]
            exact gz
theorem nI_m6' : ∀ q, q < 128 → ¬ nI q = -6 := by decide +kernel
/-- what both parsers say of the pad -/
def PsR (G : Int32 × Int32 × Nat × (Nat → Int32)) (F : Int32 × Nat × Int32 × Nat × (Nat → Int32)) : Prop := G.1 = F.1 ∧ (F.1 = -6 → F.2.2.2.1 ≤ 13 ∧ G.2.2.1 = 3 * F.2.2.2.1 ∧ (∀ j, j < 3 * F.2.2.2.1 → G.2.2.2 j = F.2.2.2.2 j) ∧ ∀ t, t < F.2.2.2.1 → ∃ x y z, x ≤ 15 ∧ y ≤ 15 ∧ 1 ≤ z ∧ z ≤ 99 ∧ F.2.2.2.2 (3 * t) = nI x ∧ F.2.2.2.2 (3 * t + 1) = nI y ∧ F.2.2.2.2 (3 * t + 2) = nI z)
theorem parse_eq {P : Nat → Int32} {L : Nat} (hL : L ≤ 80) : ∀ m9 sn rm nu f g, L < sn + m9 → sn ≤ L → 6 * rm ≤ sn → (∀ j, j < 3 * rm → f j = g j) → (∀ t, t < rm → ∃ x y z, x ≤ 15 ∧ y ≤ 15 ∧ 1 ≤ z ∧ z ≤ 99 ∧ g (3 * t) = nI x ∧ g (3 * t + 1) = nI y ∧ g (3 * t + 2) = nI z) → PsR (pGo P (-1) (3 * rm) f sn (L - sn)) (fgM P L m9 sn nu rm g)
  | 0, sn, rm, nu, f, g, h, hs, _, _, _ => absurd h (by omega)
  | m9 + 1, sn, rm, nu, f, g, h, hs, h6, hfg, hv => by
    obtain ⟨r1, r2⟩ := road_eq (P := P) (L := L) (sn := sn) (rm := rm) (nu := nu) (f := f) hs (by omega)
    cases hr : (rr P L sn nu).1 with
    | false =>
      rw [fgM_1 hr]
      have hb : (rr P L sn nu).2.1 ≤ L := by
        have e := r1 hr
        cases h1 : rnB P L sn 0 with
        | false => rw [rr_1 h1]; exact hs
        | true =>
          have g1 := rnS_b (mo9 := nI 15) h1
          cases h2 : ihM P L (rnS P L sn (nI 15)) (nI 45) (nI 45) with
          | false => rw [rr_2 h1 h2]; exact g1.2
          | true =>
            have g2 := ihM_lt h2
            cases h3 : rnB P L (rnS P L sn (nI 15) + 1) 0 with
            | false => rw [rr_3 h1 h2 h3]; exact g2
            | true =>
              have g3 := rnS_b (mo9 := nI 15) h3
              cases h4 : ihM P L (rnS P L (rnS P L sn (nI 15) + 1) (nI 15)) (nI 58) (nI 58) with
              | false => rw [rr_4 h1 h2 h3 h4]; exact g3.2
              | true =>
                have g4 := ihM_lt h4
                cases h5 : rnB P L (rnS P L (rnS P L sn (nI 15) + 1) (nI 15) + 1) 1 with
                | false => rw [rr_5 h1 h2 h3 h4 h5]; exact g4
                | true =>
                  rw [rr_6 h1 h2 h3 h4 h5] at hr
                  cases hr
      exact ⟨r1 hr, fun q => absurd q (nI_m6' _ (by omega))⟩
    | true =>
      obtain ⟨x, y, z, hx, hy, hz1, hz2, ex, ey, ez, eg, dz⟩ := r2 hr
      have gb := rr_ok hr
      obtain ⟨a2, b2⟩ := c3_2 rm
      have k2 : kpC (3 * rm + 2) = 3 * (rm + 1) := by rw [kpC, if_pos (by omega)]; omega
      have eF : rrF P L sn rm nu g = upd (upd (upd g (3 * rm) (nI x)) (3 * rm + 1) (nI y)) (3 * rm + 2) (nI z) := by rw [rrF, if_pos hr, ex, ey, ez]
      have hfg2 : ∀ j, j < 3 * (rm + 1) → upd (upd (upd f (3 * rm) (nI x)) (3 * rm + 1) (nI y)) (3 * rm + 2) (nI z) j = rrF P L sn rm nu g j := fun j hj => by
        rw [eF]
        simp only [upd]
        split
        · rfl
        · split
          · rfl
          · split
            · rfl
            · exact hfg j (by omega)
      have hv2 : ∀ t, t < rm + 1 → ∃ x y z, x ≤ 15 ∧ y ≤ 15 ∧ 1 ≤ z ∧ z ≤ 99 ∧ rrF P L sn rm nu g (3 * t) = nI x ∧ rrF P L sn rm nu g (3 * t + 1) = nI y ∧ rrF P L sn rm nu g (3 * t + 2) = nI z := fun t ht => by
        rw [eF]
        by_cases e : t = rm
        · subst e
          refine ⟨x, y, z, hx, hy, hz1, hz2, ?_, ?_, ?_⟩
          · rw [upd, if_neg (by omega), upd, if_neg (by omega), upd, if_pos rfl]
          · rw [upd, if_neg (by omega), upd, if_pos rfl]
          · rw [upd, if_pos rfl]
        · obtain ⟨x', y', z', q1, q2, q3, q4, q5, q6, q7⟩ := hv t (by omega)
          refine ⟨x', y', z', q1, q2, q3, q4, ?_, ?_, ?_⟩
          · rw [upd, if_neg (by omega), upd, if_neg (by omega), upd, if_neg (by omega)]; exact q5
          · rw [upd, if_neg (by omega), upd, if_neg (by omega), upd, if_neg (by omega)]; exact q6
          · rw [upd, if_neg (by omega), upd, if_neg (by omega), upd, if_neg (by omega)]; exact q7
      rw [eg]
      cases hc : ihM P L (rr P L sn nu).2.1 (nI 59) (nI 59) with
      | true =>
        have g9 := ihM_lt hc
        rw [fgM_2 hr hc, sep_yes (by omega) (by rw [b2]; exact hc), k2, kpF, if_pos (by omega)]
        exact parse_eq hL m9 _ _ _ _ _ (by omega) (by omega) (by omega) hfg2 hv2
      | false =>
        rw [fgM_3 hr hc]
        by_cases e : (rr P L sn nu).2.1 = L
        · rw [if_pos e, e, pGo_end2 (by omega) a2 (nI_m1 (by omega)), k2, kpF, if_pos (by omega)]
          exact ⟨rfl, fun _ => ⟨by show rm + 1 ≤ 13; omega, rfl, hfg2, hv2⟩⟩
        · rw [if_neg e]
          refine ⟨sep_no (by omega) (by rw [b2]; exact hc) dz, fun q => absurd q (nI_m6' _ (by omega))⟩
/-- both parsers, from the start -/
theorem parse_both {cf P : Nat → Int32} {L : Nat} (hL : L ≤ 80) (h : ∀ j, j < L → cf j = P j) (f0 g0 : Nat → Int32) (nu : Int32) : PsR (pGo cf (-1) 0 f0 0 L) (fgM P L (L + 1) 0 nu 0 g0) := by
  rw [pGo_cong (P := P) L (-1) 0 f0 0 (fun j _ hj => h j (by omega))]
  exact parse_eq hL (L + 1) 0 0 nu f0 g0 (by omega) (Nat.zero_le L) (Nat.le_refl 0) (fun j hj => absurd hj (by omega)) (fun t ht => absurd ht (Nat.not_lt_zero t))
theorem anyB_cong {p q : Nat → Bool} : ∀ w, (∀ i, i < w → p i = q i) → anyB p w = anyB q w
  | 0, _ => rfl
  | w + 1, h => by
    simp only [anyB]
    rw [anyB_cong w (fun i hi => h i (by omega)), h w (by omega)]
theorem anyB_no {p : Nat → Bool} : ∀ {w : Nat}, anyB p w = false → ∀ i, i < w → p i = false
  | 0, _, i, hi => absurd hi (Nat.not_lt_zero i)
  | w + 1, h, i, hi => by
    simp only [anyB, Bool.or_eq_false_iff] at h
    rcases Nat.lt_succ_iff_lt_or_eq.mp hi with z | z
    · exact anyB_no h.1 i z
    · subst z; exact h.2
