/-! CLASSES OF SQUARES: the sweep and the count of least squares agree (pure) -/
theorem mk_bt : ∀ q, q < 32 → ∀ i, i < 32 → bt ((nI 1 <<< (nI q &&& 31)) - nI 1) i = decide (i < q) := by decide +kernel
/-- q is the least of its class -/
def Lst (g : Nat → Int32) (q : Nat) : Prop := (g q &&& ((nI 1 <<< (nI q &&& 31)) - nI 1)) = 0
theorem lst_iff {g : Nat → Int32} (h : Eq16 g) {q : Nat} (hq : q < 16) : Lst g q ↔ ∀ t, t < q → bt (g t) q = false := by
  constructor
  · intro hl t ht
    cases hb : bt (g t) q with
    | false => rfl
    | true =>
      have h1 := h.sym (by omega) hq hb
      exact absurd hl (and_ne0.mpr ⟨t, by omega, h1, by rw [mk_bt q (by omega) t (by omega), decide_eq_true ht]⟩)
  · intro ha
    refine Classical.byContradiction fun hn => ?_
    obtain ⟨i, hi, h1, h2⟩ := and_ne0.mp hn
    rw [mk_bt q (by omega) i hi, decide_eq_true_eq] at h2
    have h3 := h.sym hq (by omega) h1
    exact absurd (h3.symm.trans (ha i h2)) (by decide)
theorem lst_uni {g : Nat → Int32} (h : Eq16 g) {u v j : Nat} (hu : u < 16) (hv : v < 16) (hj : j < 16) (lu : Lst g u) (lv : Lst g v) (hb : bt (g u) j = true) (hc : bt (g v) j = true) : u = v := by
  have e : g u = g v := ((h u hu).2.2 j hj hb).symm.trans ((h v hv).2.2 j hj hc)
  have h1 : bt (g u) v = true := by rw [e]; exact (h v hv).1
  have h2 : bt (g v) u = true := by rw [← e]; exact (h u hu).1
  rcases Nat.lt_trichotomy u v with z | z | z
  · exact absurd (h1.symm.trans ((lst_iff h hv).mp lv u z)) (by decide)
  · exact z
  · exact absurd (h2.symm.trans ((lst_iff h hu).mp lu v z)) (by decide)
theorem swP_seen {g po : Nat → Int32} (h : Eq16 g) : ∀ q, q ≤ 16 → ∀ i, i < 32 → (bt (swP g po q).1 i = true ↔ ∃ t, t < q ∧ bt (g t) i = true)
  | 0, _, i, _ => by
    constructor
    · intro z
      rw [show (swP g po 0).1 = 0 from rfl, b_0] at z
      exact absurd z (by decide)
    · rintro ⟨t, ht, -⟩
      exact absurd ht (Nat.not_lt_zero t)
  | q + 1, hq, i, hi => by
    have ih := swP_seen (po := po) h q (by omega)
    cases hc : cnt (swP g po q).1 (nI q) with
    | true =>
      rw [swP_t hc, ih i hi]
      constructor
      · rintro ⟨t, ht, hb⟩
        exact ⟨t, by omega, hb⟩
      · rintro ⟨t, ht, hb⟩
        by_cases e : t = q
        · subst e
          rw [cnt_bt (by omega)] at hc
          obtain ⟨u, hu, hb2⟩ := (ih t (by omega)).mp hc
          refine ⟨u, hu, ?_⟩
          rw [← (h u (by omega)).2.2 t (by omega) hb2]
          exact hb
        · exact ⟨t, by omega, hb⟩
    | false =>
      rw [swP_f hc]
      show bt ((swP g po q).1 ||| g q) i = true ↔ _
      rw [b_or, Bool.or_eq_true, ih i hi]
      constructor
      · rintro (⟨t, ht, hb⟩ | hb)
        · exact ⟨t, by omega, hb⟩
        · exact ⟨q, by omega, hb⟩
      · rintro ⟨t, ht, hb⟩
        by_cases e : t = q
        · subst e; exact Or.inr hb
        · exact Or.inl ⟨t, by omega, hb⟩
theorem swP_lst {g po : Nat → Int32} (h : Eq16 g) {q : Nat} (hq : q < 16) : cnt (swP g po q).1 (nI q) = false ↔ Lst g q := by
  rw [cnt_bt (by omega), lst_iff h hq]
  have hs := swP_seen (po := po) h q (by omega) q (by omega)
  constructor
  · intro hf t ht
    cases hb : bt (g t) q with
    | false => rfl
    | true => exact absurd (hf.symm.trans (hs.mpr ⟨t, ht, hb⟩)) (by decide)
  · intro ha
    cases hb : bt (swP g po q).1 q with
    | false => rfl
    | true =>
      obtain ⟨t, ht, hb2⟩ := hs.mp hb
      exact absurd (hb2.symm.trans (ha t ht)) (by decide)
theorem pwM_l {g : Nat → Int32} {q : Nat} (hq : q < 32) (h : Lst g q) : pwM g (-6) (q + 1) = pwM g (-6) q + 1 := by rw [pwM, if_pos ⟨nI_m6 q hq, h⟩]
theorem pwM_n {g : Nat → Int32} {q : Nat} (h : ¬ Lst g q) : pwM g (-6) (q + 1) = pwM g (-6) q := by rw [pwM, if_neg (fun z => h z.2)]
theorem pwM_mono {g : Nat → Int32} {q : Nat} : ∀ d, pwM g (-6) q ≤ pwM g (-6) (q + d)
  | 0 => Nat.le_refl _
  | d + 1 => by
    have h := pwM_mono (g := g) (q := q) d
    show _ ≤ pwM g (-6) ((q + d) + 1)
    simp only [pwM]
    split <;> omega
theorem pwM_lt {g : Nat → Int32} {t q : Nat} (ht : t < q) (hq : q ≤ 32) (h : Lst g t) : pwM g (-6) t < pwM g (-6) q := by
  have h1 := pwM_l (by omega) h
  have h2 := pwM_mono (g := g) (q := t + 1) (q - (t + 1))
  rw [show t + 1 + (q - (t + 1)) = q by omega] at h2
  omega
theorem swP_cnt {g po : Nat → Int32} (h : Eq16 g) : ∀ q, q ≤ 16 → (swP g po q).2.1 = pwM g (-6) q
  | 0, _ => rfl
  | q + 1, hq => by
    have ih := swP_cnt (po := po) h q (by omega)
    have hl := swP_lst (po := po) h (show q < 16 by omega)
    cases hc : cnt (swP g po q).1 (nI q) with
    | true =>
      rw [swP_t hc, pwM_n (fun z => absurd ((hl.mpr z).symm.trans hc) (by decide)), ih]
    | false =>
      rw [swP_f hc, pwM_l (by omega) (hl.mp hc)]
      show (swP g po q).2.1 + 1 = _
      rw [ih]
theorem swP_po {g po : Nat → Int32} (h : Eq16 g) {j : Nat} (hj : j < 16) : ∀ q, q ≤ 16 → (∃ t, t < q ∧ bt (g t) j = true) → (swP g po q).2.2 j = g j
  | 0, _, ⟨t, ht, _⟩ => absurd ht (Nat.not_lt_zero t)
  | q + 1, hq, ⟨t, ht, hb⟩ => by
    have ih := swP_po (po := po) h hj q (by omega)
    cases hc : cnt (swP g po q).1 (nI q) with
    | true =>
      rw [swP_t hc]
      by_cases e : t = q
      · subst e
        rw [cnt_bt (by omega)] at hc
        obtain ⟨u, hu, hb2⟩ := (swP_seen (po := po) h t (by omega) t (by omega)).mp hc
        refine ih ⟨u, hu, ?_⟩
        rw [← (h u (by omega)).2.2 t (by omega) hb2]
        exact hb
      · exact ih ⟨t, by omega, hb⟩
    | false =>
      rw [swP_f hc]
      show sfm (swP g po q).2.2 (g q) (g q) 16 j = g j
      cases hd : bt (g q) j with
      | true =>
        rw [sfm, if_pos ⟨hj, by rw [cnt_bt (by omega)]; exact hd⟩]
        exact ((h q (by omega)).2.2 j hj hd).symm
      | false =>
        rw [sfm, if_neg (fun z => absurd (hd.symm.trans ((cnt_bt (x := g q) (i := j) (by omega)).symm.trans z.2)) (by decide))]
        refine ih ⟨t, ?_, hb⟩
        have : ¬ t = q := fun e => by subst e; exact absurd (hd.symm.trans hb) (by decide)
        omega
theorem swP_pieces {g po : Nat → Int32} (h : Eq16 g) {n j : Nat} (hn : n ≤ 16) (hj : j < n) : (swP g po n).2.2 j = g j := swP_po h (by omega) n hn ⟨j, hj, (h j (by omega)).1⟩
theorem swD_P {g dO dS : Nat → Int32} (po : Nat → Int32) : ∀ q, (swD g dO dS q).1 = (swP g po q).1 ∧ (swD g dO dS q).2.1 = (swP g po q).2.1
  | 0 => ⟨rfl, rfl⟩
  | q + 1 => by
    obtain ⟨h1, h2⟩ := swD_P (dO := dO) (dS := dS) po q
    cases hc : cnt (swP g po q).1 (nI q) with
    | true => rw [swP_t hc, swD_t (by rw [h1]; exact hc)]; exact ⟨h1, h2⟩
    | false =>
      rw [swP_f hc, swD_f (by rw [h1]; exact hc)]
      exact ⟨by show _ ||| _ = _ ||| _; rw [h1], by show _ + 1 = _ + 1; rw [h2]⟩
theorem swD_cnt {g dO dS : Nat → Int32} (h : Eq16 g) {q : Nat} (hq : q ≤ 16) : (swD g dO dS q).2.1 = pwM g (-6) q := (swD_P (fun _ => 0) q).2.trans (swP_cnt h q hq)
theorem swD_lst {g dO dS : Nat → Int32} (h : Eq16 g) {q : Nat} (hq : q < 16) : cnt (swD g dO dS q).1 (nI q) = false ↔ Lst g q := by
  rw [(swD_P (fun _ => 0) q).1]
  exact swP_lst h hq
/-- the squares of a district, by its least square -/
theorem swD_S {g dO dS : Nat → Int32} (h : Eq16 g) {t : Nat} (hl : Lst g t) : ∀ q, q ≤ 16 → t < q → (swD g dO dS q).2.2.2 (pwM g (-6) t) = g t
  | 0, _, ht => absurd ht (Nat.not_lt_zero t)
  | q + 1, hq, ht => by
    have hs := swD_lst (dO := dO) (dS := dS) h (show q < 16 by omega)
    by_cases e : t = q
    · subst e
      rw [swD_f (hs.mpr hl)]
      show upd _ (swD g dO dS t).2.1 (g t) _ = _
      rw [swD_cnt h (by omega), upd, if_pos rfl]
    · have ih := swD_S (dO := dO) (dS := dS) h hl q (by omega) (by omega)
      cases hc : cnt (swD g dO dS q).1 (nI q) with
      | true => rw [swD_t hc]; exact ih
      | false =>
        rw [swD_f hc]
        show upd _ (swD g dO dS q).2.1 (g q) _ = _
        rw [swD_cnt h (by omega), upd, if_neg (Nat.ne_of_lt (pwM_lt (by omega) (by omega) hl))]
        exact ih
/-- the district of a square, by its least square -/
theorem swD_O {g dO dS : Nat → Int32} (h : Eq16 g) {t j : Nat} (hj : j < 16) (hl : Lst g t) (hb : bt (g t) j = true) : ∀ q, q ≤ 16 → t < q → (swD g dO dS q).2.2.1 j = nI (pwM g (-6) t)
  | 0, _, ht => absurd ht (Nat.not_lt_zero t)
  | q + 1, hq, ht => by
    have hs := swD_lst (dO := dO) (dS := dS) h (show q < 16 by omega)
    by_cases e : t = q
    · subst e
      rw [swD_f (hs.mpr hl)]
      show sfm _ (g t) (nI (swD g dO dS t).2.1) 16 j = _
      rw [swD_cnt h (by omega), sfm, if_pos ⟨hj, by rw [cnt_bt (by omega)]; exact hb⟩]
    · have ih := swD_O (dO := dO) (dS := dS) h hj hl hb q (by omega) (by omega)
      cases hc : cnt (swD g dO dS q).1 (nI q) with
      | true => rw [swD_t hc]; exact ih
      | false =>
        rw [swD_f hc]
        show sfm _ (g q) (nI (swD g dO dS q).2.1) 16 j = _
        rw [sfm, if_neg (fun z => e (lst_uni h (by omega) (by omega) hj hl (hs.mp hc) hb (by rw [← cnt_bt (by omega)]; exact z.2)))]
        exact ih
theorem sqF_S {g : Nat → Int32} {t : Nat} (hl : Lst g t) : ∀ n q, q ≤ t → t < q + n → q + n ≤ 32 → sqF g (pwM g (-6) t) q (pwM g (-6) q) n = g t
  | 0, q, h1, h2, _ => by omega
  | n + 1, q, h1, h2, h3 => by
    by_cases e : q = t
    · subst e
      exact (sqF_hit (by omega) hl rfl).symm
    · by_cases hq : Lst g q
      · have h4 := pwM_lt (show q < t by omega) (by omega) hq
        rw [sqF_s1 rfl hq (by omega), ← pwM_l (by omega) hq]
        exact sqF_S hl n (q + 1) (by omega) (by omega) (by omega)
      · rw [sqF_s2 rfl hq, ← pwM_n hq]
        exact sqF_S hl n (q + 1) (by omega) (by omega) (by omega)
theorem pwM_ex {g : Nat → Int32} {d : Nat} : ∀ n, n ≤ 32 → d < pwM g (-6) n → ∃ t, t < n ∧ Lst g t ∧ pwM g (-6) t = d
  | 0, _, h => absurd h (Nat.not_lt_zero d)
  | n + 1, hn, h => by
    by_cases hl : Lst g n
    · rw [pwM_l (by omega) hl] at h
      by_cases e : d = pwM g (-6) n
      · exact ⟨n, by omega, hl, e.symm⟩
      · obtain ⟨t, h1, h2, h3⟩ := pwM_ex n (by omega) (show d < pwM g (-6) n by omega)
        exact ⟨t, by omega, h2, h3⟩
    · rw [pwM_n hl] at h
      obtain ⟨t, h1, h2, h3⟩ := pwM_ex n (by omega) h
      exact ⟨t, by omega, h2, h3⟩
/-- both sides' squares of the d-th district -/
theorem swD_sqF {g dO dS : Nat → Int32} (h : Eq16 g) {n d : Nat} (hn : n ≤ 16) (hd : d < pwM g (-6) n) : (swD g dO dS n).2.2.2 d = sqF g d 0 0 n := by
  obtain ⟨t, h1, h2, rfl⟩ := pwM_ex n (by omega) hd
  rw [swD_S h h2 n hn h1]
  have h3 := sqF_S h2 n 0 (Nat.zero_le t) (by omega) (by omega)
  exact h3.symm
theorem lwF_lst {g : Nat → Int32} (h : Eq16 g) {x : Nat} (hx : x < 16) : ∀ n q, q ≤ x → x < q + n → (∀ t, t < q → bt (g x) t = false) → Lst g (lwF (g x) q n) ∧ bt (g (lwF (g x) q n)) x = true ∧ lwF (g x) q n ≤ x
  | 0, q, h1, h2, _ => by omega
  | n + 1, q, h1, h2, h3 => by
    cases hc : cnt (g x) (nI q) with
    | true =>
      rw [lwF_h (by omega) hc]
      rw [cnt_bt (by omega)] at hc
      refine ⟨(lst_iff h (by omega)).mpr (fun t ht => ?_), h.sym hx (by omega) hc, h1⟩
      cases hb : bt (g t) q with
      | false => rfl
      | true =>
        have h4 := h.sym (by omega) (by omega) hb
        rw [(h x hx).2.2 q (by omega) hc] at h4
        exact absurd (h4.symm.trans (h3 t ht)) (by decide)
    | false =>
      have h4 : ¬ q = x := fun e => by
        rw [cnt_bt (by omega), e, (h x hx).1] at hc
        exact absurd hc (by decide)
      rw [lwF_s rfl hc]
      refine lwF_lst h hx n (q + 1) (by omega) (by omega) (fun t ht => ?_)
      by_cases e : t = q
      · subst e; rw [← cnt_bt (by omega)]; exact hc
      · exact h3 t (by omega)
