/-! DISTRICTS AND ROADS THAT PART ARE A TREE (pure) -/
def sm (f : Nat → Nat) : Nat → Nat
  | 0 => 0
  | d + 1 => sm f d + f d
theorem sm_cong {f g : Nat → Nat} : ∀ {n : Nat}, (∀ i, i < n → f i = g i) → sm f n = sm g n
  | 0, _ => rfl
  | n + 1, h => by rw [sm, sm, sm_cong (fun i hi => h i (by omega)), h n (by omega)]
theorem sm_add (f g : Nat → Nat) : ∀ n, sm (fun i => f i + g i) n = sm f n + sm g n
  | 0 => rfl
  | n + 1 => by
    have h := sm_add f g n
    simp only [sm]
    omega
theorem sm_b (p : Nat → Bool) : ∀ n, bcnt p n = sm (fun i => if p i = true then 1 else 0) n
  | 0 => rfl
  | n + 1 => by
    show bcnt p n + (if p n = true then 1 else 0) = sm (fun i => if p i = true then 1 else 0) n + (if p n = true then 1 else 0)
    rw [sm_b p n]
theorem sm_0 : ∀ n, sm (fun _ => 0) n = 0
  | 0 => rfl
  | n + 1 => by rw [sm, sm_0 n]
/-- each thing lies in one district -/
theorem sm_swap (de w : Nat → Nat) (k : Nat) : ∀ D, sm (fun d => sm (fun r => if de r = d then w r else 0) k) D = sm (fun r => if de r < D then w r else 0) k
  | 0 => by
    rw [sm_cong (g := fun _ => 0) (fun i _ => if_neg (Nat.not_lt_zero _)), sm_0]
    rfl
  | D + 1 => by
    rw [sm, sm_swap de w k D, ← sm_add]
    refine sm_cong (fun r _ => ?_)
    by_cases c : de r = D
    · rw [if_neg (show ¬ de r < D by omega), if_pos c, if_pos (show de r < D + 1 by omega)]; omega
    · rw [if_neg c]
      by_cases c2 : de r < D
      · rw [if_pos c2, if_pos (show de r < D + 1 by omega)]; omega
      · rw [if_neg c2, if_neg (show ¬ de r < D + 1 by omega)]
theorem sm_all {de w : Nat → Nat} {k D : Nat} (h : ∀ r, r < k → de r < D) : sm (fun d => sm (fun r => if de r = d then w r else 0) k) D = sm w k := by
  rw [sm_swap]
  exact sm_cong (fun r hr => if_pos (h r hr))
/-- the lowest bit -/
theorem neg_nI {X : Nat} (h : X ≤ 2 ^ 32) : -(nI X) = nI (2 ^ 32 - X) := by
  have h1 : nI X + nI (2 ^ 32 - X) = 0 := by
    rw [nI_add, show X + (2 ^ 32 - X) = 2 ^ 32 by omega]
    decide
  calc -(nI X) = -(nI X) + 0 := (Int32.add_zero _).symm
    _ = -(nI X) + (nI X + nI (2 ^ 32 - X)) := by rw [h1]
    _ = (-(nI X) + nI X) + nI (2 ^ 32 - X) := (Int32.add_assoc _ _ _).symm
    _ = 0 + nI (2 ^ 32 - X) := by rw [Int32.add_left_neg]
    _ = nI (2 ^ 32 - X) := Int32.zero_add _
theorem low_one {x : Int32} {t : Nat} (ht : t < 32) (h1 : bt x t = true) (h2 : ∀ u, u < t → bt x u = false) : x &&& (-x) = nI 1 <<< (nI t &&& 31) := by
  obtain ⟨X, hX, rfl⟩ := wb_of32 x
  have h0 : 0 < X := Nat.pos_of_ne_zero (fun q => by
    subst q
    rw [nI_0, b_0] at h1
    cases h1)
  obtain ⟨s, u, e⟩ := low_bit X h0
  have hp : 0 < 2 ^ s := Nat.two_pow_pos s
  have hlt : 2 ^ s < 2 ^ (s + 1) := Nat.pow_lt_pow_right (by decide) (by omega)
  have tX : ∀ i, X.testBit i = if i < s + 1 then decide (s = i) else u.testBit (i - (s + 1)) := fun i => by
    rw [e, Nat.testBit_two_pow_mul_add _ hlt, Nat.testBit_two_pow]
  have tY : ∀ i, (X - 1).testBit i = if i < s + 1 then decide (i < s) else u.testBit (i - (s + 1)) := fun i => by
    rw [e, show 2 ^ (s + 1) * u + 2 ^ s - 1 = 2 ^ (s + 1) * u + (2 ^ s - 1) by omega, Nat.testBit_two_pow_mul_add _ (by omega), Nat.testBit_two_pow_sub_one]
  have key : ∀ i, i < 32 → bt (nI X &&& (-(nI X))) i = decide (i = s) := fun i hi => by
    rw [b_and, neg_nI (by omega), bt_nI _ hi, bt_nI _ hi, show 2 ^ 32 - X = 2 ^ 32 - (X - 1 + 1) by omega, Nat.testBit_two_pow_sub_succ (by omega), decide_eq_true hi, Bool.true_and, tX, tY]
    by_cases c : i < s + 1
    · rw [if_pos c, if_pos c]
      by_cases c2 : i = s
      · rw [decide_eq_true (show s = i by omega), decide_eq_false (show ¬ i < s by omega), decide_eq_true c2]; rfl
      · rw [decide_eq_false (show ¬ s = i by omega), decide_eq_false c2]; rfl
    · rw [if_neg c, if_neg c, decide_eq_false (show ¬ i = s by omega)]
      cases u.testBit (i - (s + 1)) <;> rfl
  have es : s = t := by
    rw [bt_nI _ ht, tX] at h1
    by_cases c : t < s + 1
    · rw [if_pos c, decide_eq_true_eq] at h1
      exact h1
    · have h3 := h2 s (by omega)
      rw [bt_nI _ (by omega), tX, if_pos (by omega), decide_eq_true rfl] at h3
      cases h3
  subst es
  refine b_ext (fun i hi => ?_)
  rw [key i hi, bit_bt ht hi]
theorem low_lt : ∀ t, t < 16 → ∀ u, u < t → (nI 1 <<< (nI u &&& 31)) < (nI 1 <<< (nI t &&& 31)) := by decide +kernel
section TREE
variable {k n : Nat} {lo hi le en A : Nat → Int32}
/-- the district of a square -/
def dtM (A : Nat → Int32) (k x : Nat) : Nat := dbM A k (lwF (gD A k x) 0 32)
theorem dl_u (h : TwR k n lo hi le en A) {x : Nat} (hx : x < n) : ∃ u, u ≤ x ∧ Lst (gD A k) u ∧ bt (gD A k u) x = true ∧ dtM A k x = pwM (gD A k) (-6) u := by
  have hn := h.1.2.2
  obtain ⟨l1, l2, l3⟩ := lwF_lst (rsM_Eq h (pgM A k k) (-6)) (show x < 16 by omega) 32 0 (Nat.zero_le x) (by omega) (fun t ht => absurd ht (Nat.not_lt_zero t))
  exact ⟨_, l3, l1, l2, rfl⟩
theorem dl_lt (h : TwR k n lo hi le en A) {x : Nat} (hx : x < n) : dtM A k x < dbM A k n := by
  have hn := h.1.2.2
  obtain ⟨u, h1, h2, -, e⟩ := dl_u h hx
  rw [e]
  exact pwM_lt (by omega) (by omega) h2
theorem dl_sq (h : TwR k n lo hi le en A) {x : Nat} (hx : x < n) : sqM A k n (dtM A k x) = gD A k x := by
  have hn := h.1.2.2
  obtain ⟨u, h1, h2, h3, e⟩ := dl_u h hx
  rw [e, sq_lst h (by omega) h2]
  exact ((rsM_Eq h (pgM A k k) (-6)) u (by omega)).2.2 x (by omega) h3 |>.symm
theorem sq_g (h : TwR k n lo hi le en A) {d : Nat} (hd : d < dbM A k n) : ∃ t, t < n ∧ Lst (gD A k) t ∧ pwM (gD A k) (-6) t = d ∧ sqM A k n d = gD A k t := sqM_gD h hd
theorem dl_iff (h : TwR k n lo hi le en A) {d x : Nat} (hd : d < dbM A k n) (hx : x < n) : bt (sqM A k n d) x = true ↔ dtM A k x = d := by
  have hn := h.1.2.2
  have hE := rsM_Eq h (pgM A k k) (-6)
  constructor
  · intro hb
    obtain ⟨t, t1, t2, t3, t4⟩ := sq_g h hd
    obtain ⟨u, h1, h2, h3, e⟩ := dl_u h hx
    rw [t4] at hb
    have e2 := lst_uni hE (show u < 16 by omega) (show t < 16 by omega) (show x < 16 by omega) h2 t2 h3 hb
    rw [e, e2, t3]
  · intro e
    rw [← e, dl_sq h hx]
    exact (hE x (by omega)).1
theorem sq_in (h : TwR k n lo hi le en A) {d : Nat} (hd : d < dbM A k n) : ∀ i, i < 32 → bt (sqM A k n d) i = true → i < n := by
  obtain ⟨t, t1, -, -, t4⟩ := sq_g h hd
  rw [t4]
  exact fun i hi hb => g_in h t1 hi hb
theorem dl_np (h : TwR k n lo hi le en A) {r : Nat} (hr : r < k) : dtM A k (mlo A r) = dtM A k (mhi A r) ↔ npB (mlo A) (mhi A) k r = true := by
  obtain ⟨ha, hb⟩ := h.ab r hr
  have hk := h.1.1
  constructor
  · intro e
    have h1 := (dl_iff h (dl_lt h hb) ha).mpr e
    rw [dl_sq h hb, gD_iff h (by have := h.1.2.2; omega) (by have := h.1.2.2; omega)] at h1
    cases hq : npB (mlo A) (mhi A) k r with
    | true => rfl
    | false =>
      have h2 : cnt (pgM A k k) (nI r) = true := by rw [pg_pt h hr, pt_np h hr, hq]; rfl
      exact absurd (CD_1 h hr h2 h1.sy) ((pg_iff h hr).mp h2)
  · intro e
    have h1 := gD_np h hr e
    have e2 : sqM A k n (dtM A k (mhi A r)) = gD A k (mhi A r) := dl_sq h hb
    refine (dl_iff h (dl_lt h hb) ha).mp ?_
    rw [e2, ← h1]
    exact ((rsM_Eq h (pgM A k k) (-6)) (mlo A r) (by have := h.1.2.2; omega)).1
/-- the lowest square of a district -/
theorem low_sq (h : TwR k n lo hi le en A) {d : Nat} (hd : d < dbM A k n) : ∃ t, t < n ∧ pwM (gD A k) (-6) t = d ∧ bt (sqM A k n d) t = true ∧ sqM A k n d &&& (-(sqM A k n d)) = nI 1 <<< (nI t &&& 31) := by
  have hn := h.1.2.2
  have hE := rsM_Eq h (pgM A k k) (-6)
  obtain ⟨t, t1, t2, t3, t4⟩ := sq_g h hd
  have hb : bt (sqM A k n d) t = true := by rw [t4]; exact (hE t (by omega)).1
  refine ⟨t, t1, t3, hb, low_one (by omega) hb (fun u hu => ?_)⟩
  rw [t4]
  refine Bool.eq_false_iff.mpr (fun q => ?_)
  have h1 := hE.sym (show t < 16 by omega) (show u < 16 by omega) q
  exact absurd (((lst_iff hE (show t < 16 by omega)).mp t2 u hu).symm.trans h1) (by decide)
theorem low_up (h : TwR k n lo hi le en A) {d : Nat} (hd : d + 1 < dbM A k n) : (sqM A k n d &&& (-(sqM A k n d))) < (sqM A k n (d + 1) &&& (-(sqM A k n (d + 1)))) := by
  have hn := h.1.2.2
  obtain ⟨t, t1, t2, -, t3⟩ := low_sq h (show d < dbM A k n by omega)
  obtain ⟨u, u1, u2, -, u3⟩ := low_sq h hd
  rw [t3, u3]
  refine low_lt u (by omega) t (Classical.byContradiction fun q => ?_)
  have h1 := pwM_mono (g := gD A k) (q := u) (t - u)
  rw [show u + (t - u) = t by omega] at h1
  omega
theorem one_cls (h : TwR k n lo hi le en A) {t : Nat} (ht : t < n) (hl : Lst (gD A k) t) : nL (bt (gD A k t)) (Con (npB (mlo A) (mhi A) k) (mlo A) (mhi A) k) n = 1 := by
  have hn := h.1.2.2
  have hE := rsM_Eq h (pgM A k k) (-6)
  unfold nL
  rw [bcnt_uni (u := t) (fun i hi => ?_), if_pos ht]
  have hli := lst_pD hE hn (fun q i hq hi => gD_con h hq hi) hi
  rw [Bool.and_eq_true, pD_iff]
  constructor
  · rintro ⟨h1, h2⟩
    exact lst_uni hE (by omega) (by omega) (show i < 16 by omega) (hli.mpr h2) hl (hE i (by omega)).1 h1
  · rintro rfl
    exact ⟨(hE i (by omega)).1, hli.mp hl⟩
/-- the independent rings of a district -/
def rnM (A : Nat → Int32) (k n d : Nat) : Nat := rwM A (sqM A k n d) k + 1 - popc (sqM A k n d)
theorem rn_eq (h : TwR k n lo hi le en A) {d : Nat} (hd : d < dbM A k n) : popc (sqM A k n d) ≤ rwM A (sqM A k n d) k + 1 ∧ (rnM A k n d = 0 → popc (sqM A k n d) = 1) := by
  have hn := h.1.2.2
  obtain ⟨t, t1, t2, t3, t4⟩ := sq_g h hd
  have hR := R_eq (a := mlo A) (b := mhi A) (k := k) (N := n) (Z := bt (gD A k t)) h.ab (fun r hr hp => by
    obtain ⟨ha, hb⟩ := h.ab r hr
    refine b_iff ?_
    rw [gD_con h t1 ha, gD_con h t1 hb]
    exact ⟨fun q => .s1 hr hp q, fun q => .s2 hr hp q⟩) (one_cls h t1 t2)
  have e1 : popc (sqM A k n d) = bcnt (bt (gD A k t)) n := by
    rw [← t4]
    exact popc_n (by omega) (sq_in h hd)
  have e2 : rwM A (sqM A k n d) k = bcnt (fun r => npB (mlo A) (mhi A) k r && bt (gD A k t) (mlo A r)) k := by
    rw [rw_b h, t4]
    refine bcnt_cong (fun r hr => b_iff ?_)
    obtain ⟨ha, hb⟩ := h.ab r hr
    rw [Bool.and_eq_true, Bool.and_eq_true]
    have i1 := dl_iff h hd ha
    have i2 := dl_iff h hd hb
    rw [t4] at i1 i2
    rw [i1, i2, ← dl_np h hr]
    exact ⟨fun q => ⟨q.1.trans q.2.symm, q.1⟩, fun q => ⟨q.2, q.1.symm.trans q.2⟩⟩
  rw [rnM, e1, e2]
  exact ⟨hR.1, fun q => hR.2 (by omega)⟩
theorem rn_int (h : TwR k n lo hi le en A) {d : Nat} (hd : d < dbM A k n) : nI (rwM A (sqM A k n d) k) - nI (popc (sqM A k n d)) + nI 1 = nI (rnM A k n d) := by
  obtain ⟨h1, -⟩ := rn_eq h hd
  rw [rnM, ← pk_sub h1, ← nI_add, Int32.sub_eq_add_neg, Int32.sub_eq_add_neg, Int32.add_assoc, Int32.add_comm (-(nI (popc (sqM A k n d)))), ← Int32.add_assoc]
theorem sq_dl (h : TwR k n lo hi le en A) {d x : Nat} (hd : d < dbM A k n) (hx : x < n) : bt (sqM A k n d) x = decide (dtM A k x = d) := b_iff (by rw [decide_eq_true_eq]; exact dl_iff h hd hx)
theorem sum_pop (h : TwR k n lo hi le en A) : sm (fun d => popc (sqM A k n d)) (dbM A k n) = n := by
  have hn := h.1.2.2
  have e : sm (fun d => popc (sqM A k n d)) (dbM A k n) = sm (fun d => sm (fun x => if dtM A k x = d then 1 else 0) n) (dbM A k n) := sm_cong (fun d hd => by
    rw [popc_n (by omega) (sq_in h hd), sm_b]
    exact sm_cong (fun x hx => by rw [sq_dl h hd hx]; simp only [decide_eq_true_eq]))
  rw [e, sm_all (w := fun _ => 1) (fun x hx => dl_lt h hx)]
  have e2 := bcnt_all n
  rw [sm_b] at e2
  exact e2
theorem sum_rw (h : TwR k n lo hi le en A) : sm (fun d => rwM A (sqM A k n d) k) (dbM A k n) = bcnt (npB (mlo A) (mhi A) k) k := by
  have e : sm (fun d => rwM A (sqM A k n d) k) (dbM A k n) = sm (fun d => sm (fun r => if dtM A k (mlo A r) = d then (if npB (mlo A) (mhi A) k r = true then 1 else 0) else 0) k) (dbM A k n) := sm_cong (fun d hd => by
    rw [rw_b h, sm_b]
    refine sm_cong (fun r hr => ?_)
    obtain ⟨ha, hb⟩ := h.ab r hr
    rw [sq_dl h hd ha, sq_dl h hd hb]
    have e3 := dl_np h hr
    by_cases c : dtM A k (mlo A r) = d
    · rw [decide_eq_true c, if_pos c, Bool.true_and]
      by_cases c2 : npB (mlo A) (mhi A) k r = true
      · rw [if_pos c2, if_pos (by rw [decide_eq_true_eq]; exact (e3.mpr c2).symm.trans c)]
      · rw [if_neg c2, if_neg (fun q => c2 (e3.mp (by rw [decide_eq_true_eq] at q; exact c.trans q.symm)))]
    · rw [decide_eq_false c, if_neg c, Bool.false_and]; rfl)
  rw [e, sm_all (w := fun r => if npB (mlo A) (mhi A) k r = true then 1 else 0) (fun r hr => dl_lt h (h.ab r hr).1), sm_b]
theorem np_pt (h : TwR k n lo hi le en A) : bcnt (npB (mlo A) (mhi A) k) k + popc (pgM A k k) = k := by
  rw [pg_popc h]
  have h1 : bcnt (fun _ => true) k = bcnt (npB (mlo A) (mhi A) k) k + bcnt (ptM A k) k := bcnt_add (fun r hr => by
    rw [pt_np h hr]
    cases npB (mlo A) (mhi A) k r <;> simp)
  rw [bcnt_all] at h1
  omega
/-- rings come to all other roads -/
theorem sum_rn (h : TwR k n lo hi le en A) : sm (rnM A k n) (dbM A k n) + n = k + piM A k n := by
  have h1 : sm (fun d => rnM A k n d + popc (sqM A k n d)) (dbM A k n) = sm (fun d => rwM A (sqM A k n d) k + 1) (dbM A k n) := sm_cong (fun d hd => by
    have := (rn_eq h hd).1
    show rnM A k n d + popc (sqM A k n d) = rwM A (sqM A k n d) k + 1
    rw [rnM]
    omega)
  rw [sm_add, sm_add, sum_pop h, sum_rw h] at h1
  have h2 : sm (fun _ => 1) (dbM A k n) = dbM A k n := by
    have e2 := bcnt_all (dbM A k n)
    rw [sm_b] at e2
    exact e2
  have h3 := B_town h
  have h4 := np_pt h
  have h5 : sm (fun d => rnM A k n d) (dbM A k n) = sm (rnM A k n) (dbM A k n) := rfl
  omega
theorem sum_out (h : TwR k n lo hi le en A) : sm (fun d => roM A (sqM A k n d) k) (dbM A k n) = 2 * popc (pgM A k k) := by
  have e : sm (fun d => roM A (sqM A k n d) k) (dbM A k n) = sm (fun d => sm (fun r => if dtM A k (mlo A r) = d then (if ptM A k r = true then 1 else 0) else 0) k + sm (fun r => if dtM A k (mhi A r) = d then (if ptM A k r = true then 1 else 0) else 0) k) (dbM A k n) := sm_cong (fun d hd => by
    rw [ro_b h _ k (Nat.le_refl k), sm_b, ← sm_add]
    refine sm_cong (fun r hr => ?_)
    obtain ⟨ha, hb⟩ := h.ab r hr
    rw [sq_dl h hd ha, sq_dl h hd hb, pt_np h hr]
    have e3 := dl_np h hr
    cases c : npB (mlo A) (mhi A) k r with
    | true =>
      have e4 := e3.mpr c
      rw [e4, Bool.xor_self]
      simp
    | false =>
      have e4 : ¬ dtM A k (mlo A r) = dtM A k (mhi A r) := fun q => by rw [e3.mp q] at c; cases c
      by_cases c1 : dtM A k (mlo A r) = d
      · have c2 : ¬ dtM A k (mhi A r) = d := fun q => e4 (c1.trans q.symm)
        rw [decide_eq_true c1, decide_eq_false c2, if_pos c1, if_neg c2]; rfl
      · by_cases c2 : dtM A k (mhi A r) = d
        · rw [decide_eq_false c1, decide_eq_true c2, if_neg c1, if_pos c2]; rfl
        · rw [decide_eq_false c1, decide_eq_false c2, if_neg c1, if_neg c2]; rfl)
  rw [e, sm_add, sm_all (w := fun r => if ptM A k r = true then 1 else 0) (fun r hr => dl_lt h (h.ab r hr).1), sm_all (w := fun r => if ptM A k r = true then 1 else 0) (fun r hr => dl_lt h (h.ab r hr).2), pg_popc h, sm_b]
  omega
/-- lengths as numbers -/
def lwN (A : Nat → Int32) (s : Int32) (k : Nat) : Nat := sm (fun r => if bt s (mlo A r) = true ∧ bt s (mhi A r) = true then mln A r else 0) k
theorem lw_N (h : TwR k n lo hi le en A) (s : Int32) : ∀ j, j ≤ k → lwM A s j = nI (lwN A s j)
  | 0, _ => rfl
  | j + 1, hj => by
    have ih := lw_N h s j (by omega)
    obtain ⟨ha, hb⟩ := h.ab16 j (by omega)
    have e : (enM A j &&& s) = enM A j ↔ (bt s (mlo A j) = true ∧ bt s (mhi A j) = true) := ed_sub (a := mlo A) (b := mhi A) (by omega) (by omega)
    have e2 : lwN A s (j + 1) = lwN A s j + (if bt s (mlo A j) = true ∧ bt s (mhi A j) = true then mln A j else 0) := rfl
    rw [e2, lwM]
    by_cases c : (enM A j &&& s) = enM A j
    · rw [if_pos c, if_pos (e.mp c), ih, (h.ln (show j < k by omega)).1, nI_add]
    · rw [if_neg c, if_neg (fun q => c (e.mpr q)), ih, nI_add]
theorem sm_le {f : Nat → Nat} {c : Nat} : ∀ {n : Nat}, (∀ i, i < n → f i ≤ c) → sm f n ≤ c * n
  | 0, _ => Nat.zero_le _
  | n + 1, h => by
    have h1 := sm_le (n := n) (fun i hi => h i (by omega))
    have h2 := h n (by omega)
    rw [sm, Nat.mul_add, Nat.mul_one]
    omega
theorem lwN_le (h : TwR k n lo hi le en A) (s : Int32) : lwN A s k ≤ 99 * 30 := by
  have hk := h.1.1
  have h1 : lwN A s k ≤ 99 * k := sm_le (fun r hr => by
    have := (h.ln hr).2.2
    split <;> omega)
  omega
theorem lwN_all (h : TwR k n lo hi le en A) : lwN A (nI 65535) k = sm (mln A) k := sm_cong (fun r hr => by
  obtain ⟨ha, hb⟩ := h.ab16 r hr
  have hbt : ∀ i, i < 16 → bt (nI 65535) i = true := by decide +kernel
  rw [if_pos ⟨hbt _ ha, hbt _ hb⟩])
/-- lengths within districts and of roads that part come to all -/
theorem sum_lw (h : TwR k n lo hi le en A) : sm (fun d => lwN A (sqM A k n d) k) (dbM A k n) + sm (fun r => if ptM A k r = true then mln A r else 0) k = sm (mln A) k := by
  have e : sm (fun d => lwN A (sqM A k n d) k) (dbM A k n) = sm (fun d => sm (fun r => if dtM A k (mlo A r) = d then (if npB (mlo A) (mhi A) k r = true then mln A r else 0) else 0) k) (dbM A k n) := sm_cong (fun d hd => by
    refine sm_cong (fun r hr => ?_)
    obtain ⟨ha, hb⟩ := h.ab r hr
    have i1 := dl_iff h hd ha
    have i2 := dl_iff h hd hb
    have e3 := dl_np h hr
    by_cases c : dtM A k (mlo A r) = d
    · rw [if_pos c]
      by_cases c2 : npB (mlo A) (mhi A) k r = true
      · rw [if_pos c2, if_pos ⟨i1.mpr c, i2.mpr ((e3.mpr c2).symm.trans c)⟩]
      · rw [if_neg c2, if_neg (fun q => c2 (e3.mp (c.trans (i2.mp q.2).symm)))]
    · rw [if_neg c, if_neg (fun q => c (i1.mp q.1))])
  rw [e, sm_all (w := fun r => if npB (mlo A) (mhi A) k r = true then mln A r else 0) (fun r hr => dl_lt h (h.ab r hr).1), ← sm_add]
  refine sm_cong (fun r hr => ?_)
  rw [pt_np h hr]
  cases npB (mlo A) (mhi A) k r <;> simp
/-- the squares of the districts so far -/
def unF (A : Nat → Int32) (k n : Nat) : Nat → Int32
  | 0 => nI 0
  | d + 1 => unF A k n d ||| sqM A k n d
theorem un_bt (h : TwR k n lo hi le en A) {x : Nat} (hx : x < 32) : ∀ d, d ≤ dbM A k n → (bt (unF A k n d) x = true ↔ x < n ∧ dtM A k x < d)
  | 0, _ => by
    rw [unF, nI_0, b_0]
    exact ⟨fun q => absurd q (by decide), fun q => absurd q.2 (Nat.not_lt_zero _)⟩
  | d + 1, hd => by
    rw [unF, b_or, Bool.or_eq_true, un_bt h hx d (by omega)]
    constructor
    · rintro (⟨q1, q2⟩ | q)
      · exact ⟨q1, by omega⟩
      · have h1 := sq_in h (show d < dbM A k n by omega) x hx q
        have := (dl_iff h (show d < dbM A k n by omega) h1).mp q
        exact ⟨h1, by omega⟩
    · rintro ⟨q1, q2⟩
      rcases (show dtM A k x < d ∨ dtM A k x = d by omega) with z | z
      · exact Or.inl ⟨q1, z⟩
      · exact Or.inr ((dl_iff h (show d < dbM A k n by omega) q1).mpr z)
theorem un_and (h : TwR k n lo hi le en A) {d : Nat} (hd : d < dbM A k n) : (sqM A k n d &&& unF A k n d) = 0 := by
  refine Classical.byContradiction fun q => ?_
  obtain ⟨i, hi, h1, h2⟩ := and_ne0.mp q
  have h3 := (un_bt h hi d (by omega)).mp h2
  have h4 := (dl_iff h hd h3.1).mp h1
  omega
theorem un_all (h : TwR k n lo hi le en A) : unF A k n (dbM A k n) = (nI 1 <<< (nI n &&& 31)) - nI 1 := by
  have hn := h.1.2.2
  refine b_ext (fun i hi => b_iff ?_)
  rw [un_bt h hi _ (Nat.le_refl _), mk_bt n (by omega) i hi, decide_eq_true_eq]
  exact ⟨fun q => q.1, fun q => ⟨q, dl_lt h q⟩⟩
theorem db_pos (h : TwR k n lo hi le en A) : 1 ≤ dbM A k n ∧ dbM A k n ≤ 16 := by
  have h1 := dl_lt h (show 0 < n by have := h.1.2.1; omega)
  have h2 := pwM_le (gD A k) (-6) n
  have h3 := h.1.2.2
  have h4 : dbM A k n = pwM (gD A k) (-6) n := rfl
  omega
theorem pi_pos (h : TwR k n lo hi le en A) : 1 ≤ piM A k n ∧ piM A k n ≤ 16 := by
  have hn := h.1.2
  have h2 := pwM_le (rsM A (nI 0) (-6) k) (-6) n
  have hl : Lst (rsM A (nI 0) (-6) k) 0 := (lst_iff (rsM_Eq h (nI 0) (-6)) (show 0 < 16 by omega)).mpr (fun t ht => absurd ht (Nat.not_lt_zero t))
  have h3 := pwM_lt (g := rsM A (nI 0) (-6) k) (t := 0) (q := n) (by omega) (by omega) hl
  have h4 : piM A k n = pwM (rsM A (nI 0) (-6) k) (-6) n := rfl
  omega
/-- the longest district -/
theorem ld_max {ln : Nat → Int32} (h0 : ¬ ln 0 ≤ -1) : ∀ d, (ldM ln (d + 1)).1 < d + 1 ∧ (ldM ln (d + 1)).2 = ln (ldM ln (d + 1)).1 ∧ ∀ i, i < d + 1 → ln i ≤ (ldM ln (d + 1)).2
  | 0 => by
    rw [ldM_t (show ¬ ln 0 ≤ (ldM ln 0).2 from h0)]
    exact ⟨by omega, rfl, fun i hi => by rw [show i = 0 by omega]; exact Int32.le_refl _⟩
  | d + 1 => by
    obtain ⟨h1, h2, h3⟩ := ld_max h0 d
    by_cases c : ln (d + 1) ≤ (ldM ln (d + 1)).2
    · rw [ldM_f c]
      refine ⟨by omega, h2, fun i hi => ?_⟩
      rcases (show i < d + 1 ∨ i = d + 1 by omega) with z | z
      · exact h3 i z
      · subst z; exact c
    · rw [ldM_t c]
      refine ⟨by show d + 1 < d + 1 + 1; omega, rfl, fun i hi => ?_⟩
      rcases (show i < d + 1 ∨ i = d + 1 by omega) with z | z
      · exact Int32.le_trans (h3 i z) (Int32.le_of_lt (Int32.not_le.mp c))
      · subst z; exact Int32.le_refl _
def lgM (A : Nat → Int32) (k n : Nat) : Nat := (ldM (fun d => lwM A (sqM A k n d) k) (dbM A k n)).1
theorem lg_max (h : TwR k n lo hi le en A) : lgM A k n < dbM A k n ∧ ∀ d, d < dbM A k n → lwN A (sqM A k n d) k ≤ lwN A (sqM A k n (lgM A k n)) k := by
  have hp := db_pos h
  obtain ⟨D, hD⟩ : ∃ D, dbM A k n = D + 1 := ⟨dbM A k n - 1, by omega⟩
  have h0 : ¬ (fun d => lwM A (sqM A k n d) k) 0 ≤ -1 := fun z => by
    have z : lwM A (sqM A k n 0) k ≤ -1 := z
    have h2 := lwN_le h (sqM A k n 0)
    rw [lw_N h _ k (Nat.le_refl k), Int32.le_iff_toInt_le, nI_toInt (by omega)] at z
    have h5 : (-1 : Int32).toInt = -1 := by decide
    omega
  obtain ⟨h1, h2, h3⟩ := ld_max (ln := fun d => lwM A (sqM A k n d) k) h0 D
  rw [lgM, hD]
  refine ⟨h1, fun d hd => ?_⟩
  have h4 := h3 d hd
  rw [h2] at h4
  have h4 : lwM A (sqM A k n d) k ≤ lwM A (sqM A k n (ldM (fun d => lwM A (sqM A k n d) k) (D + 1)).1) k := h4
  rw [lw_N h _ k (Nat.le_refl k), lw_N h _ k (Nat.le_refl k)] at h4
  have g1 := lwN_le h (sqM A k n d)
  have g2 := lwN_le h (sqM A k n (ldM (fun d => lwM A (sqM A k n d) k) (D + 1)).1)
  rw [nI_leI (by omega) (by omega)] at h4
  exact h4
/-- what a lost road cuts off -/
def ctM (A : Nat → Int32) (k x r : Nat) : Int32 := rsM A (nI 0) (-6) k x &&& (rsM A (nI 1 <<< (nI r &&& 31)) (-6) k x ^^^ (-1))
theorem ct_con (h : TwR k n lo hi le en A) {r x i : Nat} (hr : r < k) (hx : x < n) (hi : i < n) : bt (ctM A k x r) i = true ↔ Con (fun _ => true) (mlo A) (mhi A) k x i ∧ ¬ Con (fun j => !decide (j = r)) (mlo A) (mhi A) k x i := by
  have hn := h.1.2.2
  rw [ctM, b_and, bt_not (by omega), Bool.and_eq_true, g_con h hx hi, Bool.not_eq_true', Bool.eq_false_iff, ne_eq, g1_con h hr hx hi]
theorem ct_in (h : TwR k n lo hi le en A) {r x i : Nat} (hx : x < n) (hi : i < 32) (hb : bt (ctM A k x r) i = true) : i < n := by
  rw [ctM, b_and, Bool.and_eq_true] at hb
  exact g_in h hx hi hb.1
theorem ct_ab (h : TwR k n lo hi le en A) {r : Nat} (hr : r < k) (hp : npB (mlo A) (mhi A) k r = false) : ctM A k (mlo A r) r = rsM A (nI 1 <<< (nI r &&& 31)) (-6) k (mhi A r) ∧ ctM A k (mhi A r) r = rsM A (nI 1 <<< (nI r &&& 31)) (-6) k (mlo A r) := by
  obtain ⟨ha, hb⟩ := h.ab r hr
  have hn := h.1.2.2
  have no : ¬ Con (fun j => !decide (j = r)) (mlo A) (mhi A) k (mlo A r) (mhi A r) := fun q => by
    have e : npB (mlo A) (mhi A) k r = true := pD_t q
    rw [hp] at e; cases e
  have up : ∀ {x y : Nat}, Con (fun j => !decide (j = r)) (mlo A) (mhi A) k x y → Con (fun _ => true) (mlo A) (mhi A) k x y := fun q => q.cong (fun _ _ _ => rfl)
  have br : ∀ {x y : Nat}, Con (fun _ => true) (mlo A) (mhi A) k x y → _ := fun {x y} q => Con.br (r := r) (al' := fun j => !decide (j = r)) (fun j hj e _ => by show (!decide (j = r)) = true; rw [decide_eq_false e]; rfl) q
  have ed : Con (fun _ => true) (mlo A) (mhi A) k (mlo A r) (mhi A r) := Con.s1 hr rfl .rf
  constructor
  · refine b_ext (fun i hi => ?_)
    rcases (show i < n ∨ n ≤ i by omega) with c | c
    · refine b_iff ?_
      rw [ct_con h hr ha c, g1_con h hr hb c]
      constructor
      · rintro ⟨q1, q2⟩
        rcases br q1 with z | ⟨-, z⟩ | ⟨z, -⟩
        · exact absurd z q2
        · exact z
        · exact absurd z no
      · exact fun q => ⟨ed.tr (up q), fun w => no (w.tr q.sy)⟩
    · have h1 : bt (ctM A k (mlo A r) r) i = false := Bool.eq_false_iff.mpr (fun q => by have := ct_in h ha hi q; omega)
      have h2 : bt (rsM A (nI 1 <<< (nI r &&& 31)) (-6) k (mhi A r)) i = false := Bool.eq_false_iff.mpr (fun q => by have := g_in h hb hi q; omega)
      rw [h1, h2]
  · refine b_ext (fun i hi => ?_)
    rcases (show i < n ∨ n ≤ i by omega) with c | c
    · refine b_iff ?_
      rw [ct_con h hr hb c, g1_con h hr ha c]
      constructor
      · rintro ⟨q1, q2⟩
        rcases br q1 with z | ⟨z, -⟩ | ⟨-, z⟩
        · exact absurd z q2
        · exact absurd z.sy no
        · exact z
      · exact fun q => ⟨ed.sy.tr (up q), fun w => no (q.tr w.sy)⟩
    · have h1 : bt (ctM A k (mhi A r) r) i = false := Bool.eq_false_iff.mpr (fun q => by have := ct_in h hb hi q; omega)
      have h2 : bt (rsM A (nI 1 <<< (nI r &&& 31)) (-6) k (mlo A r)) i = false := Bool.eq_false_iff.mpr (fun q => by have := g_in h ha hi q; omega)
      rw [h1, h2]
theorem g1_self (h : TwR k n lo hi le en A) {w z : Int32} {x : Nat} (hx : x < n) : bt (rsM A w z k x) x = true := by
  have hn := h.1.2.2
  have := rsM_self (A := A) (w := w) (z := z) (k := k) (show x < 16 by omega)
  rw [cnt_bt (by omega)] at this
  exact this
theorem pl_pos (h : TwR k n lo hi le en A) {r : Nat} (hr : r < k) : (0 < plM A k r ↔ ptM A k r = true) ∧ plM A k r ≤ 1024 := by
  obtain ⟨ha, hb⟩ := h.ab r hr
  have hn := h.1.2.2
  have p1 : 0 < popc (rsM A (nI 1 <<< (nI r &&& 31)) (-6) k (mlo A r)) := bcnt_some (u := mlo A r) (by omega) (g1_self h ha)
  have p2 : 0 < popc (rsM A (nI 1 <<< (nI r &&& 31)) (-6) k (mhi A r)) := bcnt_some (u := mhi A r) (by omega) (g1_self h hb)
  have q1 := popc_32 (rsM A (nI 1 <<< (nI r &&& 31)) (-6) k (mlo A r))
  have q2 := popc_32 (rsM A (nI 1 <<< (nI r &&& 31)) (-6) k (mhi A r))
  have h3 := Nat.mul_le_mul q1 q2
  have h4 := Nat.mul_pos p1 p2
  rw [plM]
  cases ptM A k r with
  | true => rw [if_pos rfl]; exact ⟨⟨fun _ => rfl, fun _ => h4⟩, h3⟩
  | false => rw [if_neg (by decide)]; exact ⟨⟨fun q => absurd q (Nat.lt_irrefl 0), fun q => absurd q (by decide)⟩, Nat.zero_le _⟩
/-- a way is no longer than the road -/
theorem fa_road (h : TwR k n lo hi le en A) {r : Nat} (hr : r < k) (F : Nat → Int32) : ∃ t, t ≤ mln A r ∧ farM A (nI 0) true F k (mlo A r) (mhi A r) = nI t := by
  obtain ⟨ha, hb⟩ := h.ab r hr
  have ed : Con (fun _ => true) (mlo A) (mhi A) k (mlo A r) (mhi A r) := Con.s1 hr rfl .rf
  obtain ⟨t, t1, -, t3⟩ := len_tr h ha hb ed F
  refine ⟨t, ?_, t3⟩
  have := t1.2 _ (Wk.s1 (w := mln A) hr rfl .rf)
  omega
end TREE
