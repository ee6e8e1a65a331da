/-! A TOWN'S ANSWERS in the words of the graph (pure) -/
theorem bcnt_all (n : Nat) : bcnt (fun _ => true) n = n := by
  induction n with
  | zero => rfl
  | succ n ih =>
    have e : bcnt (fun _ => true) (n + 1) = bcnt (fun _ => true) n + (if true = true then 1 else 0) := rfl
    rw [e, ih, if_pos rfl]
/-- the least squares of a sweep -/
theorem lst_pD {g : Nat → Int32} {R : Nat → Nat → Prop} {n : Nat} (hg : Eq16 g) (hn : n ≤ 16) (hR : ∀ q i, q < n → i < n → (bt (g q) i = true ↔ R q i)) {t : Nat} (ht : t < n) : Lst g t ↔ Lsr R t := by
  rw [lst_iff hg (by omega)]
  constructor
  · intro h u hu hr
    exact absurd ((h u hu).symm.trans ((hR u t (by omega) ht).mpr hr)) (by decide)
  · intro h u hu
    exact Bool.eq_false_iff.mpr (fun q => h u hu ((hR u t (by omega) ht).mp q))
theorem pw_nL {g : Nat → Int32} {R : Nat → Nat → Prop} {n : Nat} (hg : Eq16 g) (hn : n ≤ 16) (hR : ∀ q i, q < n → i < n → (bt (g q) i = true ↔ R q i)) : pwM g (-6) n = nL (fun _ => true) R n := by
  rw [pwM_b]
  refine bcnt_cong (fun t ht => ?_)
  rw [decide_eq_false (nI_m6 t (by omega))]
  refine b_iff ?_
  rw [Bool.and_eq_true, Bool.and_eq_true, decide_eq_true_eq, pD_iff]
  have := lst_pD hg hn hR ht
  exact ⟨fun q => ⟨rfl, this.mp q.2⟩, fun q => ⟨rfl, this.mpr q.2⟩⟩
section TWG
variable {k n : Nat} {lo hi le en A : Nat → Int32}
theorem al_all (h : TwR k n lo hi le en A) {x y : Nat} : CG A k x y ↔ Con (fun _ => true) (mlo A) (mhi A) k x y := ⟨fun q => q.cong (fun _ _ _ => rfl), fun q => q.cong (fun j hj _ => al0 h hj)⟩
theorem al_one (h : TwR k n lo hi le en A) {r x y : Nat} (hr : r < k) : C1 A k r x y ↔ Con (fun j => !decide (j = r)) (mlo A) (mhi A) k x y := ⟨fun q => q.cong (fun j hj ha => by rw [al1 h hr hj] at ha; exact ha), fun q => q.cong (fun j hj ha => by rw [al1 h hr hj]; exact ha)⟩
theorem al_sq (h : TwR k n lo hi le en A) {x u v : Nat} (hx : x < 16) : CX A k x u v ↔ Con (fun j => !decide (mlo A j = x) && !decide (mhi A j = x)) (mlo A) (mhi A) k u v := by
  have e : ∀ j, j < k → (alM A (nI 0) (nI x) j = true ↔ (!decide (mlo A j = x) && !decide (mhi A j = x)) = true) := fun j hj => by
    rw [alx h hx hj]
    simp
  exact ⟨fun q => q.cong (fun j hj ha => (e j hj).mp ha), fun q => q.cong (fun j hj ha => (e j hj).mpr ha)⟩
theorem pt_np (h : TwR k n lo hi le en A) {r : Nat} (hr : r < k) : ptM A k r = !npB (mlo A) (mhi A) k r := by
  obtain ⟨hx, hy⟩ := h.ab16 r hr
  rw [ptM, cnt_bt (by omega)]
  congr 1
  refine b_iff ?_
  rw [g1_iff h hx (by omega), al_one h hr]
  exact pD_iff.symm
theorem pg_pt (h : TwR k n lo hi le en A) {r : Nat} (hr : r < k) : cnt (pgM A k k) (nI r) = ptM A k r := pg_bt (by have := h.1.1; omega) hr
theorem al_np (h : TwR k n lo hi le en A) {x y : Nat} : CD A k x y ↔ Con (npB (mlo A) (mhi A) k) (mlo A) (mhi A) k x y := by
  have e : ∀ j, j < k → alM A (pgM A k k) (-6) j = npB (mlo A) (mhi A) k j := fun j hj => by
    obtain ⟨h1, h2⟩ := h.ab16 j hj
    rw [alM_6 (by omega) (by omega), pg_pt h hj, pt_np h hj, Bool.not_not]
  exact ⟨fun q => q.cong (fun j hj ha => by rw [← e j hj]; exact ha), fun q => q.cong (fun j hj ha => by rw [e j hj]; exact ha)⟩
theorem g_con (h : TwR k n lo hi le en A) {x y : Nat} (hx : x < n) (hy : y < n) : bt (rsM A (nI 0) (-6) k x) y = true ↔ Con (fun _ => true) (mlo A) (mhi A) k x y := by
  have := h.1.2.2
  rw [g_iff h (by omega) (by omega), al_all h]
theorem g1_con (h : TwR k n lo hi le en A) {r x y : Nat} (hr : r < k) (hx : x < n) (hy : y < n) : bt (rsM A (nI 1 <<< (nI r &&& 31)) (-6) k x) y = true ↔ Con (fun j => !decide (j = r)) (mlo A) (mhi A) k x y := by
  have := h.1.2.2
  rw [g1_iff h (by omega) (by omega), al_one h hr]
theorem gD_con (h : TwR k n lo hi le en A) {x y : Nat} (hx : x < n) (hy : y < n) : bt (gD A k x) y = true ↔ Con (npB (mlo A) (mhi A) k) (mlo A) (mhi A) k x y := by
  have := h.1.2.2
  rw [gD_iff h (by omega) (by omega), al_np h]
theorem gx_con (h : TwR k n lo hi le en A) {z x y : Nat} (hz : z < n) (hx : x < n) (hy : y < n) : bt (rsM A (nI 0) (nI z) k x) y = true ↔ Con (fun j => !decide (mlo A j = z) && !decide (mhi A j = z)) (mlo A) (mhi A) k x y := by
  have := h.1.2.2
  rw [gx_iff h (by omega) (by omega), al_sq h (by omega)]
/-- what is reached lies within the squares -/
theorem g_in (h : TwR k n lo hi le en A) {w z : Int32} {x i : Nat} (hx : x < n) (hi : i < 32) (hb : bt (rsM A w z k x) i = true) : i < n := by
  have hn := h.1.2.2
  have h1 := (rG_iff (al := alM A w z) (a := mlo A) (b := mhi A) h.ab16 (show x < 16 by omega) hi).mp hb
  exact h1.lt hx h.ab
theorem pi_nL (h : TwR k n lo hi le en A) : piM A k n = nL (fun _ => true) (Con (fun _ => true) (mlo A) (mhi A) k) n :=
  pw_nL (rsM_Eq h (nI 0) (-6)) h.1.2.2 (fun q i hq hi => g_con h hq hi)
theorem db_nL (h : TwR k n lo hi le en A) : dbM A k n = nL (fun _ => true) (Con (npB (mlo A) (mhi A) k) (mlo A) (mhi A) k) n :=
  pw_nL (rsM_Eq h (pgM A k k) (-6)) h.1.2.2 (fun q i hq hi => gD_con h hq hi)
theorem pg_popc (h : TwR k n lo hi le en A) : popc (pgM A k k) = bcnt (ptM A k) k := orS_popc (F := pgM A k) (p := ptM A k) rfl (fun _ => rfl) (by have := h.1.1; omega)
/-- districts are as many as pieces and roads that part -/
theorem B_town (h : TwR k n lo hi le en A) : dbM A k n = piM A k n + popc (pgM A k k) := by
  rw [db_nL h, pi_nL h, pg_popc h, B_eq (a := mlo A) (b := mhi A) h.ab]
  congr 1
  exact bcnt_cong (fun r hr => (pt_np h hr).symm)
/-- the roads out of a set: those with one end in it -/
theorem ro_b (h : TwR k n lo hi le en A) (s : Int32) : ∀ j, j ≤ k → roM A s j = bcnt (fun r => bt s (mlo A r) ^^ bt s (mhi A r)) j
  | 0, _ => rfl
  | j + 1, hj => by
    have ih := ro_b h s j (by omega)
    obtain ⟨ha, hb⟩ := h.ab16 j (by omega)
    obtain ⟨-, -, ⟨hlt, -⟩, -⟩ := h.2.2 j (by omega)
    have h1 : ¬ (enM A j &&& s) = 0 ↔ (bt s (mlo A j) = true ∨ bt s (mhi A j) = true) := by
      rw [and_ne0]
      constructor
      · rintro ⟨i, hi, g1, g2⟩
        have g1 : bt (ed (mlo A) (mhi A) j) i = true := g1
        rw [bt_ed (by omega) (by omega) hi, Bool.or_eq_true, decide_eq_true_eq, decide_eq_true_eq] at g1
        rcases g1 with rfl | rfl
        · exact Or.inl g2
        · exact Or.inr g2
      · rintro (q | q)
        · refine ⟨mlo A j, by omega, ?_, q⟩
          show bt (ed (mlo A) (mhi A) j) _ = true
          rw [bt_ed (by omega) (by omega) (by omega), decide_eq_true rfl]; rfl
        · refine ⟨mhi A j, by omega, ?_, q⟩
          show bt (ed (mlo A) (mhi A) j) _ = true
          rw [bt_ed (by omega) (by omega) (by omega), decide_eq_true (rfl : mhi A j = mhi A j), Bool.or_true]
    have h2 : (enM A j &&& s) = enM A j ↔ (bt s (mlo A j) = true ∧ bt s (mhi A j) = true) := ed_sub (a := mlo A) (b := mhi A) (by omega) (by omega)
    have e : bcnt (fun r => bt s (mlo A r) ^^ bt s (mhi A r)) (j + 1) = bcnt (fun r => bt s (mlo A r) ^^ bt s (mhi A r)) j + (if (bt s (mlo A j) ^^ bt s (mhi A j)) = true then 1 else 0) := rfl
    rw [e, ← ih, roM]
    by_cases c : ¬ (enM A j &&& s) = 0 ∧ ¬ (enM A j &&& s) = enM A j
    · rw [if_pos c, if_pos ?_]
      rw [h1, h2] at c
      cases c1 : bt s (mlo A j) <;> cases c2 : bt s (mhi A j) <;> simp_all
    · have c3 : ¬ (bt s (mlo A j) ^^ bt s (mhi A j)) = true := by
        rw [h1, h2] at c
        cases c1 : bt s (mlo A j) <;> cases c2 : bt s (mhi A j) <;> simp_all
      rw [if_neg c, if_neg c3, Nat.add_zero]
/-- the roads within a set -/
theorem rw_b (h : TwR k n lo hi le en A) (s : Int32) : rwM A s k = bcnt (fun r => bt s (mlo A r) && bt s (mhi A r)) k := by
  rw [rwM_b]
  refine bcnt_cong (fun r hr => b_iff ?_)
  obtain ⟨ha, hb⟩ := h.ab16 r hr
  rw [decide_eq_true_eq, Bool.and_eq_true]
  exact ed_sub (a := mlo A) (b := mhi A) (by omega) (by omega)
theorem popc_n {s : Int32} {n : Nat} (hn : n ≤ 32) (hs : ∀ i, i < 32 → bt s i = true → i < n) : popc s = bcnt (bt s) n := by
  have e := bcnt_split (bt s) n (32 - n)
  rw [show n + (32 - n) = 32 by omega] at e
  have e1 : bcnt (fun i => bt s (n + i)) (32 - n) = 0 := bcnt_none (fun i hi => Bool.eq_false_iff.mpr (fun q => by
    have := hs (n + i) (by omega) q
    omega))
  show bcnt (bt s) 32 = _
  omega
end TWG
/-- the town with its squares numbered the other way round, under the same roads -/
def Mi (n k : Nat) (A A' : Nat → Int32) : Prop := ∀ r, r < k → mlo A' r = n - 1 - mhi A r ∧ mhi A' r = n - 1 - mlo A r ∧ A' (62 + r) = A (62 + r)
/-- a set of squares, numbered the other way round -/
def MS (n : Nat) (s s' : Int32) : Prop := (∀ i, i < n → bt s' (n - 1 - i) = bt s i) ∧ (∀ i, i < 32 → bt s i = true → i < n) ∧ ∀ i, i < 32 → bt s' i = true → i < n
theorem MS.popc {n : Nat} {s s' : Int32} (hn : n ≤ 32) (h : MS n s s') : popc s' = popc s := by
  rw [popc_n hn h.2.1, popc_n hn h.2.2]
  exact bcnt_revc h.1
section MIT
variable {k n : Nat} {lo hi le en A lo' hi' le' en' A' : Nat → Int32}
theorem Mi.R (h : TwR k n lo hi le en A) (m : Mi n k A A') : MiR n k (mlo A) (mhi A) (mlo A') (mhi A') := fun r hr => ⟨h.ab r hr, (m r hr).1, (m r hr).2.1⟩
theorem np_mi (h : TwR k n lo hi le en A) (m : Mi n k A A') {r : Nat} (hr : r < k) : npB (mlo A') (mhi A') k r = npB (mlo A) (mhi A) k r := npB_mir (m.R h) hr
theorem pt_mi (h : TwR k n lo hi le en A) (h' : TwR k n lo' hi' le' en' A') (m : Mi n k A A') {r : Nat} (hr : r < k) : ptM A' k r = ptM A k r := by
  rw [pt_np h hr, pt_np h' hr, np_mi h m hr]
theorem pg_mi (h : TwR k n lo hi le en A) (h' : TwR k n lo' hi' le' en' A') (m : Mi n k A A') : popc (pgM A' k k) = popc (pgM A k k) := by
  rw [pg_popc h, pg_popc h']
  exact bcnt_cong (fun r hr => pt_mi h h' m hr)
theorem pi_mi (h : TwR k n lo hi le en A) (h' : TwR k n lo' hi' le' en' A') (m : Mi n k A A') : piM A' k n = piM A k n := by
  rw [pi_nL h, pi_nL h']
  exact nL_mir (m.R h) (fun _ _ _ => rfl) (fun _ _ => rfl)
theorem db_mi (h : TwR k n lo hi le en A) (h' : TwR k n lo' hi' le' en' A') (m : Mi n k A A') : dbM A' k n = dbM A k n := by
  rw [B_town h, B_town h', pi_mi h h' m, pg_mi h h' m]
theorem MS.of {n : Nat} {s s' : Int32} {R R' : Nat → Prop} (h1 : ∀ i, i < n → (bt s i = true ↔ R i)) (h2 : ∀ i, i < n → (bt s' i = true ↔ R' i)) (h3 : ∀ i, i < n → (R' (n - 1 - i) ↔ R i)) (h4 : ∀ i, i < 32 → bt s i = true → i < n) (h5 : ∀ i, i < 32 → bt s' i = true → i < n) : MS n s s' := by
  refine ⟨fun i hi => b_iff ?_, h4, h5⟩
  rw [h2 _ (by omega), h3 i hi, h1 i hi]
theorem g_mi (h : TwR k n lo hi le en A) (h' : TwR k n lo' hi' le' en' A') (m : Mi n k A A') {x : Nat} (hx : x < n) : MS n (rsM A (nI 0) (-6) k x) (rsM A' (nI 0) (-6) k (n - 1 - x)) :=
  MS.of (fun i hi => g_con h hx hi) (fun i hi => g_con h' (by omega) hi) (fun i hi => Con.mir_iff (m.R h) hx hi) (fun i hi hb => g_in h hx hi hb) (fun i hi hb => g_in h' (by omega) hi hb)
theorem g1_mi (h : TwR k n lo hi le en A) (h' : TwR k n lo' hi' le' en' A') (m : Mi n k A A') {r x : Nat} (hr : r < k) (hx : x < n) : MS n (rsM A (nI 1 <<< (nI r &&& 31)) (-6) k x) (rsM A' (nI 1 <<< (nI r &&& 31)) (-6) k (n - 1 - x)) :=
  MS.of (fun i hi => g1_con h hr hx hi) (fun i hi => g1_con h' hr (by omega) hi) (fun i hi => Con.mir_iff (m.R h) hx hi) (fun i hi hb => g_in h hx hi hb) (fun i hi hb => g_in h' (by omega) hi hb)
theorem gD_mi (h : TwR k n lo hi le en A) (h' : TwR k n lo' hi' le' en' A') (m : Mi n k A A') {x : Nat} (hx : x < n) : MS n (gD A k x) (gD A' k (n - 1 - x)) :=
  MS.of (fun i hi => gD_con h hx hi) (fun i hi => gD_con h' (by omega) hi) (fun i hi => by
    rw [← Con.mir_iff (al := npB (mlo A) (mhi A) k) (m.R h) hx hi]
    exact ⟨fun q => q.cong (fun r hr ha => by rw [← np_mi h m hr]; exact ha), fun q => q.cong (fun r hr ha => by rw [np_mi h m hr]; exact ha)⟩) (fun i hi hb => g_in h hx hi hb) (fun i hi hb => g_in h' (by omega) hi hb)
theorem gx_mi (h : TwR k n lo hi le en A) (h' : TwR k n lo' hi' le' en' A') (m : Mi n k A A') {z x : Nat} (hz : z < n) (hx : x < n) : MS n (rsM A (nI 0) (nI z) k x) (rsM A' (nI 0) (nI (n - 1 - z)) k (n - 1 - x)) :=
  MS.of (fun i hi => gx_con h hz hx hi) (fun i hi => gx_con h' (by omega) (by omega) hi) (fun i hi => by
    rw [← Con.mir_iff (al := fun j => !decide (mlo A j = z) && !decide (mhi A j = z)) (m.R h) hx hi]
    have e : ∀ r, r < k → (!decide (mlo A' r = n - 1 - z) && !decide (mhi A' r = n - 1 - z)) = (!decide (mlo A r = z) && !decide (mhi A r = z)) := fun r hr => by
      obtain ⟨h1, h2, -⟩ := m r hr
      obtain ⟨h3, h4⟩ := h.ab r hr
      rw [h1, h2, decide_eq_decide.mpr (show n - 1 - mhi A r = n - 1 - z ↔ mhi A r = z by omega), decide_eq_decide.mpr (show n - 1 - mlo A r = n - 1 - z ↔ mlo A r = z by omega), Bool.and_comm]
    exact ⟨fun q => q.cong (fun r hr ha => by rw [← e r hr]; exact ha), fun q => q.cong (fun r hr ha => by rw [e r hr]; exact ha)⟩) (fun i hi hb => g_in h hx hi hb) (fun i hi hb => g_in h' (by omega) hi hb)
theorem ro_mi (h : TwR k n lo hi le en A) (h' : TwR k n lo' hi' le' en' A') (m : Mi n k A A') {s s' : Int32} (hs : MS n s s') : roM A' s' k = roM A s k := by
  rw [ro_b h s k (Nat.le_refl k), ro_b h' s' k (Nat.le_refl k)]
  refine bcnt_cong (fun r hr => ?_)
  obtain ⟨h1, h2, -⟩ := m r hr
  obtain ⟨h3, h4⟩ := h.ab r hr
  show (bt s' (mlo A' r) ^^ bt s' (mhi A' r)) = (bt s (mlo A r) ^^ bt s (mhi A r))
  rw [h1, h2, hs.1 _ h4, hs.1 _ h3, Bool.xor_comm]
theorem pl_mi (h : TwR k n lo hi le en A) (h' : TwR k n lo' hi' le' en' A') (m : Mi n k A A') {r : Nat} (hr : r < k) : plM A' k r = plM A k r := by
  have hn := h.1.2.2
  obtain ⟨h1, h2, -⟩ := m r hr
  obtain ⟨h3, h4⟩ := h.ab r hr
  rw [plM, plM, pt_mi h h' m hr, h1, h2, (g1_mi h h' m hr h4).popc (by omega), (g1_mi h h' m hr h3).popc (by omega), Nat.mul_comm]
/-- one square, on both sides -/
theorem one_mi (hn : n ≤ 16) {x : Nat} (hx : x < n) : MS n (nI 1 <<< (nI x &&& 31)) (nI 1 <<< (nI (n - 1 - x) &&& 31)) := by
  refine ⟨fun i hi => ?_, fun i hi hb => ?_, fun i hi hb => ?_⟩
  · rw [bit_bt (by omega) (by omega), bit_bt (by omega) (by omega)]
    exact decide_eq_decide.mpr (by omega)
  · rw [bit_bt (by omega) hi, decide_eq_true_eq] at hb; omega
  · rw [bit_bt (by omega) hi, decide_eq_true_eq] at hb; omega
theorem MS.eq {s s' t t' : Int32} (hn : n ≤ 32) (h : MS n s s') (g : MS n t t') : s' = t' ↔ s = t := by
  constructor
  · intro e
    refine b_ext (fun i hi => ?_)
    rcases (show i < n ∨ n ≤ i by omega) with c | c
    · rw [← h.1 i c, ← g.1 i c, e]
    · have h1 : bt s i = false := Bool.eq_false_iff.mpr (fun q => by have := h.2.1 i hi q; omega)
      have h2 : bt t i = false := Bool.eq_false_iff.mpr (fun q => by have := g.2.1 i hi q; omega)
      rw [h1, h2]
  · intro e
    refine b_ext (fun i hi => ?_)
    rcases (show i < n ∨ n ≤ i by omega) with c | c
    · have e1 := h.1 (n - 1 - i) (by omega)
      have e2 := g.1 (n - 1 - i) (by omega)
      rw [show n - 1 - (n - 1 - i) = i by omega] at e1 e2
      rw [e1, e2, e]
    · have h1 : bt s' i = false := Bool.eq_false_iff.mpr (fun q => by have := h.2.2 i hi q; omega)
      have h2 : bt t' i = false := Bool.eq_false_iff.mpr (fun q => by have := g.2.2 i hi q; omega)
      rw [h1, h2]
/-- how many pieces more without a square -/
theorem mp_mi (h : TwR k n lo hi le en A) (h' : TwR k n lo' hi' le' en' A') (m : Mi n k A A') {x : Nat} (hx : x < n) : mpM A' k n (n - 1 - x) = mpM A k n x := by
  have hn := h.1.2.2
  have e : ∀ (B : Nat → Int32) {lo hi le en : Nat → Int32} (hB : TwR k n lo hi le en B) (z : Nat) (hz : z < n), pwM (rsM B (nI 0) (nI z) k) (nI z) n = nL (fun t => !decide (t = z)) (Con (fun j => !decide (mlo B j = z) && !decide (mhi B j = z)) (mlo B) (mhi B) k) n := fun B _ _ _ _ hB z hz => by
    rw [pwM_b]
    refine bcnt_cong (fun t ht => ?_)
    rw [decide_eq_decide.mpr (nI_ij (x := t) (y := z) (by omega) (by omega))]
    have hl := lst_pD (rsM_Eq hB (nI 0) (nI z)) hn (fun q i hq hi => gx_con hB hz hq hi) ht
    have e2 : decide ((rsM B (nI 0) (nI z) k t &&& ((nI 1 <<< (nI t &&& 31)) - nI 1)) = 0) = pD (Lsr (Con (fun j => !decide (mlo B j = z) && !decide (mhi B j = z)) (mlo B) (mhi B) k) t) := b_iff (by rw [decide_eq_true_eq, pD_iff]; exact hl)
    rw [e2]
  rw [mpM, mpM, e A h x hx, e A' h' (n - 1 - x) (by omega), pi_mi h h' m]
  have e3 : nL (fun t => !decide (t = n - 1 - x)) (Con (fun j => !decide (mlo A' j = n - 1 - x) && !decide (mhi A' j = n - 1 - x)) (mlo A') (mhi A') k) n = nL (fun t => !decide (t = x)) (Con (fun j => !decide (mlo A j = x) && !decide (mhi A j = x)) (mlo A) (mhi A) k) n := by
    have e4 : ∀ r, r < k → (!decide (mlo A' r = n - 1 - x) && !decide (mhi A' r = n - 1 - x)) = (!decide (mlo A r = x) && !decide (mhi A r = x)) := fun r hr => by
      obtain ⟨h1, h2, -⟩ := m r hr
      obtain ⟨h3, h4⟩ := h.ab r hr
      rw [h1, h2, decide_eq_decide.mpr (show n - 1 - mhi A r = n - 1 - x ↔ mhi A r = x by omega), decide_eq_decide.mpr (show n - 1 - mlo A r = n - 1 - x ↔ mlo A r = x by omega), Bool.and_comm]
    rw [nL_cong (R := Con (fun j => !decide (mlo A' j = n - 1 - x) && !decide (mhi A' j = n - 1 - x)) (mlo A') (mhi A') k) (R' := Con (fun j => !decide (mlo A j = x) && !decide (mhi A j = x)) (mlo A') (mhi A') k) (fun u v _ _ => ⟨fun q => q.cong (fun r hr ha => by rw [← e4 r hr]; exact ha), fun q => q.cong (fun r hr ha => by rw [e4 r hr]; exact ha)⟩)]
    refine nL_mir (m.R h) (fun r hr ha => ?_) (fun t ht => ?_)
    · have ha : (!decide (mlo A r = x) && !decide (mhi A r = x)) = true := ha
      rw [Bool.and_eq_true] at ha
      exact ha.1.trans ha.2.symm
    · show (!decide (n - 1 - t = n - 1 - x)) = !decide (t = x)
      rw [decide_eq_decide.mpr (show n - 1 - t = n - 1 - x ↔ t = x by omega)]
  rw [e3]
  have e5 := MS.eq (by omega) (g_mi h h' m hx) (one_mi hn hx)
  by_cases c : rsM A (nI 0) (-6) k x = nI 1 <<< (nI x &&& 31)
  · rw [if_pos c, if_pos (e5.mpr c)]
  · rw [if_neg c, if_neg (fun q => c (e5.mp q))]
end MIT
