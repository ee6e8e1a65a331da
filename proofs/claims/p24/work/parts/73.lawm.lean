/-! THE LAW: answers value by value, and what it compares (pure; laid by a program) -/
theorem cnA_0 {T : Nat → Int32} {k n hc : Nat} : cnA T k n hc 0 = nI n := by
  rw [cnA, swl_0 rfl]
theorem cnA_1 {T : Nat → Int32} {k n hc : Nat} : cnA T k n hc 1 = nI k := by
  rw [cnA, swl_s (by decide), swl_0 rfl]
theorem cnA_2 {T : Nat → Int32} {k n hc : Nat} : cnA T k n hc 2 = nI (piM T k n) := by
  rw [cnA, swl_s (by decide), swl_s (by decide), swl_0 rfl]
theorem cnA_3 {T : Nat → Int32} {k n hc : Nat} : cnA T k n hc 3 = nI (popc (pgM T k k)) := by
  rw [cnA, swl_s (by decide), swl_s (by decide), swl_s (by decide), swl_0 rfl]
theorem cnA_4 {T : Nat → Int32} {k n hc : Nat} : cnA T k n hc 4 = nI (pSq (mpM T k n) n) := by
  rw [cnA, swl_s (by decide), swl_s (by decide), swl_s (by decide), swl_s (by decide), swl_0 rfl]
theorem cnA_5 {T : Nat → Int32} {k n hc : Nat} : cnA T k n hc 5 = nI (dbM T k n) := by
  rw [cnA, swl_s (by decide), swl_s (by decide), swl_s (by decide), swl_s (by decide), swl_s (by decide), swl_0 rfl]
theorem cnA_6 {T : Nat → Int32} {k n hc : Nat} : cnA T k n hc 6 = nI (lgM T k n) := by
  rw [cnA, swl_s (by decide), swl_s (by decide), swl_s (by decide), swl_s (by decide), swl_s (by decide), swl_s (by decide), swl_0 rfl]
theorem cnA_7 {T : Nat → Int32} {k n hc : Nat} : cnA T k n hc 7 = lwM T (nI 65535) k := by
  rw [cnA, swl_s (by decide), swl_s (by decide), swl_s (by decide), swl_s (by decide), swl_s (by decide), swl_s (by decide), swl_s (by decide), swl_0 rfl]
theorem cnA_9 {T : Nat → Int32} {k n hc : Nat} : cnA T k n hc 9 = nI hc := by
  rw [cnA, swl_s (by decide), swl_s (by decide), swl_s (by decide), swl_s (by decide), swl_s (by decide), swl_s (by decide), swl_s (by decide), swl_s (by decide), swl_s (by decide), swl_0 rfl]
theorem rdA_0 {T : Nat → Int32} {k r : Nat} : rdA T k r 0 = nI (mlo T r) := by
  rw [rdA, swl_0 rfl]
theorem rdA_1 {T : Nat → Int32} {k r : Nat} : rdA T k r 1 = nI (mhi T r) := by
  rw [rdA, swl_s (by decide), swl_0 rfl]
theorem rdA_2 {T : Nat → Int32} {k r : Nat} : rdA T k r 2 = T (62 + r) := by
  rw [rdA, swl_s (by decide), swl_s (by decide), swl_0 rfl]
theorem rdA_3 {T : Nat → Int32} {k r : Nat} : rdA T k r 3 = b2i (ptM T k r) := by
  rw [rdA, swl_s (by decide), swl_s (by decide), swl_s (by decide), swl_0 rfl]
theorem rdA_4 {T : Nat → Int32} {k r : Nat} : rdA T k r 4 = rgM T k r := by
  rw [rdA, swl_s (by decide), swl_s (by decide), swl_s (by decide), swl_s (by decide), swl_0 rfl]
theorem rdA_5 {T : Nat → Int32} {k r : Nat} : rdA T k r 5 = nI (plM T k r) := by
  rw [rdA, swl_s (by decide), swl_s (by decide), swl_s (by decide), swl_s (by decide), swl_s (by decide), swl_0 rfl]
theorem sqA_0 {T : Nat → Int32} {k n x : Nat} : sqA T k n x 0 = nI (roM T (nI 1 <<< (nI x &&& 31)) k) := by
  rw [sqA, swl_0 rfl]
theorem sqA_1 {T : Nat → Int32} {k n x : Nat} : sqA T k n x 1 = b2i (decide (¬ mpM T k n x ≤ 0)) := by
  rw [sqA, swl_s (by decide), swl_0 rfl]
theorem sqA_2 {T : Nat → Int32} {k n x : Nat} : sqA T k n x 2 = nI (dtM T k x) := by
  rw [sqA, swl_s (by decide), swl_s (by decide), swl_0 rfl]
theorem sqA_3 {T : Nat → Int32} {k n x : Nat} : sqA T k n x 3 = rsM T (nI 0) (-6) k x := by
  rw [sqA, swl_s (by decide), swl_s (by decide), swl_s (by decide), swl_0 rfl]
theorem sqA_4 {T : Nat → Int32} {k n x : Nat} : sqA T k n x 4 = mpM T k n x := by
  rw [sqA, swl_s (by decide), swl_s (by decide), swl_s (by decide), swl_s (by decide), swl_0 rfl]
theorem dsA_0 {T : Nat → Int32} {k n d : Nat} : dsA T k n d 0 = sqM T k n d := by
  rw [dsA, swl_0 rfl]
theorem dsA_1 {T : Nat → Int32} {k n d : Nat} : dsA T k n d 1 = lwM T (sqM T k n d) k := by
  rw [dsA, swl_s (by decide), swl_0 rfl]
theorem dsA_2 {T : Nat → Int32} {k n d : Nat} : dsA T k n d 2 = nI (roM T (sqM T k n d) k) := by
  rw [dsA, swl_s (by decide), swl_s (by decide), swl_0 rfl]
theorem dsA_3 {T : Nat → Int32} {k n d : Nat} : dsA T k n d 3 = nI (rwM T (sqM T k n d) k) - nI (popc (sqM T k n d)) + nI 1 := by
  rw [dsA, swl_s (by decide), swl_s (by decide), swl_s (by decide), swl_0 rfl]
theorem b_or2 (b : Bool) : b = true ∨ b = false := by cases b <;> simp
/-- the law's own number of an int -/
def upV (v : Int32) : Nat := (v &&& nI 2147483647).toNatClampNeg
theorem up_nI (v : Int32) : v &&& nI 2147483647 = nI (upV v) ∧ upV v < 2 ^ 31 := by
  obtain ⟨V, hV, rfl⟩ := wb_of32 v
  have e : nI V &&& nI 2147483647 = nI (V % 2147483648) := by
    rw [fa_and]
    congr 1
    exact Nat.and_two_pow_sub_one_eq_mod V 31
  have h1 : V % 2147483648 < 2 ^ 31 := Nat.mod_lt _ (by decide)
  have e2 : upV (nI V) = V % 2147483648 := by rw [upV, e, nI_clamp h1]
  rw [e2]
  exact ⟨e, h1⟩
section LWM
variable {k n : Nat} {lo hi le en T lo' hi' le' en' T' : Nat → Int32}
theorem ln_T (h : TwR k n lo hi le en T) {r : Nat} (hr : r < k) : T (62 + r) = nI (mln T r) := (h.ln hr).1
theorem ds_1 (h : TwR k n lo hi le en T) {d : Nat} : dsA T k n d 1 = nI (lwN T (sqM T k n d) k) := dsA_1.trans (lw_N h _ k (Nat.le_refl k))
theorem ds_3 (h : TwR k n lo hi le en T) {d : Nat} (hd : d < dbM T k n) : dsA T k n d 3 = nI (rnM T k n d) := dsA_3.trans (rn_int h hd)
theorem cn_7 (h : TwR k n lo hi le en T) {hc : Nat} : cnA T k n hc 7 = nI (sm (mln T) k) := cnA_7.trans ((lw_N h _ k (Nat.le_refl k)).trans (congrArg nI (lwN_all h)))
theorem sm_mln (h : TwR k n lo hi le en T) : sm (mln T) k ≤ 99 * 30 := by
  rw [← lwN_all h]
  exact lwN_le h _
theorem pS_t {r : Nat} (h : ptM T k r = true) : sm (fun r => if ptM T k r = true then mln T r else 0) r + mln T r = sm (fun r => if ptM T k r = true then mln T r else 0) (r + 1) := by
  show _ = sm (fun r => if ptM T k r = true then mln T r else 0) r + (if ptM T k r = true then mln T r else 0)
  rw [if_pos h]
theorem pS_f {r : Nat} (h : ptM T k r = false) : sm (fun r => if ptM T k r = true then mln T r else 0) r + 0 = sm (fun r => if ptM T k r = true then mln T r else 0) (r + 1) := by
  show _ = sm (fun r => if ptM T k r = true then mln T r else 0) r + (if ptM T k r = true then mln T r else 0)
  rw [if_neg (by rw [h]; decide)]
theorem low_dn (h : TwR k n lo hi le en T) {d : Nat} (hd : d < dbM T k n) (h0 : ¬ d = 0) : ¬ (sqM T k n d &&& (-(sqM T k n d))) ≤ (sqM T k n (d - 1) &&& (-(sqM T k n (d - 1)))) := by
  have h1 := low_up h (d := d - 1) (by omega)
  rw [show d - 1 + 1 = d by omega] at h1
  exact Int32.not_le.mpr h1
theorem bs_sq (h : TwR k n lo hi le en T) {d : Nat} (hd : d < dbM T k n) (h0 : rnM T k n d = 0) : bsF (sqM T k n d) 16 = 1 := by
  rw [bs_popc h.1.2.2 (sq_in h hd)]
  exact (rn_eq h hd).2 h0
theorem dt_pt (h : TwR k n lo hi le en T) {r : Nat} (hr : r < k) : dtM T k (mlo T r) = dtM T k (mhi T r) ↔ ptM T k r = false := by
  rw [dl_np h hr, pt_np h hr]
  cases npB (mlo T) (mhi T) k r <;> simp
theorem rg_t (h : TwR k n lo hi le en T) {r : Nat} (hr : r < k) (hp : ptM T k r = true) : rgM T k r = -6 := by
  rw [pt_np h hr] at hp
  rcases rg_tr h hr with ⟨h1, -⟩ | ⟨-, h2⟩
  · rw [h1] at hp; cases hp
  · exact h2
theorem rg_f (h : TwR k n lo hi le en T) {r : Nat} (hr : r < k) (hp : ptM T k r = false) : ∃ t, 2 ≤ t ∧ t ≤ n ∧ rgM T k r = nI t := by
  rw [pt_np h hr] at hp
  rcases rg_tr h hr with ⟨-, t, -, t1, t2, t3⟩ | ⟨h1, -⟩
  · exact ⟨t + 1, by omega, by omega, t3⟩
  · rw [h1] at hp; cases hp
theorem wy_road (h : TwR k n lo hi le en T) {r : Nat} (hr : r < k) : ∃ t, t ≤ mln T r ∧ wyA T k (mlo T r) (mhi T r) = nI t := by
  obtain ⟨ha, hb⟩ := h.ab r hr
  have ed : Con (fun _ => true) (mlo T) (mhi T) k (mlo T r) (mhi T r) := Con.s1 hr rfl .rf
  obtain ⟨t, t1, t2⟩ := fa_road h hr (fun _ => 0)
  refine ⟨t, t1, ?_⟩
  rw [wyA, if_pos ((hg_con h ha hb).mpr ed)]
  exact t2
theorem np_f (h : TwR k n lo hi le en T) {r : Nat} (hr : r < k) (hp : ptM T k r = true) : npB (mlo T) (mhi T) k r = false := by
  rw [pt_np h hr] at hp
  simpa using hp
theorem ct_bit (h : TwR k n lo hi le en T) {r : Nat} (hr : r < k) (hp : ptM T k r = true) : (ctM T k (mlo T r) r >>> (nI (mhi T r) &&& 31)) &&& nI 1 = nI 1 := by
  obtain ⟨ha, hb⟩ := h.ab r hr
  have hn := h.1.2.2
  rw [bs_one (by omega), (ct_ab h hr (np_f h hr hp)).1, g1_self h hb, if_pos rfl]
theorem ct_mul (h : TwR k n lo hi le en T) {r : Nat} (hr : r < k) (hp : ptM T k r = true) : bsF (ctM T k (mlo T r) r) 16 * bsF (ctM T k (mhi T r) r) 16 = plM T k r := by
  obtain ⟨ha, hb⟩ := h.ab r hr
  have hn := h.1.2.2
  rw [bs_popc hn (fun i hi q => ct_in h ha hi q), bs_popc hn (fun i hi q => ct_in h hb hi q), (ct_ab h hr (np_f h hr hp)).1, (ct_ab h hr (np_f h hr hp)).2, plM, if_pos hp, Nat.mul_comm]
theorem ring_int (h : TwR k n lo hi le en T) : nI (sm (rnM T k n) (dbM T k n)) = nI k - nI n + nI (piM T k n) := by
  have e := sum_rn h
  have e2 : nI k - nI n + nI (piM T k n) = nI k + nI (piM T k n) - nI n := by
    rw [Int32.sub_eq_add_neg, Int32.sub_eq_add_neg, Int32.add_assoc, Int32.add_comm (-(nI n)), ← Int32.add_assoc]
  rw [e2, nI_add, ← e, ← nI_add, Int32.add_sub_cancel]
theorem mp_dec (h : TwR k n lo hi le en T) (h' : TwR k n lo' hi' le' en' T') (m : Mi n k T T') {x : Nat} (hx : x < n) : b2i (decide (¬ mpM T k n x ≤ 0)) = b2i (decide (¬ mpM T' k n (n - 1 - x) ≤ 0)) := by rw [mp_mi h h' m hx]
theorem cn_al (h : TwR k n lo hi le en T) (h' : TwR k n lo' hi' le' en' T') (m : Mi n k T T') {hc v : Nat} (hv : v < 8) (h6 : ¬ v = 6) : cnA T k n hc v = cnA T' k n hc v := by
  rcases (show v = 0 ∨ v = 1 ∨ v = 2 ∨ v = 3 ∨ v = 4 ∨ v = 5 ∨ v = 7 by omega) with rfl | rfl | rfl | rfl | rfl | rfl | rfl
  · rw [cnA_0, cnA_0]
  · rw [cnA_1, cnA_1]
  · rw [cnA_2, cnA_2, pi_mi h h' m]
  · rw [cnA_3, cnA_3, pg_mi h h' m]
  · rw [cnA_4, cnA_4, pSq_mi h h' m]
  · rw [cnA_5, cnA_5, db_mi h h' m]
  · rw [cnA_7, cnA_7, lw_mi h h' m k (Nat.le_refl k)]
theorem sq_0 (h : TwR k n lo hi le en T) (h' : TwR k n lo' hi' le' en' T') (m : Mi n k T T') {x : Nat} (hx : x < n) : nI (roM T (nI 1 <<< (nI x &&& 31)) k) = nI (roM T' (nI 1 <<< (nI (n - 1 - x) &&& 31)) k) := by
  rw [ro_mi h h' m (one_mi h.1.2.2 hx)]
theorem sq_3 (h : TwR k n lo hi le en T) (h' : TwR k n lo' hi' le' en' T') (m : Mi n k T T') {x : Nat} (hx : x < n) : thF (rsM T (nI 0) (-6) k x) n n = rsM T' (nI 0) (-6) k (n - 1 - x) := th_MS h.1.2.2 (g_mi h h' m hx)
theorem sq_d (h : TwR k n lo hi le en T) (h' : TwR k n lo' hi' le' en' T') (m : Mi n k T T') {x : Nat} (hx : x < n) : thF (sqM T k n (dtM T k x)) n n = sqM T' k n (dtM T' k (n - 1 - x)) := by
  rw [dl_sq h hx, dl_sq h' (show n - 1 - x < n by omega)]
  exact th_MS h.1.2.2 (gD_mi h h' m hx)
theorem nd_al (h : TwR k n lo hi le en T) (h' : TwR k n lo' hi' le' en' T') (m : Mi n k T T') {x : Nat} (hx : x < n) : ndA T k n x = ndA T' k n (n - 1 - x) := by
  rw [ndA, ndA, nd_mi h h' m hx]
theorem wz_al (h : TwR k n lo hi le en T) (h' : TwR k n lo' hi' le' en' T') (m : Mi n k T T') {x y : Nat} (hx : x < n) (hy : y < n) : wzA T k x y = wzA T' k (n - 1 - x) (n - 1 - y) := by
  rw [wzA, wzA, hg_mi h h' m hx hy, le_mi h h' m hx hy]
theorem wy_al (h : TwR k n lo hi le en T) (h' : TwR k n lo' hi' le' en' T') (m : Mi n k T T') {x y : Nat} (hx : x < n) (hy : y < n) : wyA T k x y = wyA T' k (n - 1 - x) (n - 1 - y) := by
  rw [wyA, wyA, hg_mi h h' m hx hy]
  by_cases c : hgM T k x (nI y) = true
  · rw [if_pos c, if_pos c, fa_mi h h' m hx hy ((hg_con h hx hy).mp c) (fun _ => 0) (fun _ => 0)]
  · rw [if_neg c, if_neg c]
theorem mt_al (h : TwR k n lo hi le en T) (h' : TwR k n lo' hi' le' en' T') (m : Mi n k T T') {x y : Nat} (hx : x < n) (hy : y < n) (w : Int32) : mtA T k x y w = mtA T' k (n - 1 - x) (n - 1 - y) w := by
  rw [mtA, mtA, hg_mi h h' m hx hy, ms_mi h h' m hx hy]
theorem wl_al (h : TwR k n lo hi le en T) (h' : TwR k n lo' hi' le' en' T') (m : Mi n k T T') (v : Nat) : wlA T k v = wlA T' k v := by
  rw [wlA, wlA, wl_mi h h' m k (Nat.le_refl k)]
theorem le_32 (x y : Nat) : leM T k x y ≤ 32 := by
  unfold leM
  split
  · exact popc_32 _
  · omega
theorem wz_b {x y v : Nat} (hv : v ≤ 33) (h : ¬ wzA T k x y < nI v) : v ≤ 32 := by
  have h1 := le_32 (T := T) (k := k) x y
  refine Classical.byContradiction fun q => h ?_
  rw [wzA]
  split
  · exact (nI_ltI (by omega) (by omega)).mpr (by omega)
  · rw [Int32.lt_iff_toInt_lt, nI_toInt (by omega)]
    have h5 : (-6 : Int32).toInt = -6 := by decide
    omega
theorem if_0 {x y : Nat} : ifA T k n x y 0 = nI (leM T k x y) := by rw [ifA, if_pos rfl]
theorem if_wz1 {x y : Nat} (h : 0 ≤ wzA T k x y) : ifA T k n x y 0 = wzA T k x y := by
  rw [if_0, wzA]
  rw [wzA] at h
  by_cases c : hgM T k x (nI y) = true
  · rw [if_pos c]
  · rw [if_neg c] at h
    exact absurd h (by decide)
theorem if_wz0 {x y : Nat} (h : ¬ 0 ≤ wzA T k x y) : ifA T k n x y 0 = nI 0 := by
  rw [if_0]
  rw [wzA] at h
  by_cases c : hgM T k x (nI y) = true
  · rw [if_pos c] at h
    exact absurd (nI_pos' (by have := le_32 (T := T) (k := k) x y; omega)) h
  · rw [leM, if_neg c]
theorem bu_if (h : TwR k n lo hi le en T) {x y : Nat} {z : Int32} (hk : k < 30) (hx : x < n) (hy : y < n) (h1 : TwR (k + 1) n lo' hi' le' en' (adA T k (nI x) (nI y) z)) : nI (piM (adA T k (nI x) (nI y) z) (k + 1) n) = ifA T k n x y 2 ∧ piM (adA T k (nI x) (nI y) z) (k + 1) n ≤ piM T k n := by
  have e := pi_ad h hk hx hy h1
  rw [ifA, if_neg (by decide), if_neg (by decide)]
  by_cases c : hgM T k x (nI y) = true
  · rw [if_pos c] at e
    rw [if_pos c, pk_sub (Nat.zero_le _)]
    exact ⟨congrArg nI (by omega), by omega⟩
  · rw [if_neg c] at e
    rw [if_neg c, pk_sub (by omega)]
    exact ⟨congrArg nI (by omega), by omega⟩
theorem lo_t (h : TwR k n lo hi le en T) {q : Nat} (hq : q < k) (h1 : TwR (k - 1) n lo' hi' le' en' (loA T q k)) (hp : ptM T k q = true) : piM (loA T q k) (k - 1) n = piM T k n + 1 := by
  rw [pi_lo h hq h1, if_pos hp]
theorem lo_f (h : TwR k n lo hi le en T) {q : Nat} (hq : q < k) (h1 : TwR (k - 1) n lo' hi' le' en' (loA T q k)) (hp : ptM T k q = false) : piM (loA T q k) (k - 1) n = piM T k n + 0 := by
  rw [pi_lo h hq h1, if_neg (by rw [hp]; decide)]
end LWM
/-- both objects' kept towns are each other's, numbered the other way round -/
def HM (n hc : Nat) (kk : Nat → Nat) (HA HA' : Nat → Nat → Int32) : Prop := ∀ i, 1 ≤ i → i < hc → Mi n (kk i) (HA i) (HA' i)
theorem hm_N {n hc k : Nat} {kk : Nat → Nat} {HA HA' : Nat → Nat → Int32} {T T' : Nat → Int32} (h6 : hc ≤ 6) (h : HM n hc kk HA HA') (m : Mi n k T T') : HM n (hcN hc) (kkN kk hc k) (HAN HA hc T) (HAN HA' hc T') := fun i h1 hi => by
  unfold hcN at hi
  unfold kkN HAN
  by_cases c : hc < 6
  · rw [if_pos c] at hi
    rw [if_pos c, if_pos c, if_pos c]
    by_cases e : i = hc
    · rw [upN, if_pos e, upH, if_pos e, upH, if_pos e]
      exact m
    · rw [upN, if_neg e, upH, if_neg e, upH, if_neg e]
      exact h i h1 (by omega)
  · rw [if_neg c] at hi
    rw [if_neg c, if_neg c, if_neg c]
    by_cases e : i = 5
    · rw [rtN, if_pos e, rtH, if_pos e, rtH, if_pos e]
      exact m
    · rw [rtN, if_neg e, rtH, if_neg e, rtH, if_neg e]
      exact h (i + 1) (by omega) (by omega)
theorem hcN_1 (hc : Nat) (h : 1 ≤ hc) : 1 ≤ hcN hc := by
  unfold hcN
  split <;> omega
