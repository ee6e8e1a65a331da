/-! WHAT IS ANSWERED, on both sides (pure) -/
section RES
variable {k n : Nat} {lo hi le en A : Nat → Int32} {po dO dS lS : Nat → Int32} {pc ds : Nat} {pr : Int32}
theorem pg_bt (hk : k ≤ 32) {r : Nat} (hr : r < k) : cnt (pgM A k k) (nI r) = ptM A k r := by
  rw [cnt_bt (by omega), orS_bt (F := pgM A k) (p := ptM A k) rfl (fun _ => rfl) (by omega) k hk, decide_eq_true hr, Bool.true_and]
theorem road_res (h : TwR k n lo hi le en A) (hs : SvF k n A po dO dS lS pc ds pr) {r : Nat} (hr : r < k) (w : Int32) (F : Nat → Int32) :
    swl w [lo r, hi r, le r, b2i (cnt pr (nI r)), fst6 (lrP en (aRx k r) k (nI 1 <<< (nI (clp lo r) &&& 31)) (hi r)) 2 15, ppR po lS (clp lo) r] 0 = swl w [nI (mlo A r), nI (mhi A r), A (62 + r), b2i (ptM A k r), lrM ((farM A (nI 1 <<< (nI r &&& 31)) false F k (mlo A r)) (mhi A r)), nI (plM A k r)] 0 := by
  obtain ⟨⟨e1, e2, e3, e4⟩, ⟨e5, e6⟩, -⟩ := h.2.2 r hr
  obtain ⟨hs1, -, hp, -⟩ := hs
  have hk := h.1.1
  have a4 : cnt pr (nI r) = ptM A k r := by rw [hp]; exact pg_bt (by omega) hr
  have a5 := ring_eq h (a := clp lo) hr (h.clp hr) F
  have a6 := ppR_eq h hs1 (a := clp lo) hr (h.clp hr)
  rw [a5, a6, a4, e1.trans e5, e2.trans e6, e3]
theorem square_res (h : TwR k n lo hi le en A) (hs : SvF k n A po dO dS lS pc ds pr) {x : Nat} (hx : x < n) (w : Int32) :
    swl w [nI (popc (rAt en (nI x) k)), b2i (decide (¬ mPr en po k n x ≤ 0)), dO x, po x, mPr en po k n x] 0 = swl w [nI (roM A (nI 1 <<< (nI x &&& 31)) k), b2i (decide (¬ mpM A k n x ≤ 0)), nI (dbM A k (lwF ((rsM A (pgM A k k) (-6) k) x) 0 32)), rsM A (nI 0) (-6) k x, mpM A k n x] 0 := by
  obtain ⟨hs1, -, -, -, -, hd⟩ := hs
  have hn := h.1.2.2
  rw [rAt_ro h (show x < 16 by omega), mPr_eq h hx (hs1.1 x hx), hd x hx, hs1.1 x hx]
theorem rwM_b (sq : Int32) : ∀ j, rwM A sq j = bcnt (fun r => decide ((enM A r &&& sq) = enM A r)) j
  | 0 => rfl
  | j + 1 => by
    simp only [rwM, bcnt, decide_eq_true_eq]
    rw [rwM_b sq j]
    split <;> rfl
theorem rWi_rw (h : TwR k n lo hi le en A) (sq : Int32) : popc (rWi en sq k) = rwM A sq k := by
  have hk := h.1.1
  rw [orS_popc (F := rWi en sq) (p := fun r => decide ((en r &&& (sq ^^^ (-1))) = 0)) rfl (fun r => by simp only [rWi, decide_eq_true_eq]) (by omega), rwM_b]
  refine bcnt_cong (fun r hr => ?_)
  rw [(h.2.2 r hr).1.2.2.2]
  exact decide_eq_decide.mpr and_not0
theorem district_res (h : TwR k n lo hi le en A) (hs : SvF k n A po dO dS lS pc ds pr) {d : Nat} (hd : d < ds) (w : Int32) :
    swl w [dS d, lnO le (rWi en (dS d) k) k, nI (pRo en pr (dS d) k), nI (popc (rWi en (dS d) k)) - nI (popc (dS d)) + nI 1] 0 = swl w [sqM A k n d, lwM A (sqM A k n d) k, nI (roM A (sqM A k n d) k), nI (rwM A (sqM A k n d) k) - nI (popc (sqM A k n d)) + nI 1] 0 := by
  obtain ⟨-, -, hp, hds, hdS, -⟩ := hs
  have hn := h.1.2.2
  have e1 : pRo en pr (sqM A k n d) k = roM A (sqM A k n d) k := by
    obtain ⟨t, ht, -, -, et⟩ := sqM_gD h (d := d) (by omega)
    rw [et, hp]
    exact pRo_eq h (by omega) k (Nat.le_refl k)
  rw [hdS d hd, lnO_eq h _ k (Nat.le_refl k), e1, rWi_rw h]
theorem lnO_all (h : TwR k n lo hi le en A) : ∀ j, j ≤ k → lnO le (allR (nI k)) j = lwM A (nI 65535) j
  | 0, _ => rfl
  | j + 1, hj => by
    have hk := h.1.1
    obtain ⟨ha, hb⟩ := h.ab16 j (by omega)
    have hbt : ∀ i, i < 16 → bt (nI 65535) i = true := by decide +kernel
    have hc : (enM A j &&& nI 65535) = enM A j := (ed_sub (a := mlo A) (b := mhi A) (r := j) (by omega) (by omega)).mpr ⟨hbt _ ha, hbt _ hb⟩
    rw [lnO, if_pos (cnt_all (by omega) (by omega)), lwM, if_pos hc, lnO_all h j (by omega), (h.2.2 j (by omega)).1.2.2.1]
theorem ds_pos (h : TwR k n lo hi le en A) (hs : SvF k n A po dO dS lS pc ds pr) : 1 ≤ ds ∧ ds ≤ 16 := by
  obtain ⟨-, -, -, hds, -, -⟩ := hs
  have hn := h.1.2
  have h1 := pwM_le (gD A k) (-6) n
  have hl : Lst (gD A k) 0 := (lst_iff (rsM_Eq h (pgM A k k) (-6)) (show 0 < 16 by omega)).mpr (fun t ht => absurd ht (Nat.not_lt_zero t))
  have h2 := pwM_lt (g := gD A k) (t := 0) (q := n) (by omega) (by omega) hl
  omega
theorem count_res (h : TwR k n lo hi le en A) (hs : SvF k n A po dO dS lS pc ds pr) (pl hc w : Int32) :
    swl w [nI n, nI k, nI pc, nI (popc pr), nI (pSq (mPr en po k n) n), nI ds, nI (lgD (dLn en le dS k) ds).1, lnO le (allR (nI k)) k, pl, hc] 0 = swl w [nI n, nI k, nI (piM A k n), nI (popc (pgM A k k)), nI (pSq (mpM A k n) n), nI (dbM A k n), nI (ldM (dlM A k n) (dbM A k n)).1, lwM A (nI 65535) k, pl, hc] 0 := by
  have hp := ds_pos h hs
  obtain ⟨hs1, hpc, hpr, hds, hdS, -⟩ := hs
  have e1 : ds = dbM A k n := hds
  have e2 : lgD (dLn en le dS k) ds = ldM (dlM A k n) ds := by
    obtain ⟨d, rfl⟩ : ∃ d, ds = d + 1 := ⟨ds - 1, by omega⟩
    exact long_eq h hdS
  rw [e2, ← e1, lnO_all h k (Nat.le_refl k), pSq_mp h hs1, hpc, hpr]
theorem rBt_none (h : TwR k n lo hi le en A) (hs : SvR k n A po lS) {x y : Nat} (hx : x < n) (hy : y < 16) (hg : cnt (rsM A (nI 0) (-6) k x) (nI y) = false) : rBt po lS x (nI y) k = nI 0 := by
  have hn := h.1.2.2
  have hk := h.1.1
  refine b_ext (fun r hr => ?_)
  rw [orS_bt (F := rBt po lS x (nI y)) (p := fun r => cnt (sqB po lS x r) (nI y)) rfl (fun _ => rfl) hr k (by omega), nI_0, b_0]
  by_cases hrk : r < k
  · rw [cnt_bt (by omega)] at hg
    rw [cnt_bt (by omega), sqB_bt h hrk (by omega) (by omega) (hs.1 x hx) (hs.2 r hrk), hg, Bool.false_and, Bool.and_false]
  · rw [decide_eq_false hrk, Bool.false_and]
theorem must_none (h : TwR k n lo hi le en A) (hs : SvR k n A po lS) {x y : Nat} (hx : x < n) (hy : y < 16) (hg : cnt (rsM A (nI 0) (-6) k x) (nI y) = false) (pl : Int32) : fst6 (rOWp po lS x (rBt po lS x (nI y) k) pl k) 0 k = -6 := by
  have hk := h.1.1
  rw [rBt_none h hs hx hy hg]
  exact fst6_no k 0 (fun t _ ht => rOWp_f1 (cnt_0w (by omega)))
theorem cut_eq (h : TwR k n lo hi le en A) (hs : SvR k n A po lS) {x r : Nat} (hx : x < n) (hr : r < k) : sqB po lS x r = rsM A (nI 0) (-6) k x &&& (rsM A (nI 1 <<< (nI r &&& 31)) (-6) k x ^^^ (-1)) := by
  have hn := h.1.2.2
  refine b_ext (fun i hi => ?_)
  rw [sqB_bt h hr (by omega) hi (hs.1 x hx) (hs.2 r hr), b_and, bt_not hi]
theorem rBt_le (h : TwR k n lo hi le en A) (hs : SvR k n A po lS) {x y : Nat} (hx : x < n) (hy : y < 16) : popc (rBt po lS x (nI y) k) = leM A k x y := by
  cases hg : cnt (rsM A (nI 0) (-6) k x) (nI y) with
  | true => rw [rBt_eq h hs hx hy hg, leM, if_pos (show hgM A k x (nI y) = true from hg)]
  | false =>
    rw [rBt_none h hs hx hy hg, leM, if_neg (by rw [hgM, hg]; decide), nI_0]
    exact popc_0
theorem ifb_res (h : TwR k n lo hi le en A) (hs : SvF k n A po dO dS lS pc ds pr) {x y w : Nat} (hx : x < n) (hy : y < n) (hw : w ≤ 2) :
    swl (nI w) [nI (popc (rBt po lS x (nI y) k)), nI ds - nI (popc (rBt po lS x (nI y) k)), if cnt (po x) (nI y) = true then nI pc else nI pc - nI 1] 0 = if w = 0 then nI (leM A k x y) else if w = 1 then nI (dbM A k n) - nI (leM A k x y) else nI (piM A k n) - (if hgM A k x (nI y) = true then nI 0 else nI 1) := by
  obtain ⟨hs1, hpc, -, hds, -⟩ := hs
  have hn := h.1.2.2
  have e1 : ds = dbM A k n := hds
  rw [rBt_le h hs1 hx (by omega), hs1.1 x hx, e1, hpc]
  rcases (show w = 0 ∨ w = 1 ∨ w = 2 by omega) with rfl | rfl | rfl
  · rw [swl_0 rfl, if_pos rfl]
  · rw [swl_s (by decide), swl_0 rfl, if_neg (by decide), if_pos rfl]
  · rw [swl_s (by decide), swl_s (by decide), swl_0 rfl, if_neg (show ¬ 2 = 0 by decide), if_neg (show ¬ 2 = 1 by decide)]
    have e3 : hgM A k x (nI y) = cnt (rsM A (nI 0) (-6) k x) (nI y) := rfl
    rw [e3]
    cases cnt (rsM A (nI 0) (-6) k x) (nI y) with
    | true => rw [if_pos rfl, if_pos rfl, nI_0, Int32.sub_zero]
    | false => rw [if_neg (by decide), if_neg (by decide)]
theorem swl3_out {w a b c : Int32} (hw : w < nI 0 ∨ nI 2 < w) : swl w [a, b, c] 0 = -2 := by
  have hne : ∀ j, j ≤ 2 → ¬ w = nI j := fun j hj e => by
    subst e
    rcases hw with z | z
    · exact absurd z (nI_nlt (Nat.zero_le j) (by omega))
    · exact absurd z (nI_nlt hj (by omega))
  simp only [swl]
  rw [if_neg (hne 0 (by omega)), if_neg (hne 1 (by omega)), if_neg (hne 2 (by omega))]
theorem bbI_start {pf : Nat → Nat → Int32} (hb : ¬ nI 100000 ≤ pf 0 1) : ∀ j, bbI pf 0 (nI 100000, 0, 0) (j + 1) = bbI pf 0 (pf 0 1, 0, 1) (j + 1)
  | 0 => by
    rw [bbI_t (show ¬ (bbI pf 0 (nI 100000, 0, 0) 0).1 ≤ pf 0 (0 + 1 + 0) from hb), bbI_f (show (bbI pf 0 (pf 0 1, 0, 1) 0).1 ≤ pf 0 (0 + 1 + 0) from Int32.le_refl _)]
    rfl
  | j + 1 => by
    have ih := bbI_start hb j
    have e : ∀ s0, bbI pf 0 s0 (j + 1 + 1) = if ¬ (bbI pf 0 s0 (j + 1)).1 ≤ pf 0 (0 + 1 + (j + 1)) then (pf 0 (0 + 1 + (j + 1)), 0, 0 + 1 + (j + 1)) else bbI pf 0 s0 (j + 1) := fun _ => rfl
    rw [e, e, ih]
theorem bb_start {pf : Nat → Nat → Int32} {n : Nat} (hn : 2 ≤ n) (hb : ¬ nI 100000 ≤ pf 0 1) : ∀ i, bbO pf n (nI 100000, 0, 0) (i + 1) = bbO pf n (pf 0 1, 0, 1) (i + 1)
  | 0 => by
    show bbI pf 0 (nI 100000, 0, 0) (n - (0 + 1)) = bbI pf 0 (pf 0 1, 0, 1) (n - (0 + 1))
    rw [show n - (0 + 1) = (n - 2) + 1 by omega]
    exact bbI_start hb _
  | i + 1 => by
    have ih := bb_start hn hb i
    have e : ∀ s0, bbO pf n s0 (i + 1 + 1) = bbI pf (i + 1) (bbO pf n s0 (i + 1)) (n - (i + 1 + 1)) := fun _ => rfl
    rw [e, e, ih]
theorem popc_32 (x : Int32) : popc x ≤ 32 := bcnt_le _ 32
theorem pfM_small (x y : Nat) : ¬ nI 100000 ≤ pfM A k x y := by
  have h1 := popc_32 (pgM A k k)
  have h2 := popc_32 (muM A k x (nI y) k)
  rw [Int32.le_iff_toInt_le, nI_toInt (by omega), pfM]
  split
  · rw [pk_sub_toInt (by omega) (by omega)]
    omega
  · rw [nI_toInt (by omega)]
    omega
theorem best_res (h : TwR k n lo hi le en A) (hs : SvF k n A po dO dS lS pc ds pr) {w : Nat} (hw : w ≤ 2) :
    (if w = 2 then (bbO (pfA pr po lS k) n (pfA pr po lS k 0 1, 0, 1) n).1 else if w = 0 then nI (bbO (pfA pr po lS k) n (pfA pr po lS k 0 1, 0, 1) n).2.1 else nI (bbO (pfA pr po lS k) n (pfA pr po lS k 0 1, 0, 1) n).2.2) = if w = 0 then nI (bbO (pfM A k) n (nI 100000, 0, 0) n).2.1 else if w = 1 then nI (bbO (pfM A k) n (nI 100000, 0, 0) n).2.2 else (bbO (pfM A k) n (nI 100000, 0, 0) n).1 := by
  obtain ⟨hs1, -, hp, -⟩ := hs
  have hn := h.1.2
  have e1 : bbO (pfM A k) n (nI 100000, 0, 0) n = bbO (pfM A k) n (pfM A k 0 1, 0, 1) n := by
    have e := bb_start (n := n) hn.1 (pfM_small (A := A) (k := k) 0 1) (n - 1)
    rw [show n - 1 + 1 = n by omega] at e
    exact e
  rw [bb_eq h hs1 hp _ (Nat.le_refl n), pfA_eq h hs1 hp (x := 0) (y := 1) (by omega) (by omega), e1]
  rcases (show w = 0 ∨ w = 1 ∨ w = 2 by omega) with rfl | rfl | rfl
  · rw [if_neg (by decide), if_pos rfl, if_pos rfl]
  · rw [if_neg (by decide), if_neg (by decide), if_neg (by decide), if_pos rfl]
  · rw [if_pos rfl, if_neg (by decide), if_neg (by decide)]
theorem worst_res (h : TwR k n lo hi le en A) (hs : SvR k n A po lS) (hk : 1 ≤ k) (w : Nat) :
    (if w = 0 then nI (wlR (ppR po lS (clp lo)) k).1 else (wlR (ppR po lS (clp lo)) k).2) = if w = 0 then (wlM A k k).1 else (wlM A k k).2 := by
  have e := wl_both h hs (a := clp lo) (fun r hr => h.clp hr) (r := k - 1) (by omega)
  rw [show k - 1 + 1 = k by omega] at e
  rw [e]
theorem need_res (h : TwR k n lo hi le en A) (hs : SvF k n A po dO dS lS pc ds pr) {x : Nat} (hx : x < n) : (lfD en dS pr (po x) k ds + 1) / 2 = (ndM A k n (rsM A (nI 0) (-6) k x) (dbM A k n) + 1) / 2 := by
  obtain ⟨hs1, -, hp, hds, hdS, -⟩ := hs
  have e1 : ds = dbM A k n := hds
  rw [hs1.1 x hx, lfD_eq h hp ds (by omega) hdS, e1]
theorem sv_look (h : TwR k n lo hi le en A) (po dO dS lS : Nat → Int32) : SvF k n A (swP (rsC en (allR (nI k)) k) po n).2.2 (swD (rsC en (allR (nI k) &&& ((pRs (sdR en k (clp lo)) hi k) ^^^ (-1))) k) dO dS n).2.2.1 (swD (rsC en (allR (nI k) &&& ((pRs (sdR en k (clp lo)) hi k) ^^^ (-1))) k) dO dS n).2.2.2 (lsf lS (sdR en k (clp lo)) k) (swP (rsC en (allR (nI k)) k) po n).2.1 (swD (rsC en (allR (nI k) &&& ((pRs (sdR en k (clp lo)) hi k) ^^^ (-1))) k) dO dS n).2.1 (pRs (sdR en k (clp lo)) hi k) := sv_new h (a := clp lo) (fun _ hr => h.clp hr) po dO dS lS
end RES
theorem inR_ex {x : Int32} {n : Nat} (hn : n < 2 ^ 31) (h : inR x (nI n) = true) : ∃ y, y < n ∧ x = nI y := by
  simp only [inR, Bool.and_eq_true, Bool.not_eq_true', decide_eq_false_iff_not] at h
  obtain ⟨y, hy, e⟩ := nI_of h.1
  subst e
  refine ⟨y, ?_, rfl⟩
  have h2 := h.2
  rw [nI_leI hn hy] at h2
  omega
/-- an int between two numbers -/
theorem rng_ex {x : Int32} {a b : Nat} (ha : a < 2 ^ 31) (hb : b < 2 ^ 31) (h : ¬ (x < nI a ∨ nI b < x)) : ∃ y, a ≤ y ∧ y ≤ b ∧ x = nI y := by
  have h1 : ¬ x < nI a := fun q => h (Or.inl q)
  have h2 : ¬ nI b < x := fun q => h (Or.inr q)
  have h3 : ¬ x < 0 := fun q => by
    refine h1 ?_
    rw [Int32.lt_iff_toInt_lt] at q ⊢
    rw [nI_toInt ha]
    have : (0 : Int32).toInt = 0 := by decide
    omega
  obtain ⟨y, hy, e⟩ := nI_of h3
  subst e
  rw [nI_ltI hb hy] at h2
  rw [nI_ltI hy ha] at h1
  exact ⟨y, by omega, by omega, rfl⟩
