/-! WHAT THE SURVEY KEEPS, in the reference's words (pure) -/
def SvF (k n : Nat) (A po dO dS lS : Nat → Int32) (pc ds : Nat) (pr : Int32) : Prop := SvR k n A po lS ∧ pc = piM A k n ∧ pr = pgM A k k ∧ ds = pwM (gD A k) (-6) n ∧ (∀ d, d < ds → dS d = sqM A k n d) ∧ ∀ x, x < n → dO x = nI (dbM A k (lwF (gD A k x) 0 32))
section SRV
variable {k n : Nat} {lo hi le en A : Nat → Int32}
theorem sv_new (h : TwR k n lo hi le en A) {a : Nat → Nat} (ha : ∀ r, r < k → a r = mlo A r) (po dO dS lS : Nat → Int32) : SvF k n A (swP (rsC en (allR (nI k)) k) po n).2.2 (swD (rsC en (allR (nI k) &&& (pRs (sdR en k a) hi k ^^^ (-1))) k) dO dS n).2.2.1 (swD (rsC en (allR (nI k) &&& (pRs (sdR en k a) hi k ^^^ (-1))) k) dO dS n).2.2.2 (lsf lS (sdR en k a) k) (swP (rsC en (allR (nI k)) k) po n).2.1 (swD (rsC en (allR (nI k) &&& (pRs (sdR en k a) hi k ^^^ (-1))) k) dO dS n).2.1 (pRs (sdR en k a) hi k) := by
  have hn := h.1.2.2
  have e1 : rsC en (allR (nI k)) k = rsM A (nI 0) (-6) k := funext (fun q => rs_all h q)
  have e2 : pRs (sdR en k a) hi k = pgM A k k := pR_eq h ha
  have e3 : rsC en (allR (nI k) &&& (pRs (sdR en k a) hi k ^^^ (-1))) k = gD A k := by rw [e2]; exact funext (fun q => rs_not h _ q)
  have hP := rsM_Eq h (nI 0) (-6)
  have hD : Eq16 (gD A k) := rsM_Eq h (pgM A k k) (-6)
  rw [e1, e3, e2]
  refine ⟨⟨fun x hx => swP_pieces hP hn hx, fun r hr => ?_⟩, swP_cnt hP n hn, rfl, swD_cnt hD hn, fun d hd => ?_, fun x hx => ?_⟩
  · rw [lsf, if_pos hr]
    exact sd_eq h hr (ha r hr)
  · rw [swD_cnt hD hn] at hd
    exact swD_sqF hD hn hd
  · obtain ⟨l1, l2, l3⟩ := lwF_lst hD (show x < 16 by omega) 32 0 (Nat.zero_le x) (by omega) (fun t ht => absurd ht (Nat.not_lt_zero t))
    exact swD_O hD (by omega) l1 l2 n hn (by omega)
theorem fitsB_eq (h : TwR k n lo hi le en A) (v : Int32) : fitsB hi k v = fitsB (mhF A) k v := by
  have e : (∀ r, r < k → hi r < v) ↔ ∀ r, r < k → mhF A r < v := by
    constructor
    · intro z r hr
      have := z r hr
      rw [(h.2.2 r hr).1.2.1] at this
      exact this
    · intro z r hr
      rw [(h.2.2 r hr).1.2.1]
      exact z r hr
  exact decide_eq_decide.mpr e
/-- a road is built, on both sides -/
theorem TwR.ad (h : TwR k n lo hi le en A) (hk : k < 30) {x y z : Nat} (hx : x < n) (hy : y < n) (hne : ¬ x = y) (hz1 : 1 ≤ z) (hz2 : z ≤ 99) {lo' hi' le' en' : Nat → Int32} (e1 : ∀ r, r < k + 1 → lo' r = if r = k then (if nI y ≤ nI x then nI y else nI x) else lo r) (e2 : ∀ r, r < k + 1 → hi' r = if r = k then (if nI y ≤ nI x then nI x else nI y) else hi r) (e3 : ∀ r, r < k + 1 → le' r = if r = k then nI z else le r) (e4 : ∀ r, r < k + 1 → en' r = if r = k then (nI 1 <<< (nI x &&& 31)) ||| (nI 1 <<< (nI y &&& 31)) else en r) : TwR (k + 1) n lo' hi' le' en' (adA A k (nI x) (nI y) (nI z)) := by
  obtain ⟨⟨h1, h2, h3⟩, ⟨h4, h5⟩, h6⟩ := h
  refine ⟨⟨by omega, h2, h3⟩, ⟨adA_0.trans h4, adA_1⟩, fun r hr => ?_⟩
  rw [e1 r hr, e2 r hr, e3 r hr, e4 r hr, enM, mlo, mhi, adA_2 (by omega) hk, adA_3 (by omega) hk, adA_6 (by omega) hk]
  by_cases e : r = k
  · rw [if_pos e, if_pos e, if_pos e, if_pos e, if_pos e, if_pos e, if_pos e]
    by_cases c : nI y ≤ nI x
    · have hc : y ≤ x := Classical.byContradiction fun q => absurd c (fun w => by
        have w2 := Int32.le_iff_toInt_le.mp w
        rw [nI_toInt (by omega), nI_toInt (by omega)] at w2
        omega)
      rw [if_pos c, if_pos c, nI_clamp (by omega), nI_clamp (by omega)]
      refine ⟨⟨rfl, rfl, rfl, ?_⟩, ⟨rfl, rfl⟩, ⟨by omega, by omega⟩, z, hz1, hz2, rfl⟩
      exact b_ext (fun i hi => by rw [b_or, b_or, Bool.or_comm])
    · have hc : x < y := Classical.byContradiction fun q => c (Int32.le_iff_toInt_le.mpr (by rw [nI_toInt (by omega), nI_toInt (by omega)]; omega))
      rw [if_neg c, if_neg c, nI_clamp (by omega), nI_clamp (by omega)]
      exact ⟨⟨rfl, rfl, rfl, rfl⟩, ⟨rfl, rfl⟩, ⟨by omega, by omega⟩, z, hz1, hz2, rfl⟩
  · rw [if_neg e, if_neg e, if_neg e, if_neg e, if_neg e, if_neg e, if_neg e]
    exact h6 r (by omega)
/-- a road is lost, on both sides -/
theorem TwR.less (h : TwR k n lo hi le en A) {q : Nat} (hq : q < k) {lo' hi' le' en' : Nat → Int32} (e1 : ∀ r, r < k - 1 → lo' r = if q ≤ r then lo (r + 1) else lo r) (e2 : ∀ r, r < k - 1 → hi' r = if q ≤ r then hi (r + 1) else hi r) (e3 : ∀ r, r < k - 1 → le' r = if q ≤ r then le (r + 1) else le r) (e4 : ∀ r, r < k - 1 → en' r = if q ≤ r then en (r + 1) else en r) : TwR (k - 1) n lo' hi' le' en' (loA A q k) := by
  obtain ⟨⟨h1, h2, h3⟩, ⟨h4, h5⟩, h6⟩ := h
  refine ⟨⟨by omega, h2, h3⟩, ⟨(loA_0 h1).trans h4, loF_one⟩, fun r hr => ?_⟩
  rw [e1 r hr, e2 r hr, e3 r hr, e4 r hr, enM, mlo, mhi, loA_2 hr hq h1, loA_3 hr hq h1, loA_6 hr hq h1]
  by_cases e : q ≤ r
  · rw [if_pos e, if_pos e, if_pos e, if_pos e, if_pos e, if_pos e, if_pos e]
    exact h6 (r + 1) (by omega)
  · rw [if_neg e, if_neg e, if_neg e, if_neg e, if_neg e, if_neg e, if_neg e]
    exact h6 r (by omega)
end SRV
