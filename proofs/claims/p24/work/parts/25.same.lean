/-! THE SAME TOWN on both sides: what is reached, the parting roads, the pieces, the districts (pure) -/
theorem bt_not {x : Int32} {i : Nat} (hi : i < 32) : bt (x ^^^ (-1)) i = !bt x i := by rw [b_xor, b_m1 i hi, Bool.xor_true]
theorem orS_bt {F : Nat → Int32} {p : Nat → Bool} (h0 : F 0 = nI 0) (hs : ∀ k, F (k + 1) = if p k = true then F k ||| (nI 1 <<< (nI k &&& 31)) else F k) {r : Nat} (hr : r < 32) : ∀ k, k ≤ 32 → bt (F k) r = (decide (r < k) && p r)
  | 0, _ => by rw [h0, nI_0, b_0, decide_eq_false (Nat.not_lt_zero r)]; rfl
  | k + 1, hk => by
    have ih := orS_bt h0 hs hr k (by omega)
    rw [hs k]
    by_cases e : r = k
    · subst e
      rw [decide_eq_false (Nat.lt_irrefl r), Bool.false_and] at ih
      cases hp : p r with
      | true => rw [if_pos rfl, b_or, bit_bt hr hr, decide_eq_true rfl, Bool.or_true, decide_eq_true (Nat.lt_succ_self r)]; rfl
      | false => rw [if_neg (by decide), ih, Bool.and_false]
    · have e2 : decide (r < k + 1) = decide (r < k) := decide_eq_decide.mpr (by omega)
      rw [e2]
      split
      · rw [b_or, ih, bit_bt (by omega) hr, decide_eq_false e, Bool.or_false]
      · exact ih
theorem orS_eq {F G : Nat → Int32} {p q : Nat → Bool} (f0 : F 0 = nI 0) (fs : ∀ k, F (k + 1) = if p k = true then F k ||| (nI 1 <<< (nI k &&& 31)) else F k) (g0 : G 0 = nI 0) (gs : ∀ k, G (k + 1) = if q k = true then G k ||| (nI 1 <<< (nI k &&& 31)) else G k) {k : Nat} (hk : k ≤ 32) (h : ∀ r, r < k → p r = q r) : F k = G k := by
  refine b_ext (fun r hr => ?_)
  rw [orS_bt f0 fs hr k hk, orS_bt g0 gs hr k hk]
  by_cases e : r < k
  · rw [h r e]
  · rw [decide_eq_false e]; rfl
theorem ite_not {α : Type} {c : Bool} {x y : α} : (if c = true then x else y) = if (!c) = true then y else x := by cases c <;> rfl
/-- the same town, in the class's arrays and in the reference's row -/
def TwR (k n : Nat) (lo hi le en A : Nat → Int32) : Prop := (k ≤ 30 ∧ 2 ≤ n ∧ n ≤ 16) ∧ (A 0 = nI n ∧ A 1 = nI k) ∧ ∀ r, r < k → (lo r = A (2 + r) ∧ hi r = A (32 + r) ∧ le r = A (62 + r) ∧ en r = enM A r) ∧ (A (2 + r) = nI (mlo A r) ∧ A (32 + r) = nI (mhi A r)) ∧ (mlo A r < mhi A r ∧ mhi A r < n) ∧ ∃ z, 1 ≤ z ∧ z ≤ 99 ∧ A (62 + r) = nI z
section TWR
variable {k n : Nat} {lo hi le en A : Nat → Int32}
theorem TwR.ab (h : TwR k n lo hi le en A) : ∀ r, r < k → mlo A r < n ∧ mhi A r < n := fun r hr => by
  obtain ⟨-, -, ⟨h1, h2⟩, -⟩ := h.2.2 r hr
  exact ⟨by omega, h2⟩
theorem TwR.ab16 (h : TwR k n lo hi le en A) : ∀ r, r < k → mlo A r < 16 ∧ mhi A r < 16 := fun r hr => by
  have h1 := h.ab r hr
  have h2 := h.1.2.2
  exact ⟨by omega, by omega⟩
theorem TwR.okA (h : TwR k n lo hi le en A) : okA A k := fun r hr => by
  obtain ⟨-, ⟨h1, h2⟩, -, -⟩ := h.2.2 r hr
  obtain ⟨h3, h4⟩ := h.ab16 r hr
  exact ⟨h1, h3, h2, h4⟩
theorem TwR.clp2 (h : TwR k n lo hi le en A) {r : Nat} (hr : r < k) : clp hi r = mhi A r := by show (hi r).toNatClampNeg = _; rw [(h.2.2 r hr).1.2.1]; rfl
theorem TwR.clp (h : TwR k n lo hi le en A) {r : Nat} (hr : r < k) : clp lo r = mlo A r := by show (lo r).toNatClampNeg = _; rw [(h.2.2 r hr).1.1]; rfl
theorem alM_6 {w : Int32} {r : Nat} (h1 : mlo A r < 32) (h2 : mhi A r < 32) : alM A w (-6) r = !cnt w (nI r) := by rw [alM, decide_eq_false (nI_m6 _ h1), decide_eq_false (nI_m6 _ h2)]; simp
theorem nI_ij {x y : Nat} (hx : x < 2 ^ 31) (hy : y < 2 ^ 31) : nI x = nI y ↔ x = y := ⟨fun h => by
  have h1 := nI_toInt hx
  have h2 := nI_toInt hy
  rw [h] at h1
  omega, fun h => by rw [h]⟩
theorem alM_x {w : Int32} {r x : Nat} (h1 : mlo A r < 32) (h2 : mhi A r < 32) (hx : x < 32) : alM A w (nI x) r = (!cnt w (nI r) && (!decide (mlo A r = x) && !decide (mhi A r = x))) := by
  rw [alM, decide_eq_decide.mpr (nI_ij (x := mlo A r) (y := x) (by omega) (by omega)), decide_eq_decide.mpr (nI_ij (x := mhi A r) (y := x) (by omega) (by omega))]
theorem cnt_all {r : Nat} (hk : k < 32) (hr : r < k) : cnt (allR (nI k)) (nI r) = true := by
  rw [cnt_bt (by omega)]
  show bt ((nI 1 <<< (nI k &&& 31)) - nI 1) r = true
  rw [mk_bt k hk r (by omega), decide_eq_true hr]
theorem cnt_alln {r : Nat} {w : Int32} (hk : k < 32) (hr : r < k) : cnt (allR (nI k) &&& (w ^^^ (-1))) (nI r) = !cnt w (nI r) := by
  have h1 := cnt_all hk hr
  rw [cnt_bt (by omega)] at h1
  rw [cnt_bt (by omega), cnt_bt (by omega), b_and, h1, bt_not (by omega), Bool.true_and]
theorem cnt_0w {r : Nat} (hr : r < 32) : cnt (nI 0) (nI r) = false := by rw [cnt_bt hr, nI_0, b_0]
/-- reached over all roads; over all but those of a set -/
theorem rs_all (h : TwR k n lo hi le en A) (q : Nat) : rsC en (allR (nI k)) k q = rsM A (nI 0) (-6) k q := by
  refine rsC_G (fun r hr => ⟨?_, (h.2.2 r hr).1.2.2.2⟩)
  obtain ⟨h1, h2⟩ := h.ab16 r hr
  have h3 := h.1.1
  rw [alM_6 (by omega) (by omega), cnt_all (by omega) hr, cnt_0w (by omega)]
  rfl
theorem rs_not (h : TwR k n lo hi le en A) (w : Int32) (q : Nat) : rsC en (allR (nI k) &&& (w ^^^ (-1))) k q = rsM A w (-6) k q := by
  refine rsC_G (fun r hr => ⟨?_, (h.2.2 r hr).1.2.2.2⟩)
  obtain ⟨h1, h2⟩ := h.ab16 r hr
  have h3 := h.1.1
  rw [alM_6 (by omega) (by omega), cnt_alln (by omega) hr]
theorem rs_one (h : TwR k n lo hi le en A) (r q : Nat) : rsC en (aRx k r) k q = rsM A (nI 1 <<< (nI r &&& 31)) (-6) k q := rs_not h _ q
theorem rAt_bt {en : Nat → Int32} {sq : Int32} {r : Nat} (hr : r < 32) (k : Nat) (hk : k ≤ 32) : bt (rAt en sq k) r = (decide (r < k) && cnt (en r) sq) := orS_bt (F := rAt en sq) (p := fun r => cnt (en r) sq) rfl (fun _ => rfl) hr k hk
theorem enM_cnt {r x : Nat} (h1 : mlo A r < 32) (h2 : mhi A r < 32) (hx : x < 32) : cnt (enM A r) (nI x) = (decide (mlo A r = x) || decide (mhi A r = x)) := by
  rw [cnt_bt hx]
  show bt (ed (mlo A) (mhi A) r) x = _
  rw [bt_ed h1 h2 hx, decide_eq_decide.mpr (show x = mlo A r ↔ mlo A r = x from ⟨Eq.symm, Eq.symm⟩), decide_eq_decide.mpr (show x = mhi A r ↔ mhi A r = x from ⟨Eq.symm, Eq.symm⟩)]
theorem rs_sq (h : TwR k n lo hi le en A) {x : Nat} (hx : x < 16) (q : Nat) : rsC en (allR (nI k) &&& (rAt en (nI x) k ^^^ (-1))) k q = rsM A (nI 0) (nI x) k q := by
  refine rsC_G (fun r hr => ⟨?_, (h.2.2 r hr).1.2.2.2⟩)
  obtain ⟨h1, h2⟩ := h.ab16 r hr
  have h3 := h.1.1
  rw [alM_x (by omega) (by omega) (by omega), cnt_alln (by omega) hr, cnt_bt (by omega), rAt_bt (by omega) k (by omega), decide_eq_true hr, Bool.true_and, (h.2.2 r hr).1.2.2.2, enM_cnt (by omega) (by omega) (by omega), cnt_0w (by omega), Bool.not_or]
  rfl
theorem rsM_Eq (h : TwR k n lo hi le en A) (w z : Int32) : Eq16 (fun q => rsM A w z k q) := rG_Eq16 (a := mlo A) (b := mhi A) h.ab16
/-- the parting roads -/
theorem sd_eq (h : TwR k n lo hi le en A) {a : Nat → Nat} {r : Nat} (hr : r < k) (ha : a r = mlo A r) : sdR en k a r = rsM A (nI 1 <<< (nI r &&& 31)) (-6) k (mlo A r) := by rw [sdR, ha, rs_one h]
theorem pR_eq (h : TwR k n lo hi le en A) {a : Nat → Nat} (ha : ∀ r, r < k → a r = mlo A r) : pRs (sdR en k a) hi k = pgM A k k := by
  have h3 := h.1.1
  refine orS_eq (F := pRs (sdR en k a) hi) (G := pgM A k) (k := k) (p := fun r => !cnt (sdR en k a r) (hi r)) (q := fun r => ptM A k r) rfl (fun r => ?_) rfl (fun _ => rfl) (by omega) (fun r hr => ?_)
  · rw [pRs, ite_not]
  · show (!cnt (sdR en k a r) (hi r)) = ptM A k r
    obtain ⟨⟨-, g2, -, -⟩, ⟨-, g3⟩, -⟩ := h.2.2 r hr
    rw [sd_eq h hr (ha r hr), g2, g3]
    rfl
end TWR
