/-! A ROAD BUILT, A ROAD LOST: the pieces behind it, and the other numbering (pure) -/
section STP
variable {k n : Nat} {lo hi le en A lo' hi' le' en' A' : Nat → Int32}
theorem Con.ends {al : Nat → Bool} {a b a1 b1 : Nat → Nat} {x y : Nat} (h : ∀ r, r < k → a1 r = a r ∧ b1 r = b r) : Con al a1 b1 k x y ↔ Con al a b k x y := by
  constructor
  · exact fun q P hq hc => q P hq (fun r hr ha => by rw [(h r hr).1, (h r hr).2]; exact hc r hr ha)
  · exact fun q P hq hc => q P hq (fun r hr ha => by rw [← (h r hr).1, ← (h r hr).2]; exact hc r hr ha)
theorem ad_r {x y z : Int32} {r : Nat} (hr : r < k) (hk : k < 30) : mlo (adA A k x y z) r = mlo A r ∧ mhi (adA A k x y z) r = mhi A r ∧ adA A k x y z (62 + r) = A (62 + r) := by
  unfold mlo mhi
  rw [adA_2 (by omega) hk, adA_3 (by omega) hk, adA_6 (by omega) hk, if_neg (by omega), if_neg (by omega), if_neg (by omega)]
  exact ⟨rfl, rfl, rfl⟩
theorem ad_k {x y : Nat} {z : Int32} (hk : k < 30) (hx : x < 16) (hy : y < 16) : (y ≤ x → mlo (adA A k (nI x) (nI y) z) k = y ∧ mhi (adA A k (nI x) (nI y) z) k = x) ∧ (x < y → mlo (adA A k (nI x) (nI y) z) k = x ∧ mhi (adA A k (nI x) (nI y) z) k = y) ∧ adA A k (nI x) (nI y) z (62 + k) = z := by
  unfold mlo mhi
  rw [adA_2 (Nat.le_refl k) hk, adA_3 (Nat.le_refl k) hk, adA_6 (Nat.le_refl k) hk, if_pos rfl, if_pos rfl, if_pos rfl]
  have e : nI y ≤ nI x ↔ y ≤ x := nI_leI (by omega) (by omega)
  refine ⟨fun c => ?_, fun c => ?_, rfl⟩
  · rw [if_pos (e.mpr c), if_pos (e.mpr c), nI_clamp (by omega), nI_clamp (by omega)]
    exact ⟨rfl, rfl⟩
  · rw [if_neg (fun q => by have := e.mp q; omega), if_neg (fun q => by have := e.mp q; omega), nI_clamp (by omega), nI_clamp (by omega)]
    exact ⟨rfl, rfl⟩
/-- a road more joins two pieces, or none -/
theorem pi_ad (h : TwR k n lo hi le en A) {x y : Nat} {z : Int32} (hk : k < 30) (hx : x < n) (hy : y < n) (h1 : TwR (k + 1) n lo' hi' le' en' (adA A k (nI x) (nI y) z)) : piM (adA A k (nI x) (nI y) z) (k + 1) n + (if hgM A k x (nI y) = true then 0 else 1) = piM A k n := by
  have hn := h.1.2.2
  obtain ⟨e1, e2, -⟩ := ad_k (A := A) (k := k) (x := x) (y := y) (z := z) hk (by omega) (by omega)
  rw [pi_nL h, pi_nL h1]
  have he : ∀ {u v : Nat}, Con (fun _ => true) (mlo (adA A k (nI x) (nI y) z)) (mhi (adA A k (nI x) (nI y) z)) k u v ↔ Con (fun _ => true) (mlo A) (mhi A) k u v := Con.ends (fun r hr => ⟨(ad_r hr hk).1, (ad_r hr hk).2.1⟩)
  rw [← nL_cong (R := Con (fun _ => true) (mlo (adA A k (nI x) (nI y) z)) (mhi (adA A k (nI x) (nI y) z)) k) (R' := Con (fun _ => true) (mlo A) (mhi A) k) (fun u v _ _ => he)]
  have hu := h1.ab k (by omega)
  have hxy : Con (fun _ => true) (mlo A) (mhi A) k x y ↔ Con (fun _ => true) (mlo (adA A k (nI x) (nI y) z)) (mhi (adA A k (nI x) (nI y) z)) k (mlo (adA A k (nI x) (nI y) z) k) (mhi (adA A k (nI x) (nI y) z) k) := by
    rw [he]
    rcases (show y ≤ x ∨ x < y by omega) with c | c
    · rw [(e1 c).1, (e1 c).2]; exact ⟨fun q => q.sy, fun q => q.sy⟩
    · rw [(e2 c).1, (e2 c).2]
  have hup := fun u v => Con.up (al := fun _ => true) (a := mlo (adA A k (nI x) (nI y) z)) (b := mhi (adA A k (nI x) (nI y) z)) (k := k) (x := u) (y := v) rfl
  by_cases c : hgM A k x (nI y) = true
  · have hc := hxy.mp ((hg_con h hx hy).mp c)
    rw [if_pos c, Nat.add_zero]
    exact nL_cong (fun u v _ _ => (hup u v).trans ⟨fun q => q.elim id (fun q => q.elim (fun q => q.1.tr (hc.tr q.2)) (fun q => q.1.tr (hc.sy.tr q.2))), Or.inl⟩)
  · have hc : ¬ _ := fun q => c ((hg_con h hx hy).mpr (hxy.mpr q))
    have hm := merge con_eqv (Z := fun _ => true) (N := n) hup hc (fun _ _ _ => rfl) rfl hu.1 hu.2
    rw [if_neg c, hm, if_pos rfl]
theorem ad_mi (h : TwR k n lo hi le en A) (m : Mi n k A A') {x y : Nat} {z : Int32} (hk : k < 30) (hx : x < n) (hy : y < n) : Mi n (k + 1) (adA A k (nI x) (nI y) z) (adA A' k (nI (n - 1 - x)) (nI (n - 1 - y)) z) := fun r hr => by
  have hn := h.1.2.2
  rcases (show r < k ∨ r = k by omega) with c | c
  · obtain ⟨a1, a2, a3⟩ := ad_r (A := A) (x := nI x) (y := nI y) (z := z) c hk
    obtain ⟨b1, b2, b3⟩ := ad_r (A := A') (x := nI (n - 1 - x)) (y := nI (n - 1 - y)) (z := z) c hk
    rw [a1, a2, a3, b1, b2, b3]
    exact m r c
  · subst c
    obtain ⟨a1, a2, a3⟩ := ad_k (A := A) (k := r) (x := x) (y := y) (z := z) hk (by omega) (by omega)
    obtain ⟨b1, b2, b3⟩ := ad_k (A := A') (k := r) (x := n - 1 - x) (y := n - 1 - y) (z := z) hk (by omega) (by omega)
    rw [a3, b3]
    rcases (show y ≤ x ∨ x < y by omega) with d | d
    · rw [(a1 d).1, (a1 d).2]
      rcases (show y = x ∨ y < x by omega) with d2 | d2
      · obtain ⟨c1, c2⟩ := b1 (by omega)
        rw [c1, c2, d2]
        exact ⟨rfl, rfl, rfl⟩
      · obtain ⟨c1, c2⟩ := b2 (by omega)
        rw [c1, c2]
        exact ⟨rfl, rfl, rfl⟩
    · rw [(a2 d).1, (a2 d).2]
      obtain ⟨c1, c2⟩ := b1 (by omega)
      rw [c1, c2]
      exact ⟨rfl, rfl, rfl⟩
theorem lo_r {q j : Nat} (hj : j < k - 1) (hq : q < k) (hk : k ≤ 30) : mlo (loA A q k) j = mlo A (if q ≤ j then j + 1 else j) ∧ mhi (loA A q k) j = mhi A (if q ≤ j then j + 1 else j) ∧ loA A q k (62 + j) = A (62 + (if q ≤ j then j + 1 else j)) := by
  unfold mlo mhi
  rw [loA_2 hj hq hk, loA_3 hj hq hk, loA_6 hj hq hk]
  by_cases c : q ≤ j
  · rw [if_pos c, if_pos c, if_pos c, if_pos c]
    exact ⟨rfl, rfl, rfl⟩
  · rw [if_neg c, if_neg c, if_neg c, if_neg c]
    exact ⟨rfl, rfl, rfl⟩
theorem lo_con {q x y : Nat} (hq : q < k) (hk : k ≤ 30) : Con (fun _ => true) (mlo (loA A q k)) (mhi (loA A q k)) (k - 1) x y ↔ Con (fun j => !decide (j = q)) (mlo A) (mhi A) k x y := by
  constructor
  · refine fun z P hq2 hc => z P hq2 (fun j hj _ => ?_)
    rw [(lo_r hj hq hk).1, (lo_r hj hq hk).2.1]
    refine hc _ (by split <;> omega) ?_
    show (!decide ((if q ≤ j then j + 1 else j) = q)) = true
    rw [decide_eq_false (by split <;> omega)]; rfl
  · refine fun z P hq2 hc => z P hq2 (fun i hi ha => ?_)
    have ha : (!decide (i = q)) = true := ha
    have hne : ¬ i = q := by simpa using ha
    rcases (show i < q ∨ q < i by omega) with c | c
    · have h1 := hc i (by omega) rfl
      rw [(lo_r (show i < k - 1 by omega) hq hk).1, (lo_r (show i < k - 1 by omega) hq hk).2.1, if_neg (by omega)] at h1
      exact h1
    · have h1 := hc (i - 1) (by omega) rfl
      rw [(lo_r (show i - 1 < k - 1 by omega) hq hk).1, (lo_r (show i - 1 < k - 1 by omega) hq hk).2.1, if_pos (by omega), show i - 1 + 1 = i by omega] at h1
      exact h1
/-- a road lost makes one piece more just if it parts -/
theorem pi_lo (h : TwR k n lo hi le en A) {q : Nat} (hq : q < k) (h1 : TwR (k - 1) n lo' hi' le' en' (loA A q k)) : piM (loA A q k) (k - 1) n = piM A k n + (if ptM A k q = true then 1 else 0) := by
  have hn := h.1.2.2
  have hk := h.1.1
  obtain ⟨ha, hb⟩ := h.ab q hq
  rw [pi_nL h, pi_nL h1, nL_cong (R := Con (fun _ => true) (mlo (loA A q k)) (mhi (loA A q k)) (k - 1)) (R' := Con (fun j => !decide (j = q)) (mlo A) (mhi A) k) (fun u v _ _ => lo_con hq hk), pt_np h hq]
  have ed : Con (fun _ => true) (mlo A) (mhi A) k (mlo A q) (mhi A q) := Con.s1 hq rfl .rf
  have up : ∀ {x y : Nat}, Con (fun j => !decide (j = q)) (mlo A) (mhi A) k x y → Con (fun _ => true) (mlo A) (mhi A) k x y := fun z => z.cong (fun _ _ _ => rfl)
  have hR : ∀ u v, Con (fun _ => true) (mlo A) (mhi A) k u v ↔ Con (fun j => !decide (j = q)) (mlo A) (mhi A) k u v ∨ (Con (fun j => !decide (j = q)) (mlo A) (mhi A) k u (mlo A q) ∧ Con (fun j => !decide (j = q)) (mlo A) (mhi A) k (mhi A q) v) ∨ (Con (fun j => !decide (j = q)) (mlo A) (mhi A) k u (mhi A q) ∧ Con (fun j => !decide (j = q)) (mlo A) (mhi A) k (mlo A q) v) := fun u v => by
    refine ⟨fun z => Con.br (r := q) (fun j hj e _ => by show (!decide (j = q)) = true; rw [decide_eq_false e]; rfl) z, ?_⟩
    rintro (z | ⟨z1, z2⟩ | ⟨z1, z2⟩)
    · exact up z
    · exact (up z1).tr (ed.tr (up z2))
    · exact (up z1).tr (ed.sy.tr (up z2))
  cases hp : npB (mlo A) (mhi A) k q with
  | true =>
    have hc : Con (fun j => !decide (j = q)) (mlo A) (mhi A) k (mlo A q) (mhi A q) := pD_iff.mp hp
    rw [if_neg (by decide), Nat.add_zero]
    exact nL_cong (fun u v _ _ => ⟨up, fun z => ((hR u v).mp z).elim id (fun z => z.elim (fun z => z.1.tr (hc.tr z.2)) (fun z => z.1.tr (hc.sy.tr z.2)))⟩)
  | false =>
    have hc : ¬ Con (fun j => !decide (j = q)) (mlo A) (mhi A) k (mlo A q) (mhi A q) := fun z => by
      have e : npB (mlo A) (mhi A) k q = true := pD_t z
      rw [hp] at e; cases e
    have hm := merge con_eqv (Z := fun _ => true) (N := n) hR hc (fun _ _ _ => rfl) rfl ha hb
    rw [hm, if_pos rfl]
    rfl
theorem lo_mi (h : TwR k n lo hi le en A) (m : Mi n k A A') {q : Nat} (hq : q < k) : Mi n (k - 1) (loA A q k) (loA A' q k) := fun r hr => by
  have hk := h.1.1
  obtain ⟨a1, a2, a3⟩ := lo_r (A := A) hr hq hk
  obtain ⟨b1, b2, b3⟩ := lo_r (A := A') hr hq hk
  rw [a1, a2, a3, b1, b2, b3]
  exact m _ (by split <;> omega)
end STP
