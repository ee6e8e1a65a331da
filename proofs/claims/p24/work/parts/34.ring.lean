/-! THE LEAST RING, on both sides (pure) -/
theorem orf_bt {en : Nat → Int32} {sq rs : Int32} {v : Nat} : ∀ k, bt (orf en sq rs k) v = true ↔ bt sq v = true ∨ ∃ j, j < k ∧ cnt rs (nI j) = true ∧ ¬ (en j &&& sq) = 0 ∧ bt (en j) v = true
  | 0 => ⟨fun z => Or.inl z, fun z => z.elim id (fun ⟨j, hj, _⟩ => absurd hj (Nat.not_lt_zero j))⟩
  | k + 1 => by
    have ih := orf_bt (en := en) (sq := sq) (rs := rs) (v := v) k
    by_cases hc : cnt rs (nI k) = true ∧ ¬ (en k &&& sq) = 0
    · rw [orf, if_pos hc, b_or, Bool.or_eq_true, ih]
      constructor
      · rintro ((z | ⟨j, h1, h2⟩) | z)
        · exact Or.inl z
        · exact Or.inr ⟨j, by omega, h2⟩
        · exact Or.inr ⟨k, by omega, hc.1, hc.2, z⟩
      · rintro (z | ⟨j, h1, h2, h3, h4⟩)
        · exact Or.inl (Or.inl z)
        · by_cases e : j = k
          · subst e; exact Or.inr h4
          · exact Or.inl (Or.inr ⟨j, by omega, h2, h3, h4⟩)
    · rw [orf, if_neg hc, ih]
      constructor
      · rintro (z | ⟨j, h1, h2⟩)
        · exact Or.inl z
        · exact Or.inr ⟨j, by omega, h2⟩
      · rintro (z | ⟨j, h1, h2, h3, h4⟩)
        · exact Or.inl z
        · by_cases e : j = k
          · subst e; exact absurd ⟨h2, h3⟩ hc
          · exact Or.inr ⟨j, by omega, h2, h3, h4⟩
theorem fst6_at {p : Nat → Bool} {m : Nat} (hm : p m = true) : ∀ n i, i ≤ m → m < i + n → (∀ t, i ≤ t → t < m → p t = false) → fst6 p i n = nI m
  | 0, i, h1, h2, _ => by omega
  | n + 1, i, h1, h2, h3 => by
    by_cases e : i = m
    · subst e
      rw [fst6, if_pos hm]
    · rw [fst6, if_neg (by rw [h3 i (Nat.le_refl i) (by omega)]; decide)]
      exact fst6_at hm n (i + 1) (by omega) (by omega) (fun t h4 h5 => h3 t (by omega) h5)
theorem fst6_no {p : Nat → Bool} : ∀ n i, (∀ t, i ≤ t → t < i + n → p t = false) → fst6 p i n = -6
  | 0, _, _ => rfl
  | n + 1, i, h => by
    rw [fst6, if_neg (by rw [h i (Nat.le_refl i) (by omega)]; decide)]
    exact fst6_no n (i + 1) (fun t h1 h2 => h t (by omega) (by omega))
section RING
variable {k n : Nat} {lo hi le en A : Nat → Int32}
abbrev W1 (A : Nat → Int32) (k r x : Nat) : Nat → Nat → Prop := Wk (fun j => !cnt (nI 1 <<< (nI r &&& 31)) (nI j)) (mlo A) (mhi A) (fun _ => 1) k x
theorem bfs_bt (h : TwR k n lo hi le en A) {r x : Nat} (hx : x < 16) : ∀ j v, v < 32 → (bt (bfs en (aRx k r) k (nI 1 <<< (nI x &&& 31)) j) v = true ↔ ∃ d, d ≤ j ∧ W1 A k r x v d)
  | 0, v, hv => by
    show bt (nI 1 <<< (nI x &&& 31)) v = true ↔ _
    rw [bit_bt (by omega) hv, decide_eq_true_eq]
    constructor
    · rintro rfl
      exact ⟨0, Nat.le_refl 0, .rf⟩
    · rintro ⟨d, hd, hw⟩
      rcases hw.inv with ⟨e, -⟩ | ⟨u, q, s, -, -, e, -⟩
      · exact e
      · have : (fun _ : Nat => 1) q = 1 := rfl
        omega
  | j + 1, v, hv => by
    have ih := bfs_bt h (r := r) hx j
    have hk := h.1.1
    have hen : ∀ q, q < k → en q = ed (mlo A) (mhi A) q := fun q hq => (h.2.2 q hq).1.2.2.2
    show bt (orf en (bfs en (aRx k r) k (nI 1 <<< (nI x &&& 31)) j) (aRx k r) k) v = true ↔ _
    rw [orf_bt, ih v hv]
    constructor
    · rintro (⟨d, hd, hw⟩ | ⟨q, hq, hc, hne, hb⟩)
      · exact ⟨d, by omega, hw⟩
      · obtain ⟨ha, hb2⟩ := h.ab16 q hq
        rw [hen q hq] at hne hb
        obtain ⟨u, hu, h1, h2⟩ := and_ne0.mp hne
        obtain ⟨d, hd, hw⟩ := (ih u hu).mp h2
        have hal : (fun j => !cnt (nI 1 <<< (nI r &&& 31)) (nI j)) q = true := (cnt_alln (w := nI 1 <<< (nI r &&& 31)) (show k < 32 by omega) hq).symm.trans hc
        rw [bt_ed (by omega) (by omega) hu, Bool.or_eq_true, decide_eq_true_eq, decide_eq_true_eq] at h1
        rw [bt_ed (by omega) (by omega) hv, Bool.or_eq_true, decide_eq_true_eq, decide_eq_true_eq] at hb
        rcases h1 with rfl | rfl
        · rcases hb with rfl | rfl
          · exact ⟨d, by omega, hw⟩
          · exact ⟨d + 1, by omega, .s1 hq hal hw⟩
        · rcases hb with rfl | rfl
          · exact ⟨d + 1, by omega, .s2 hq hal hw⟩
          · exact ⟨d, by omega, hw⟩
    · rintro ⟨d, hd, hw⟩
      rcases hw.inv with ⟨rfl, rfl⟩ | ⟨u, q, s, hq, hal, e, hu, hh⟩
      · exact Or.inl ⟨0, Nat.zero_le j, .rf⟩
      · have e1 : (fun _ : Nat => 1) q = 1 := rfl
        obtain ⟨ha, hb2⟩ := h.ab16 q hq
        have hu2 : u < 32 := by rcases hh with ⟨rfl, -⟩ | ⟨rfl, -⟩ <;> omega
        have h1 := (ih u hu2).mpr ⟨s, by omega, hu⟩
        refine Or.inr ⟨q, hq, (cnt_alln (w := nI 1 <<< (nI r &&& 31)) (show k < 32 by omega) hq).trans hal, ?_, ?_⟩
        · rw [hen q hq]
          refine and_ne0.mpr ⟨u, hu2, ?_, h1⟩
          rw [bt_ed (by omega) (by omega) hu2, Bool.or_eq_true, decide_eq_true_eq, decide_eq_true_eq]
          rcases hh with ⟨z, -⟩ | ⟨z, -⟩
          · exact Or.inl z
          · exact Or.inr z
        · rw [hen q hq, bt_ed (by omega) (by omega) hv, Bool.or_eq_true, decide_eq_true_eq, decide_eq_true_eq]
          rcases hh with ⟨-, z⟩ | ⟨-, z⟩
          · exact Or.inr z
          · exact Or.inl z
/-- the least ring through road r -/
theorem ring_eq (h : TwR k n lo hi le en A) {a : Nat → Nat} {r : Nat} (hr : r < k) (ha : a r = mlo A r) (F : Nat → Int32) : fst6 (lrP en (aRx k r) k (nI 1 <<< (nI (a r) &&& 31)) (hi r)) 2 15 = lrM (farM A (nI 1 <<< (nI r &&& 31)) false F k (mlo A r) (mhi A r)) := by
  obtain ⟨hx, hy⟩ := h.ab16 r hr
  have hk := h.1.1
  obtain ⟨⟨-, g2, -, -⟩, ⟨-, g3⟩, ⟨hlt, -⟩, -⟩ := h.2.2 r hr
  have hp : ∀ i, lrP en (aRx k r) k (nI 1 <<< (nI (a r) &&& 31)) (hi r) i = true ↔ ∃ d, d ≤ i - 1 ∧ W1 A k r (mlo A r) (mhi A r) d := fun i => by
    rw [lrP, ha, g2, g3, cnt_bt (by omega)]
    exact bfs_bt h hx (i - 1) _ (by omega)
  have hM := (farM_N (al := fun j => !cnt (nI 1 <<< (nI r &&& 31)) (nI j)) (w := fun _ => 1) (k := k) (x := mlo A r) (A := A) (m := nI 1 <<< (nI r &&& 31)) (bl := false) (F := F) h.ab16 (fun _ _ => rfl) (fun q hq hal => ⟨byM3 (by
    cases hc : cnt (nI 1 <<< (nI r &&& 31)) (nI q) with
    | false => rfl
    | true => rw [hc] at hal; exact absurd hal (by decide)), by omega⟩) 16).1 (mhi A r) hy
  rw [farM, hM]
  by_cases hw : ∃ d, W1 A k r (mlo A r) (mhi A r) d
  · obtain ⟨t, ht, -, h1, hf⟩ := far_yes (al := fun j => !cnt (nI 1 <<< (nI r &&& 31)) (nI j)) (a := mlo A) (b := mhi A) (w := fun _ => 1) (k := k) (x := mlo A r) hx h.ab16 (fun _ _ _ => Nat.le_refl 1) (c := 1) (fun _ _ _ => Nat.le_refl 1) hw
    have h2 := h1 (Nat.le_refl 1)
    have h3 : ¬ t = 0 := fun e => by
      subst e
      rcases ht.1.inv with ⟨e, -⟩ | ⟨u, q, s, -, -, e, -⟩
      · omega
      · have : (fun _ : Nat => 1) q = 1 := rfl
        omega
    rw [hf 100000 (by omega), lrM, if_pos (Int32.lt_iff_toInt_lt.mpr (by rw [nI_toInt (by omega), nI_toInt (by omega)]; omega)), nI_add]
    refine fst6_at ((hp (t + 1)).mpr ⟨t, by omega, ht.1⟩) 15 2 (by omega) (by omega) (fun i h4 h5 => Bool.eq_false_iff.mpr (fun z => ?_))
    obtain ⟨d, hd, hw2⟩ := (hp i).mp z
    have h6 := ht.2 d hw2
    omega
  · rw [far_not hw, lrM, if_neg (by decide)]
    exact fst6_no 15 2 (fun i _ _ => Bool.eq_false_iff.mpr (fun z => by
      obtain ⟨d, -, hw2⟩ := (hp i).mp z
      exact hw ⟨d, hw2⟩))
end RING
