/-! ANSWERS of the town with its squares numbered the other way round (pure) -/
section ALK
variable {k n : Nat} {lo hi le en A lo' hi' le' en' A' : Nat → Int32}
theorem ln_mi (m : Mi n k A A') {r : Nat} (hr : r < k) : mln A' r = mln A r := by unfold mln; rw [(m r hr).2.2]
/-- the least length of a way -/
theorem len_tr (h : TwR k n lo hi le en A) {x y : Nat} (hx : x < n) (hy : y < n) (hG : Con (fun _ => true) (mlo A) (mhi A) k x y) (F : Nat → Int32) : ∃ t, Tr (fun _ => true) (mlo A) (mhi A) (mln A) k x y t ∧ t < 1584 ∧ farM A (nI 0) true F k x y = nI t := by
  have h16 := h.1.2.2
  have hk := h.1.1
  have hw : ∃ d, Wk (fun _ => true) (mlo A) (mhi A) (mln A) k x y d := hG.wk (fun _ _ _ => rfl)
  obtain ⟨t, ht, -, hlt, hf⟩ := far_yes (al := fun _ => true) (a := mlo A) (b := mhi A) (w := mln A) (k := k) (x := x) (by omega) h.ab16 (fun r hr _ => (h.ln hr).2.1) (c := 99) (fun r hr _ => (h.ln hr).2.2) hw
  refine ⟨t, ht, by have := hlt (by omega); omega, ?_⟩
  have h2 := (farM_N (al := fun _ => true) (w := mln A) (k := k) (x := x) (A := A) (m := nI 0) (bl := true) (F := F) h.ab16 (fun r hr => by rw [cnt_0w (by omega)]; rfl) (fun r hr _ => ⟨(byM2 (cnt_0w (by omega))).trans (h.ln hr).1, by have := (h.ln hr).2.2; omega⟩) 16).1 y (by omega)
  rw [farM, h2, hf 100000 (by omega)]
theorem fa_mi (h : TwR k n lo hi le en A) (h' : TwR k n lo' hi' le' en' A') (m : Mi n k A A') {x y : Nat} (hx : x < n) (hy : y < n) (hG : Con (fun _ => true) (mlo A) (mhi A) k x y) (F F' : Nat → Int32) : farM A' (nI 0) true F' k (n - 1 - x) (n - 1 - y) = farM A (nI 0) true F k x y := by
  obtain ⟨t, t1, -, t3⟩ := len_tr h hx hy hG F
  obtain ⟨u, u1, -, u3⟩ := len_tr h' (x := n - 1 - x) (y := n - 1 - y) (by omega) (by omega) (hG.mir (m.R h)) F'
  have e := (t1.mir (m.R h) (fun r hr => ln_mi m hr) hx hy).uni u1
  rw [t3, u3, e]
/-- the least ring through a road -/
def rgM (A : Nat → Int32) (k r : Nat) : Int32 := lrM ((farM A (nI 1 <<< (nI r &&& 31)) false (fun _ => 0) k (mlo A r)) (mhi A r))
theorem rg_tr (h : TwR k n lo hi le en A) {r : Nat} (hr : r < k) : (npB (mlo A) (mhi A) k r = true ∧ ∃ t, Tr (fun j => !decide (j = r)) (mlo A) (mhi A) (fun _ => 1) k (mlo A r) (mhi A r) t ∧ 1 ≤ t ∧ t < n ∧ rgM A k r = nI (t + 1)) ∨ (npB (mlo A) (mhi A) k r = false ∧ rgM A k r = -6) := by
  obtain ⟨ha, hb⟩ := h.ab r hr
  have hn := h.1.2.2
  have hk := h.1.1
  obtain ⟨-, -, ⟨hlt, -⟩, -⟩ := h.2.2 r hr
  have e : ∀ j, j < k → (!decide (j = r)) = !cnt (nI 1 <<< (nI r &&& 31)) (nI j) := fun j hj => by rw [cnt_bt (by omega), bit_bt (by omega) (by omega)]
  have hM := (farM_N (al := fun j => !decide (j = r)) (w := fun _ => 1) (k := k) (x := mlo A r) (A := A) (m := nI 1 <<< (nI r &&& 31)) (bl := false) (F := fun _ => 0) h.ab16 (fun j hj => e j hj) (fun q hq hal => ⟨byM3 (by
    have hal : (!decide (q = r)) = true := hal
    rw [e q hq] at hal
    cases hc : cnt (nI 1 <<< (nI r &&& 31)) (nI q) with
    | false => rfl
    | true => rw [hc] at hal; exact absurd hal (by decide)), by omega⟩) 16).1 (mhi A r) (by omega)
  by_cases hw : ∃ d, Wk (fun j => !decide (j = r)) (mlo A) (mhi A) (fun _ => 1) k (mlo A r) (mhi A r) d
  · refine Or.inl ⟨?_, ?_⟩
    · obtain ⟨d, hd⟩ := hw
      exact pD_t (hd.con (fun _ _ q => q))
    · obtain ⟨t, ht, t2, hf⟩ := far_n hn ha h.ab (fun _ _ _ => rfl) hw
      have h3 : ¬ t = 0 := fun e => by
        subst e
        rcases ht.1.inv with ⟨e, -⟩ | ⟨u, q, s, -, -, e, -⟩
        · omega
        · have : (fun _ : Nat => 1) q = 1 := rfl
          omega
      refine ⟨t, ht, by omega, t2, ?_⟩
      rw [rgM, farM, hM, hf 100000 (by omega), lrM, if_pos (Int32.lt_iff_toInt_lt.mpr (by rw [nI_toInt (by omega), nI_toInt (by omega)]; omega)), nI_add]
  · refine Or.inr ⟨?_, ?_⟩
    · exact pD_f (fun q => hw (q.wk (fun _ _ z => z)))
    · rw [rgM, farM, hM, far_not hw, lrM, if_neg (by decide)]
theorem rg_mi (h : TwR k n lo hi le en A) (h' : TwR k n lo' hi' le' en' A') (m : Mi n k A A') {r : Nat} (hr : r < k) : rgM A' k r = rgM A k r := by
  have e := np_mi h m hr
  obtain ⟨ha, hb⟩ := h.ab r hr
  rcases rg_tr h hr with ⟨h1, t, t1, -, -, t2⟩ | ⟨h1, h2⟩
  · rcases rg_tr h' hr with ⟨g1, u, u1, -, -, u2⟩ | ⟨g1, g2⟩
    · have q := (t1.mir (w' := fun _ => 1) (m.R h) (fun _ _ => rfl) ha hb).sy
      rw [← (m r hr).1, ← (m r hr).2.1] at q
      rw [t2, u2, q.uni u1]
    · rw [g1, h1] at e; cases e
  · rcases rg_tr h' hr with ⟨g1, -⟩ | ⟨g1, g2⟩
    · rw [g1, h1] at e; cases e
    · rw [h2, g2]
/-- whether two squares hang together -/
theorem hg_mi (h : TwR k n lo hi le en A) (h' : TwR k n lo' hi' le' en' A') (m : Mi n k A A') {x y : Nat} (hx : x < n) (hy : y < n) : hgM A' k (n - 1 - x) (nI (n - 1 - y)) = hgM A k x (nI y) := by
  have hn := h.1.2.2
  rw [hgM, hgM, cnt_bt (by omega), cnt_bt (by omega), (g_mi h h' m hx).1 y hy]
theorem mu_mi (h : TwR k n lo hi le en A) (h' : TwR k n lo' hi' le' en' A') (m : Mi n k A A') {x y : Nat} (hx : x < n) (hy : y < n) : muM A' k (n - 1 - x) (nI (n - 1 - y)) k = muM A k x (nI y) k := by
  have hn := h.1.2.2
  have hk := h.1.1
  refine orS_eq (F := muM A' k (n - 1 - x) (nI (n - 1 - y))) (G := muM A k x (nI y)) (k := k) (p := fun r => !cnt (rsM A' (nI 1 <<< (nI r &&& 31)) (-6) k (n - 1 - x)) (nI (n - 1 - y))) (q := fun r => !cnt (rsM A (nI 1 <<< (nI r &&& 31)) (-6) k x) (nI y)) rfl (fun r => by rw [muM, ite_not]) rfl (fun r => by rw [muM, ite_not]) (by omega) (fun r hr => ?_)
  show (!cnt (rsM A' (nI 1 <<< (nI r &&& 31)) (-6) k (n - 1 - x)) (nI (n - 1 - y))) = !cnt (rsM A (nI 1 <<< (nI r &&& 31)) (-6) k x) (nI y)
  rw [cnt_bt (by omega), cnt_bt (by omega), (g1_mi h h' m hr hx).1 y hy]
theorem mu_sy (h : TwR k n lo hi le en A) {x y : Nat} (hx : x < n) (hy : y < n) : muM A k x (nI y) k = muM A k y (nI x) k := by
  have hn := h.1.2.2
  have hk := h.1.1
  refine orS_eq (F := muM A k x (nI y)) (G := muM A k y (nI x)) (k := k) (p := fun r => !cnt (rsM A (nI 1 <<< (nI r &&& 31)) (-6) k x) (nI y)) (q := fun r => !cnt (rsM A (nI 1 <<< (nI r &&& 31)) (-6) k y) (nI x)) rfl (fun r => by rw [muM, ite_not]) rfl (fun r => by rw [muM, ite_not]) (by omega) (fun r hr => ?_)
  show (!cnt (rsM A (nI 1 <<< (nI r &&& 31)) (-6) k x) (nI y)) = !cnt (rsM A (nI 1 <<< (nI r &&& 31)) (-6) k y) (nI x)
  rw [cnt_bt (by omega), cnt_bt (by omega)]
  congr 1
  refine b_iff ?_
  rw [g1_con h hr hx hy, g1_con h hr hy hx]
  exact ⟨fun q => q.sy, fun q => q.sy⟩
theorem hg_sy (h : TwR k n lo hi le en A) {x y : Nat} (hx : x < n) (hy : y < n) : hgM A k x (nI y) = hgM A k y (nI x) := by
  have hn := h.1.2.2
  rw [hgM, hgM, cnt_bt (by omega), cnt_bt (by omega)]
  refine b_iff ?_
  rw [g_con h hx hy, g_con h hy hx]
  exact ⟨fun q => q.sy, fun q => q.sy⟩
theorem hg_con (h : TwR k n lo hi le en A) {x y : Nat} (hx : x < n) (hy : y < n) : hgM A k x (nI y) = true ↔ Con (fun _ => true) (mlo A) (mhi A) k x y := by
  have hn := h.1.2.2
  rw [hgM, cnt_bt (by omega), g_con h hx hy]
theorem le_mi (h : TwR k n lo hi le en A) (h' : TwR k n lo' hi' le' en' A') (m : Mi n k A A') {x y : Nat} (hx : x < n) (hy : y < n) : leM A' k (n - 1 - x) (n - 1 - y) = leM A k x y := by
  rw [leM, leM, hg_mi h h' m hx hy, mu_mi h h' m hx hy]
theorem ma_mi (h : TwR k n lo hi le en A) (h' : TwR k n lo' hi' le' en' A') (m : Mi n k A A') {x r : Nat} (hx : x < n) (hr : r < k) (st : Int32) : ∀ j, j ≤ k → maH A' k (n - 1 - x) r st j = maH A k x r st j
  | 0, _ => rfl
  | j + 1, hj => by
    have ih := ma_mi h h' m hx hr st j (by omega)
    have hn := h.1.2.2
    obtain ⟨h3, h4⟩ := h.ab j (by omega)
    obtain ⟨m1, m2, -⟩ := m j (by omega)
    obtain ⟨g3, g4⟩ := h'.ab16 j (by omega)
    have hs := g1_mi h h' m hr hx
    have e1 : (enM A j &&& rsM A (nI 1 <<< (nI r &&& 31)) (-6) k x) = enM A j ↔ _ := ed_sub (a := mlo A) (b := mhi A) (by omega) (by omega)
    have e2 : (enM A' j &&& rsM A' (nI 1 <<< (nI r &&& 31)) (-6) k (n - 1 - x)) = enM A' j ↔ _ := ed_sub (a := mlo A') (b := mhi A') (by omega) (by omega)
    have e3 : (enM A' j &&& rsM A' (nI 1 <<< (nI r &&& 31)) (-6) k (n - 1 - x)) = enM A' j ↔ (enM A j &&& rsM A (nI 1 <<< (nI r &&& 31)) (-6) k x) = enM A j := by
      rw [e1, e2, m1, m2, hs.1 _ h4, hs.1 _ h3]
      exact ⟨fun q => ⟨q.2, q.1⟩, fun q => ⟨q.2, q.1⟩⟩
    simp only [maH]
    rw [ih]
    by_cases c : (¬ j = r ∧ cnt st (nI j) = true) ∧ (enM A j &&& rsM A (nI 1 <<< (nI r &&& 31)) (-6) k x) = enM A j
    · rw [if_pos c, if_pos ⟨c.1, e3.mpr c.2⟩]
    · rw [if_neg c, if_neg (fun q => c ⟨q.1, e3.mp q.2⟩)]
/-- the place-th road that all ways must take -/
def msM (A : Nat → Int32) (k x y : Nat) (pl : Int32) : Int32 := fst6 (muP A k x (muM A k x (nI y) k) pl) 0 k
theorem ms_mi (h : TwR k n lo hi le en A) (h' : TwR k n lo' hi' le' en' A') (m : Mi n k A A') {x y : Nat} (hx : x < n) (hy : y < n) (pl : Int32) : msM A' k (n - 1 - x) (n - 1 - y) pl = msM A k x y pl := by
  rw [msM, msM, mu_mi h h' m hx hy]
  refine fst6_eq k 0 (fun r _ hr => ?_)
  rw [muP, muP, ma_mi h h' m hx (by omega) _ k (Nat.le_refl k)]
theorem pf_mi (h : TwR k n lo hi le en A) (h' : TwR k n lo' hi' le' en' A') (m : Mi n k A A') {x y : Nat} (hx : x < n) (hy : y < n) : pfM A' k (n - 1 - x) (n - 1 - y) = pfM A k x y := by
  rw [pfM, pfM, hg_mi h h' m hx hy, mu_mi h h' m hx hy, pg_mi h h' m]
theorem pf_sy (h : TwR k n lo hi le en A) {x y : Nat} (hx : x < n) (hy : y < n) : pfM A k x y = pfM A k y x := by
  rw [pfM, pfM, hg_sy h hx hy, mu_sy h hx hy]
end ALK
theorem bbI_min {pf : Nat → Nat → Int32} {lo : Nat} {s0 : Int32 × Nat × Nat} : ∀ j, (bbI pf lo s0 j).1 ≤ s0.1 ∧ (∀ i, i < j → (bbI pf lo s0 j).1 ≤ pf lo (lo + 1 + i)) ∧ ((bbI pf lo s0 j).1 = s0.1 ∨ ∃ i, i < j ∧ (bbI pf lo s0 j).1 = pf lo (lo + 1 + i))
  | 0 => ⟨Int32.le_refl _, fun i hi => absurd hi (Nat.not_lt_zero i), Or.inl rfl⟩
  | j + 1 => by
    obtain ⟨h1, h2, h3⟩ := bbI_min (pf := pf) (lo := lo) (s0 := s0) j
    by_cases c : (bbI pf lo s0 j).1 ≤ pf lo (lo + 1 + j)
    · rw [bbI_f c]
      refine ⟨h1, fun i hi => ?_, h3.imp id (fun ⟨i, hi, e⟩ => ⟨i, by omega, e⟩)⟩
      rcases (show i < j ∨ i = j by omega) with z | z
      · exact h2 i z
      · subst z; exact c
    · rw [bbI_t c]
      have hle : pf lo (lo + 1 + j) ≤ (bbI pf lo s0 j).1 := Int32.le_of_lt (Int32.not_le.mp c)
      refine ⟨Int32.le_trans hle h1, fun i hi => ?_, Or.inr ⟨j, by omega, rfl⟩⟩
      rcases (show i < j ∨ i = j by omega) with z | z
      · exact Int32.le_trans hle (h2 i z)
      · subst z; exact Int32.le_refl _
theorem bbO_min {pf : Nat → Nat → Int32} {n : Nat} {s0 : Int32 × Nat × Nat} : ∀ i, i ≤ n → (bbO pf n s0 i).1 ≤ s0.1 ∧ (∀ x y, x < i → x < y → y < n → (bbO pf n s0 i).1 ≤ pf x y) ∧ ((bbO pf n s0 i).1 = s0.1 ∨ ∃ x y, x < y ∧ y < n ∧ (bbO pf n s0 i).1 = pf x y)
  | 0, _ => ⟨Int32.le_refl _, fun x y hx => absurd hx (Nat.not_lt_zero x), Or.inl rfl⟩
  | i + 1, hi => by
    obtain ⟨h1, h2, h3⟩ := bbO_min (pf := pf) (n := n) (s0 := s0) i (by omega)
    obtain ⟨g1, g2, g3⟩ := bbI_min (pf := pf) (lo := i) (s0 := bbO pf n s0 i) (n - (i + 1))
    show (bbI pf i (bbO pf n s0 i) (n - (i + 1))).1 ≤ _ ∧ (∀ x y, x < i + 1 → x < y → y < n → (bbI pf i (bbO pf n s0 i) (n - (i + 1))).1 ≤ pf x y) ∧ ((bbI pf i (bbO pf n s0 i) (n - (i + 1))).1 = s0.1 ∨ ∃ x y, x < y ∧ y < n ∧ (bbI pf i (bbO pf n s0 i) (n - (i + 1))).1 = pf x y)
    refine ⟨Int32.le_trans g1 h1, fun x y hx hxy hy => ?_, ?_⟩
    · rcases (show x < i ∨ x = i by omega) with z | z
      · exact Int32.le_trans g1 (h2 x y z hxy hy)
      · subst z
        have := g2 (y - (x + 1)) (by omega)
        rw [show x + 1 + (y - (x + 1)) = y by omega] at this
        exact this
    · rcases g3 with z | ⟨j, hj, e⟩
      · rw [z]; exact h3
      · exact Or.inr ⟨i, i + 1 + j, by omega, by omega, e⟩
section ALQ
variable {k n : Nat} {lo hi le en A lo' hi' le' en' A' : Nat → Int32}
def bbM (A : Nat → Int32) (k n : Nat) : Int32 := (bbO (pfM A k) n (nI 100000, 0, 0) n).1
theorem bb_mi1 (h : TwR k n lo hi le en A) (h' : TwR k n lo' hi' le' en' A') (m : Mi n k A A') : bbM A' k n ≤ bbM A k n := by
  obtain ⟨h1, h2, h3⟩ := bbO_min (pf := pfM A k) (n := n) (s0 := (nI 100000, 0, 0)) n (Nat.le_refl n)
  obtain ⟨g1, g2, g3⟩ := bbO_min (pf := pfM A' k) (n := n) (s0 := (nI 100000, 0, 0)) n (Nat.le_refl n)
  rcases h3 with e | ⟨x, y, hxy, hy, e⟩
  · rw [bbM, bbM, e]; exact g1
  · have q := g2 (n - 1 - y) (n - 1 - x) (by omega) (by omega) (by omega)
    rw [pf_mi h h' m hy (by omega), ← pf_sy h (by omega) hy, ← e] at q
    exact q
theorem Mi.sy (h : TwR k n lo hi le en A) (m : Mi n k A A') : Mi n k A' A := fun r hr => by
  obtain ⟨h1, h2, h3⟩ := m r hr
  obtain ⟨g1, g2⟩ := h.ab r hr
  exact ⟨by omega, by omega, h3.symm⟩
theorem bb_mi (h : TwR k n lo hi le en A) (h' : TwR k n lo' hi' le' en' A') (m : Mi n k A A') : bbM A' k n = bbM A k n := Int32.le_antisymm (bb_mi1 h h' m) (bb_mi1 h' h (m.sy h))
theorem bb_le (h : TwR k n lo hi le en A) : bbM A k n ≤ nI (popc (pgM A k k) + 1) := by
  obtain ⟨h1, h2, h3⟩ := bbO_min (pf := pfM A k) (n := n) (s0 := (nI 100000, 0, 0)) n (Nat.le_refl n)
  have hn := h.1.2.1
  refine Int32.le_trans (h2 0 1 (by omega) (by omega) (by omega)) ?_
  have p1 := popc_32 (pgM A k k)
  have p2 := popc_32 (muM A k 0 (nI 1) k)
  rw [pfM]
  split
  · rw [Int32.le_iff_toInt_le, pk_sub_toInt (by omega) (by omega), nI_toInt (by omega)]
    omega
  · exact Int32.le_refl _
theorem wl_mi (h : TwR k n lo hi le en A) (h' : TwR k n lo' hi' le' en' A') (m : Mi n k A A') : ∀ r, r ≤ k → wlM A' k r = wlM A k r
  | 0, _ => rfl
  | r + 1, hr => by
    simp only [wlM]
    rw [wl_mi h h' m r (by omega), pl_mi h h' m (show r < k by omega)]
theorem pSq_b (f : Nat → Int32) : ∀ j, pSq f j = bcnt (fun q => !decide (f q ≤ 0)) j
  | 0 => rfl
  | j + 1 => by
    have e : bcnt (fun q => !decide (f q ≤ 0)) (j + 1) = bcnt (fun q => !decide (f q ≤ 0)) j + (if (!decide (f j ≤ 0)) = true then 1 else 0) := rfl
    rw [e, pSq, pSq_b f j]
    by_cases c : f j ≤ 0
    · rw [if_pos c, decide_eq_true c]; rfl
    · rw [if_neg c, decide_eq_false c]; rfl
theorem pSq_mi (h : TwR k n lo hi le en A) (h' : TwR k n lo' hi' le' en' A') (m : Mi n k A A') : pSq (mpM A' k n) n = pSq (mpM A k n) n := by
  rw [pSq_b, pSq_b]
  refine bcnt_revc (fun i hi => ?_)
  rw [mp_mi h h' m hi]
theorem en_all (h : TwR k n lo hi le en A) {j : Nat} (hj : j < k) : (enM A j &&& nI 65535) = enM A j := by
  obtain ⟨ha, hb⟩ := h.ab16 j hj
  have hbt : ∀ i, i < 16 → bt (nI 65535) i = true := by decide +kernel
  exact (ed_sub (a := mlo A) (b := mhi A) (r := j) (by omega) (by omega)).mpr ⟨hbt _ ha, hbt _ hb⟩
theorem lw_mi (h : TwR k n lo hi le en A) (h' : TwR k n lo' hi' le' en' A') (m : Mi n k A A') : ∀ j, j ≤ k → lwM A' (nI 65535) j = lwM A (nI 65535) j
  | 0, _ => rfl
  | j + 1, hj => by
    rw [lwM, lwM, if_pos (en_all h (by omega)), if_pos (en_all h' (by omega)), lw_mi h h' m j (by omega), (m j (by omega)).2.2]
theorem MS.and0 {s s' t t' : Int32} (hn : n ≤ 32) (h : MS n s s') (g : MS n t t') : (s' &&& t') = 0 ↔ (s &&& t) = 0 := by
  have key : ¬ (s' &&& t') = 0 ↔ ¬ (s &&& t) = 0 := by
   rw [and_ne0, and_ne0]
   constructor
   · rintro ⟨i, hi, h1, h2⟩
     have hin := h.2.2 i hi h1
     have e1 := h.1 (n - 1 - i) (by omega)
     have e2 := g.1 (n - 1 - i) (by omega)
     rw [show n - 1 - (n - 1 - i) = i by omega] at e1 e2
     exact ⟨n - 1 - i, by omega, by rw [← e1]; exact h1, by rw [← e2]; exact h2⟩
   · rintro ⟨i, hi, h1, h2⟩
     have hin := h.2.1 i hi h1
     exact ⟨n - 1 - i, by omega, by rw [h.1 i hin]; exact h1, by rw [g.1 i hin]; exact h2⟩
  exact ⟨fun q => Classical.byContradiction fun z => (key.mpr z) q, fun q => Classical.byContradiction fun z => (key.mp z) q⟩
/-- what is said of the districts, by their least squares -/
theorem bcnt_pw {g : Nat → Int32} (F : Nat → Bool) : ∀ n, n ≤ 32 → bcnt F (pwM g (-6) n) = bcnt (fun t => F (pwM g (-6) t) && pD (Lst g t)) n
  | 0, _ => rfl
  | n + 1, hn => by
    have ih := bcnt_pw (g := g) F n (by omega)
    have e : bcnt (fun t => F (pwM g (-6) t) && pD (Lst g t)) (n + 1) = bcnt (fun t => F (pwM g (-6) t) && pD (Lst g t)) n + (if (F (pwM g (-6) n) && pD (Lst g n)) = true then 1 else 0) := rfl
    rw [e, ← ih]
    by_cases c : Lst g n
    · rw [pwM_l (by omega) c, pD_t c, Bool.and_true]
      rfl
    · rw [pwM_n c, pD_f c, Bool.and_false]
      rfl
theorem ndM_b (pz : Int32) : ∀ d, ndM A k n pz d = bcnt (fun d => !decide ((sqM A k n d &&& pz) = 0) && decide (roM A (sqM A k n d) k = 1)) d
  | 0 => rfl
  | d + 1 => by
    have e : bcnt (fun d => !decide ((sqM A k n d &&& pz) = 0) && decide (roM A (sqM A k n d) k = 1)) (d + 1) = bcnt (fun d => !decide ((sqM A k n d &&& pz) = 0) && decide (roM A (sqM A k n d) k = 1)) d + (if (!decide ((sqM A k n d &&& pz) = 0) && decide (roM A (sqM A k n d) k = 1)) = true then 1 else 0) := rfl
    rw [e, ndM, ndM_b pz d]
    by_cases c1 : (sqM A k n d &&& pz) = 0
    · rw [if_neg (fun q => q.1 c1), decide_eq_true c1]; rfl
    · by_cases c2 : roM A (sqM A k n d) k = 1
      · rw [if_pos ⟨c1, c2⟩, decide_eq_false c1, decide_eq_true c2]; rfl
      · rw [if_neg (fun q => c2 q.2), decide_eq_false c1, decide_eq_false c2]; rfl
theorem sq_lst (h : TwR k n lo hi le en A) {t : Nat} (ht : t < n) (hl : Lst (gD A k) t) : sqM A k n (pwM (gD A k) (-6) t) = gD A k t := by
  have hn := h.1.2.2
  exact sqF_S hl n 0 (Nat.zero_le t) (by omega) (by omega)
def nzB (A : Nat → Int32) (k : Nat) (pz : Int32) (t : Nat) : Bool := !decide ((gD A k t &&& pz) = 0) && decide (roM A (gD A k t) k = 1)
theorem nd_nL (h : TwR k n lo hi le en A) (pz : Int32) : ndM A k n pz (dbM A k n) = nL (nzB A k pz) (Con (npB (mlo A) (mhi A) k) (mlo A) (mhi A) k) n := by
  have hn := h.1.2.2
  rw [ndM_b]
  show bcnt _ (pwM (gD A k) (-6) n) = _
  rw [bcnt_pw _ n (by omega)]
  refine bcnt_cong (fun t ht => ?_)
  have hl := lst_pD (rsM_Eq h (pgM A k k) (-6)) hn (fun q i hq hi => gD_con h hq hi) ht
  by_cases c : Lst (gD A k) t
  · rw [pD_t c, pD_t (hl.mp c), sq_lst h ht c]
    rfl
  · rw [pD_f c, pD_f (fun q => c (hl.mpr q)), Bool.and_false, Bool.and_false]
theorem gD_np (h : TwR k n lo hi le en A) {r : Nat} (hr : r < k) (hp : npB (mlo A) (mhi A) k r = true) : gD A k (mlo A r) = gD A k (mhi A r) := by
  obtain ⟨ha, hb⟩ := h.ab r hr
  have hn := h.1.2.2
  have h1 := (gD_con h ha hb).mpr (Con.s1 hr hp .rf)
  exact ((rsM_Eq h (pgM A k k) (-6)) (mlo A r) (by omega)).2.2 (mhi A r) (by omega) h1 |>.symm
theorem nd_mi (h : TwR k n lo hi le en A) (h' : TwR k n lo' hi' le' en' A') (m : Mi n k A A') {x : Nat} (hx : x < n) : ndM A' k n (rsM A' (nI 0) (-6) k (n - 1 - x)) (dbM A' k n) = ndM A k n (rsM A (nI 0) (-6) k x) (dbM A k n) := by
  have hn := h.1.2.2
  rw [nd_nL h, nd_nL h', nL_cong (R := Con (npB (mlo A') (mhi A') k) (mlo A') (mhi A') k) (R' := Con (npB (mlo A) (mhi A) k) (mlo A') (mhi A') k) (fun u v _ _ => ⟨fun q => q.cong (fun r hr ha => by rw [← np_mi h m hr]; exact ha), fun q => q.cong (fun r hr ha => by rw [np_mi h m hr]; exact ha)⟩)]
  refine nL_mir (m.R h) (fun r hr ha => by unfold nzB; rw [gD_np h hr ha]) (fun t ht => ?_)
  unfold nzB
  have hs := gD_mi h h' m ht
  rw [ro_mi h h' m hs, decide_eq_decide.mpr (MS.and0 (by omega) hs (g_mi h h' m hx))]
end ALQ
/-- the law's own: a set of squares the other way round, a set's number -/
def thF (s : Int32) (n : Nat) : Nat → Int32
  | 0 => nI 0
  | k + 1 => thF s n k ||| (((s >>> (nI k &&& 31)) &&& nI 1) <<< (nI (n - 1 - k) &&& 31))
theorem one_bt {s : Int32} {k i : Nat} (hk : k < 32) (hi : i < 32) : bt ((s >>> (nI k &&& 31)) &&& nI 1) i = (decide (i = 0) && bt s k) := by
  have h1 : ∀ j, j < 32 → bt (nI 1) j = decide (j = 0) := by decide +kernel
  rw [b_and, h1 i hi, b_sshr k hk s hi]
  by_cases e : i = 0
  · subst e
    rw [if_pos (by omega), Nat.add_zero, decide_eq_true rfl, Bool.and_true, Bool.true_and]
  · rw [decide_eq_false e, Bool.and_false, Bool.false_and]
theorem thF_bt {s : Int32} {n i : Nat} (hn : n ≤ 16) (hi : i < 32) : ∀ k, k ≤ n → bt (thF s n k) i = (decide (i < n ∧ n - 1 - i < k) && bt s (n - 1 - i))
  | 0, _ => by rw [thF, nI_0, b_0, decide_eq_false (by omega)]; rfl
  | k + 1, hk => by
    rw [thF, b_or, thF_bt hn hi k (by omega), b_shl (n - 1 - k) (by omega) _ hi]
    by_cases e : i = n - 1 - k
    · rw [decide_eq_true (show n - 1 - k ≤ i by omega), one_bt (by omega) (by omega), decide_eq_true (show i - (n - 1 - k) = 0 by omega), decide_eq_false (show ¬ (i < n ∧ n - 1 - i < k) by omega), decide_eq_true (show i < n ∧ n - 1 - i < k + 1 by omega), show n - 1 - i = k by omega]
      simp
    · have e2 : (decide (n - 1 - k ≤ i) && bt ((s >>> (nI k &&& 31)) &&& nI 1) (i - (n - 1 - k))) = false := by
        by_cases c : n - 1 - k ≤ i
        · rw [one_bt (by omega) (by omega), decide_eq_false (show ¬ i - (n - 1 - k) = 0 by omega)]; simp
        · rw [decide_eq_false c]; rfl
      rw [e2, Bool.or_false, decide_eq_decide.mpr (show (i < n ∧ n - 1 - i < k) ↔ (i < n ∧ n - 1 - i < k + 1) by omega)]
theorem th_MS {s s' : Int32} {n : Nat} (hn : n ≤ 16) (h : MS n s s') : thF s n n = s' := by
  refine b_ext (fun i hi => ?_)
  rw [thF_bt hn hi n (Nat.le_refl n)]
  rcases (show i < n ∨ n ≤ i by omega) with c | c
  · have e := h.1 (n - 1 - i) (by omega)
    rw [show n - 1 - (n - 1 - i) = i by omega] at e
    rw [e, decide_eq_true (show i < n ∧ n - 1 - i < n by omega), Bool.true_and]
  · have h1 : bt s' i = false := Bool.eq_false_iff.mpr (fun q => by have := h.2.2 i hi q; omega)
    rw [h1, decide_eq_false (by omega)]; rfl
def bsF (s : Int32) : Nat → Nat
  | 0 => 0
  | k + 1 => bsF s k + (if bt s k = true then 1 else 0)
theorem bsF_b (s : Int32) : ∀ k, bsF s k = bcnt (bt s) k
  | 0 => rfl
  | k + 1 => by rw [bsF, bsF_b s k]; rfl
theorem bs_one {s : Int32} {k : Nat} (hk : k < 32) : (s >>> (nI k &&& 31)) &&& nI 1 = nI (if bt s k = true then 1 else 0) := by
  refine b_ext (fun i hi => ?_)
  rw [one_bt hk hi]
  have h1 : ∀ j, j < 32 → bt (nI 1) j = decide (j = 0) := by decide +kernel
  cases c : bt s k with
  | true => rw [if_pos rfl, h1 i hi, Bool.and_true]
  | false => rw [if_neg (by decide), nI_0, b_0, Bool.and_false]
theorem bs_popc {s : Int32} {n : Nat} (hn : n ≤ 16) (hs : ∀ i, i < 32 → bt s i = true → i < n) : bsF s 16 = popc s := by
  rw [bsF_b, popc_n (n := 16) (by omega) (fun i hi hb => by have := hs i hi hb; omega)]
