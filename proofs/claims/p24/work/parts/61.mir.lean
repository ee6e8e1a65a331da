/-! THE SQUARES NUMBERED THE OTHER WAY ROUND (pure) -/
theorem bcnt_rev (p : Nat → Bool) : ∀ n, bcnt (fun i => p (n - 1 - i)) n = bcnt p n
  | 0 => rfl
  | n + 1 => by
    have h := bcnt_split (fun i => p (n + 1 - 1 - i)) 1 n
    rw [Nat.add_comm 1 n] at h
    rw [h]
    have e1 : bcnt (fun i => (fun i => p (n + 1 - 1 - i)) (1 + i)) n = bcnt (fun i => p (n - 1 - i)) n := bcnt_cong (fun i _ => by
      show p (n + 1 - 1 - (1 + i)) = p (n - 1 - i)
      rw [show n + 1 - 1 - (1 + i) = n - 1 - i by omega])
    have e2 : bcnt (fun i => p (n + 1 - 1 - i)) 1 = if p n = true then 1 else 0 := by
      show 0 + (if p (n + 1 - 1 - 0) = true then 1 else 0) = _
      rw [Nat.zero_add, show n + 1 - 1 - 0 = n by omega]
    rw [e1, e2, bcnt_rev p n]
    show _ = bcnt p n + _
    omega
theorem bcnt_revc {p q : Nat → Bool} {n : Nat} (h : ∀ i, i < n → q (n - 1 - i) = p i) : bcnt q n = bcnt p n := by
  rw [← bcnt_rev q n]
  exact bcnt_cong h
section MIR
variable {al : Nat → Bool} {a b a' b' : Nat → Nat} {k n x y : Nat}
/-- the other numbering's roads -/
def MiR (n k : Nat) (a b a' b' : Nat → Nat) : Prop := ∀ r, r < k → (a r < n ∧ b r < n) ∧ a' r = n - 1 - b r ∧ b' r = n - 1 - a r
theorem MiR.le {j : Nat} (h : MiR n k a b a' b') (hj : j ≤ k) : MiR n j a b a' b' := fun r hr => h r (by omega)
theorem MiR.sy (h : MiR n k a b a' b') : MiR n k a' b' a b := fun r hr => by
  obtain ⟨⟨h1, h2⟩, h3, h4⟩ := h r hr
  exact ⟨⟨by omega, by omega⟩, by omega, by omega⟩
theorem Con.mir (h : MiR n k a b a' b') (hc : Con al a b k x y) : Con al a' b' k (n - 1 - x) (n - 1 - y) :=
  hc (fun y => Con al a' b' k (n - 1 - x) (n - 1 - y)) .rf (fun r hr ha => by
    obtain ⟨-, h3, h4⟩ := h r hr
    rw [← h3, ← h4]
    exact ⟨fun q => .s2 hr ha q, fun q => .s1 hr ha q⟩)
theorem Con.mir_iff (h : MiR n k a b a' b') (hx : x < n) (hy : y < n) : Con al a' b' k (n - 1 - x) (n - 1 - y) ↔ Con al a b k x y := by
  refine ⟨fun q => ?_, fun q => q.mir h⟩
  have q2 := q.mir h.sy
  rw [show n - 1 - (n - 1 - x) = x by omega, show n - 1 - (n - 1 - y) = y by omega] at q2
  exact q2
theorem Con.mir_r (h : MiR n k a b a' b') {r j : Nat} (hr : r < k) (hj : j ≤ k) : Con al a' b' j (a' r) (b' r) ↔ Con al a b j (a r) (b r) := by
  obtain ⟨⟨h1, h2⟩, h3, h4⟩ := h r hr
  rw [h3, h4, Con.mir_iff (h.le hj) h2 h1]
  exact ⟨fun q => q.sy, fun q => q.sy⟩
theorem npB_mir (h : MiR n k a b a' b') {r : Nat} (hr : r < k) : npB a' b' k r = npB a b k r := pD_cong (Con.mir_r h hr (Nat.le_refl k))
theorem nL_mir (h : MiR n k a b a' b') {Z Z' : Nat → Bool} (hZ : ∀ r, r < k → al r = true → Z (a r) = Z (b r)) (hZ' : ∀ x, x < n → Z' (n - 1 - x) = Z x) : nL Z' (Con al a' b' k) n = nL Z (Con al a b k) n := by
  have h1 := K_eq (al := al) (a := a) (b := b) (Z := Z) (N := n) k (fun r hr ha => ⟨(h r hr).1, hZ r hr ha⟩)
  have h2 := K_eq (al := al) (a := a') (b := b') (Z := Z') (N := n) k (fun r hr ha => by
    obtain ⟨⟨g1, g2⟩, g3, g4⟩ := h r hr
    refine ⟨⟨by omega, by omega⟩, ?_⟩
    rw [g3, g4, hZ' _ g2, hZ' _ g1, hZ r hr ha])
  have h3 : bcnt Z' n = bcnt Z n := bcnt_revc hZ'
  have h4 : bcnt (inF al a' b' Z') k = bcnt (inF al a b Z) k := bcnt_cong (fun r hr => by
    unfold inF
    obtain ⟨⟨g1, g2⟩, g3, g4⟩ := h r hr
    cases ha : al r with
    | false => rfl
    | true =>
      rw [pD_cong (not_congr (Con.mir_r (al := al) h hr (show r ≤ k by omega))), g3, hZ' _ g2, hZ r hr ha])
  omega
theorem Wk.tr {al : Nat → Bool} {a b w : Nat → Nat} {k x y z d e : Nat} (h1 : Wk al a b w k x y d) (h2 : Wk al a b w k y z e) : Wk al a b w k x z (d + e) :=
  h2 (fun z e => Wk al a b w k x z (d + e)) h1 (fun r hr ha e => ⟨fun q => by rw [← Nat.add_assoc]; exact .s1 hr ha q, fun q => by rw [← Nat.add_assoc]; exact .s2 hr ha q⟩)
theorem Wk.sy {al : Nat → Bool} {a b w : Nat → Nat} {k x y d : Nat} (h : Wk al a b w k x y d) : Wk al a b w k y x d :=
  h (fun y d => Wk al a b w k y x d) .rf (fun r hr ha d => ⟨fun q => by
    have h1 := (Wk.s2 (a := a) (b := b) (w := w) hr ha (Wk.rf (x := b r))).tr q
    rw [Nat.zero_add, Nat.add_comm] at h1
    exact h1, fun q => by
    have h1 := (Wk.s1 (a := a) (b := b) (w := w) hr ha (Wk.rf (x := a r))).tr q
    rw [Nat.zero_add, Nat.add_comm] at h1
    exact h1⟩)
theorem Wk.mir {w w' : Nat → Nat} (h : MiR n k a b a' b') (hw : ∀ r, r < k → w' r = w r) {d : Nat} (hc : Wk al a b w k x y d) : Wk al a' b' w' k (n - 1 - x) (n - 1 - y) d :=
  hc (fun y d => Wk al a' b' w' k (n - 1 - x) (n - 1 - y) d) .rf (fun r hr ha d => by
    obtain ⟨-, h3, h4⟩ := h r hr
    rw [← h3, ← h4, ← hw r hr]
    exact ⟨fun q => .s2 hr ha q, fun q => .s1 hr ha q⟩)
theorem Tr.mir {w w' : Nat → Nat} (h : MiR n k a b a' b') (hw : ∀ r, r < k → w' r = w r) (hx : x < n) (hy : y < n) {t : Nat} (hc : Tr al a b w k x y t) : Tr al a' b' w' k (n - 1 - x) (n - 1 - y) t := by
  refine ⟨hc.1.mir h hw, fun d hd => hc.2 d ?_⟩
  have q := hd.mir h.sy (w' := w) (fun r hr => (hw r hr).symm)
  rw [show n - 1 - (n - 1 - x) = x by omega, show n - 1 - (n - 1 - y) = y by omega] at q
  exact q
theorem Tr.sy {w : Nat → Nat} {t : Nat} (h : Tr al a b w k x y t) : Tr al a b w k y x t := ⟨h.1.sy, fun d hd => h.2 d hd.sy⟩
theorem Tr.uni {w : Nat → Nat} {t u : Nat} (h : Tr al a b w k x y t) (g : Tr al a b w k x y u) : t = u := Nat.le_antisymm (h.2 u g.1) (g.2 t h.1)
/-- as far_yes, with the distance in roads below the number of squares -/
theorem far_n {w : Nat → Nat} (hn : n ≤ 16) (hx : x < n) (hab : ∀ r, r < k → a r < n ∧ b r < n) (hw : ∀ r, r < k → al r = true → w r = 1) (h : ∃ d, Wk al a b w k x y d) : ∃ t, Tr al a b w k x y t ∧ t < n ∧ ∀ inf, 16 ≤ inf → frN al a b w (iniN inf x) k 16 y = t := by
  have hab16 : ∀ r, r < k → a r < 16 ∧ b r < 16 := fun r hr => by
    obtain ⟨h1, h2⟩ := hab r hr
    exact ⟨by omega, by omega⟩
  obtain ⟨d0, hd0⟩ := h
  obtain ⟨t, ht⟩ := least_ex (P := fun d => Wk al a b w k x y d) d0 hd0
  have hex : ∀ u, (∃ d, Wk al a b w k x u d) → ∃ s, Tr al a b w k x u s := fun u hu => by
    obtain ⟨d, hd⟩ := hu
    exact least_ex (P := fun d => Wk al a b w k x u d) d hd
  have hch : ∀ u, ∃ s, (∃ d, Wk al a b w k x u d) → Tr al a b w k x u s := fun u => by
    by_cases z : ∃ d, Wk al a b w k x u d
    · obtain ⟨s, hs⟩ := hex u z
      exact ⟨s, fun _ => hs⟩
    · exact ⟨0, fun q => absurd q z⟩
  have hT := fun u => Classical.choose_spec (hch u)
  have hC : ∀ u, pD (∃ d, Wk al a b w k x u d) = true ↔ ∃ d, Wk al a b w k x u d := fun u => pD_iff
  have key := fun inf hi => frN_right (al := al) (a := a) (b := b) (w := w) (k := k) (x := x) (by omega) hab16 (fun r hr ha => by rw [hw r hr ha]; omega) (c := 1) (fun r hr ha => by rw [hw r hr ha]; omega) (inf := inf) hi (ini_snd inf) (by unfold iniN; rw [if_pos rfl]) (fun u => Classical.choose (hch u)) hT (fun u => pD (∃ d, Wk al a b w k x u d)) hC t y ht
  have hy : y < n := hd0.lt hx hab
  have hTy : Classical.choose (hch y) = t := (hT y ⟨d0, hd0⟩).uni ht
  have hle := (key 16 (by omega)).1
  have h1 : bcnt (fun u => pD (∃ d, Wk al a b w k x u d) && decide (Classical.choose (hch u) < t)) 16 < bcnt (fun u => decide (u < n)) 16 := bcnt_lt (fun i hi hb => by
      rw [Bool.and_eq_true, pD_iff] at hb
      obtain ⟨⟨d, hd⟩, -⟩ := hb
      exact decide_eq_true (hd.lt hx hab)) ⟨y, by omega, by rw [hTy, decide_eq_false (Nat.lt_irrefl t), Bool.and_false], decide_eq_true hy⟩
  have h2 : bcnt (fun u => decide (u < n)) 16 = n := by
    have e := bcnt_split (fun u => decide (u < n)) n (16 - n)
    rw [show n + (16 - n) = 16 by omega] at e
    have e1 : bcnt (fun i => decide (n + i < n)) (16 - n) = 0 := bcnt_none (fun i _ => decide_eq_false (by omega))
    have e2 : ∀ m, m ≤ n → bcnt (fun u => decide (u < n)) m = m := by
      intro m
      induction m with
      | zero => intro _; rfl
      | succ m ih =>
        intro hm
        have e3 : bcnt (fun u => decide (u < n)) (m + 1) = bcnt (fun u => decide (u < n)) m + (if decide (m < n) = true then 1 else 0) := rfl
        rw [e3, ih (by omega), decide_eq_true (show m < n by omega), if_pos rfl]
    have e4 := e2 n (Nat.le_refl n)
    omega
  have h3 : t < n := by omega
  refine ⟨t, ht, h3, fun inf hi => (key inf hi).2 16 ?_⟩
  have h4 := bcnt_le (fun u => pD (∃ d, Wk al a b w k x u d) && decide (Classical.choose (hch u) < t)) 16
  exact h4
end MIR
