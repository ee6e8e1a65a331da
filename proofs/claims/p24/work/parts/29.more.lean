/-! A SQUARE LESS: the pieces that come to it (pure) -/
theorem bcnt_add {p q r : Nat → Bool} : ∀ {n : Nat}, (∀ i, i < n → (p i = true ↔ (q i = true ∨ r i = true)) ∧ ¬ (q i = true ∧ r i = true)) → bcnt p n = bcnt q n + bcnt r n
  | 0, _ => rfl
  | n + 1, h => by
    have h1 := bcnt_add (n := n) (fun i hi => h i (by omega))
    obtain ⟨h2, h3⟩ := h n (by omega)
    simp only [bcnt]
    rw [h1]
    cases hp : p n <;> cases hq : q n <;> cases hr : r n <;> simp_all <;> omega
theorem bcnt_uni {p : Nat → Bool} {u : Nat} : ∀ {n : Nat}, (∀ i, i < n → (p i = true ↔ i = u)) → bcnt p n = if u < n then 1 else 0
  | 0, _ => rfl
  | n + 1, h => by
    have h1 := bcnt_uni (n := n) (fun i hi => h i (by omega))
    have h2 := h n (by omega)
    simp only [bcnt]
    rw [h1]
    by_cases e : n = u
    · have e1 : p n = true := h2.mpr e
      rw [e1]
      simp only [if_true]
      rw [if_neg (show ¬ u < n by omega), if_pos (show u < n + 1 by omega)]
    · have e1 : p n = false := Bool.eq_false_iff.mpr (fun z => e (h2.mp z))
      rw [e1]
      simp only [Bool.false_eq_true, if_false]
      by_cases e2 : u < n
      · rw [if_pos e2, if_pos (show u < n + 1 by omega)]
      · rw [if_neg e2, if_neg (show ¬ u < n + 1 by omega)]
theorem bcnt_none {p : Nat → Bool} : ∀ {n : Nat}, (∀ i, i < n → p i = false) → bcnt p n = 0
  | 0, _ => rfl
  | n + 1, h => by
    simp only [bcnt]
    rw [bcnt_none (n := n) (fun i hi => h i (by omega)), h n (by omega)]
    rfl
theorem bcnt_some {p : Nat → Bool} {u : Nat} : ∀ {n : Nat}, u < n → p u = true → 0 < bcnt p n
  | 0, h, _ => absurd h (Nat.not_lt_zero u)
  | n + 1, h, hp => by
    simp only [bcnt]
    by_cases e : u = n
    · subst e; rw [hp]; simp
    · have h1 := bcnt_some (n := n) (show u < n by omega) hp
      omega
theorem pwM_b (g : Nat → Int32) (z : Int32) : ∀ n, pwM g z n = bcnt (fun t => !decide (nI t = z) && decide ((g t &&& ((nI 1 <<< (nI t &&& 31)) - nI 1)) = 0)) n
  | 0 => rfl
  | n + 1 => by
    have ih := pwM_b g z n
    simp only [pwM, bcnt]
    by_cases h1 : nI n = z
    · rw [if_neg (fun w => w.1 h1), if_neg (by simp [h1]), ih]; rfl
    · by_cases h2 : (g n &&& ((nI 1 <<< (nI n &&& 31)) - nI 1)) = 0
      · rw [if_pos ⟨h1, h2⟩, if_pos (by simp [h1, h2]), ih]
      · rw [if_neg (fun w => h2 w.2), if_neg (by simp [h2]), ih]; rfl
section MOR
variable {k n : Nat} {lo hi le en A : Nat → Int32}
abbrev CX (A : Nat → Int32) (k x : Nat) : Nat → Nat → Prop := Con (alM A (nI 0) (nI x)) (mlo A) (mhi A) k
theorem gx_iff (h : TwR k n lo hi le en A) {x q v : Nat} (hq : q < 16) (hv : v < 32) : bt (rsM A (nI 0) (nI x) k q) v = true ↔ CX A k x q v := rG_iff (a := mlo A) (b := mhi A) h.ab16 hq hv
theorem alx (h : TwR k n lo hi le en A) {x j : Nat} (hx : x < 16) (hj : j < k) : alM A (nI 0) (nI x) j = true ↔ ¬ mlo A j = x ∧ ¬ mhi A j = x := by
  obtain ⟨h1, h2⟩ := h.ab16 j hj
  have h3 := h.1.1
  rw [alM_x (by omega) (by omega) (by omega), cnt_0w (by omega)]
  simp
theorem CX_G (h : TwR k n lo hi le en A) {x q v : Nat} (hc : CX A k x q v) : CG A k q v := hc.cong (fun j hj _ => al0 h hj)
theorem CX_self (h : TwR k n lo hi le en A) {x v : Nat} (hx : x < 16) (hc : CX A k x x v) : v = x :=
  hc (fun v => v = x) rfl (fun j hj ha => by
    obtain ⟨h1, h2⟩ := (alx h hx hj).mp ha
    exact ⟨fun z => absurd z h1, fun z => absurd z h2⟩)
theorem CX_out (h : TwR k n lo hi le en A) {x t v : Nat} (hx : x < 16) (hn : ¬ CG A k x t) (hc : CG A k t v) : CX A k x t v :=
  hc (fun v => CX A k x t v) .rf (fun j hj ha => by
    by_cases e : ¬ mlo A j = x ∧ ¬ mhi A j = x
    · have ha2 := (alx h hx hj).mpr e
      exact ⟨fun z => .s1 hj ha2 z, fun z => .s2 hj ha2 z⟩
    · have e2 : mlo A j = x ∨ mhi A j = x := by
        rcases Nat.decEq (mlo A j) x with z | z
        · rcases Nat.decEq (mhi A j) x with w | w
          · exact absurd ⟨z, w⟩ e
          · exact Or.inr w
        · exact Or.inl z
      have hno1 : ¬ CX A k x t (mlo A j) := fun z => by
        have g := CX_G h z
        rcases e2 with e2 | e2
        · rw [e2] at g; exact hn g.sy
        · have g2 : CG A k t (mhi A j) := .s1 hj ha g
          rw [e2] at g2; exact hn g2.sy
      have hno2 : ¬ CX A k x t (mhi A j) := fun z => by
        have g := CX_G h z
        rcases e2 with e2 | e2
        · have g2 : CG A k t (mlo A j) := .s2 hj ha g
          rw [e2] at g2; exact hn g2.sy
        · rw [e2] at g; exact hn g.sy
      exact ⟨fun z => absurd z hno1, fun z => absurd z hno2⟩)
theorem gx_out (h : TwR k n lo hi le en A) {x t : Nat} (hx : x < 16) (ht : t < 16) (hn : ¬ CG A k x t) : rsM A (nI 0) (nI x) k t = rsM A (nI 0) (-6) k t := b_ext (fun i hi => b_iff (by
  rw [gx_iff h ht hi, g_iff h ht hi]
  exact ⟨CX_G h, CX_out h hx hn⟩))
/-- the sweep over the squares of x's piece but x -/
theorem mPw_inv (h : TwR k n lo hi le en A) {x : Nat} (hx : x < 16) {o : Int32} (ho : ∀ v, v < 32 → (bt o v = true ↔ CG A k x v ∧ ¬ v = x)) : ∀ q, q ≤ 16 → (∀ v, v < 32 → (bt (mPw (rsM A (nI 0) (nI x) k) o q).1 v = true ↔ bt o v = true ∧ ∀ t, t < q → bt (rsM A (nI 0) (nI x) k t) v = false)) ∧ (mPw (rsM A (nI 0) (nI x) k) o q).2 = bcnt (fun t => bt o t && decide ((rsM A (nI 0) (nI x) k t &&& ((nI 1 <<< (nI t &&& 31)) - nI 1)) = 0)) q
  | 0, _ => ⟨fun v _ => ⟨fun z => ⟨z, fun t ht => absurd ht (Nat.not_lt_zero t)⟩, fun z => z.1⟩, rfl⟩
  | q + 1, hq => by
    obtain ⟨ih, ic⟩ := mPw_inv h hx ho q (by omega)
    have hE := rsM_Eq h (nI 0) (nI x)
    have hst : cnt (mPw (rsM A (nI 0) (nI x) k) o q).1 (nI q) = true ↔ (bt o q = true ∧ (rsM A (nI 0) (nI x) k q &&& ((nI 1 <<< (nI q &&& 31)) - nI 1)) = 0) := by
      rw [cnt_bt (by omega), ih q (by omega)]
      have hl := lst_iff hE (show q < 16 by omega)
      exact ⟨fun z => ⟨z.1, hl.mpr z.2⟩, fun z => ⟨z.1, hl.mp z.2⟩⟩
    cases hc : cnt (mPw (rsM A (nI 0) (nI x) k) o q).1 (nI q) with
    | true =>
      rw [mPw_t hc]
      have hh := hst.mp hc
      refine ⟨fun v hv => ?_, ?_⟩
      · show bt ((mPw (rsM A (nI 0) (nI x) k) o q).1 &&& (rsM A (nI 0) (nI x) k q ^^^ (-1))) v = true ↔ _
        rw [b_and, bt_not hv, Bool.and_eq_true, ih v hv, Bool.not_eq_true']
        constructor
        · rintro ⟨⟨h1, h2⟩, h3⟩
          refine ⟨h1, fun t ht => ?_⟩
          by_cases e : t = q
          · subst e; exact h3
          · exact h2 t (by omega)
        · rintro ⟨h1, h2⟩
          exact ⟨⟨h1, fun t ht => h2 t (by omega)⟩, h2 q (by omega)⟩
      · show (mPw (rsM A (nI 0) (nI x) k) o q).2 + 1 = _
        simp only [bcnt]
        rw [ic, if_pos (by rw [Bool.and_eq_true, decide_eq_true_eq]; exact hh)]
    | false =>
      rw [mPw_f hc]
      have hh : ¬ (bt o q = true ∧ (rsM A (nI 0) (nI x) k q &&& ((nI 1 <<< (nI q &&& 31)) - nI 1)) = 0) := fun z => absurd (hc.symm.trans (hst.mpr z)) (by decide)
      refine ⟨fun v hv => ?_, ?_⟩
      · rw [ih v hv]
        constructor
        · rintro ⟨h1, h2⟩
          refine ⟨h1, fun t ht => ?_⟩
          by_cases e : t = q
          · subst e
            cases hb : bt (rsM A (nI 0) (nI x) k t) v with
            | false => rfl
            | true =>
              exfalso
              obtain ⟨g1, g2⟩ := (ho v hv).mp h1
              have g3 := (gx_iff h (show t < 16 by omega) hv).mp hb
              have hv16 := hE.lt (show t < 16 by omega) hv hb
              refine hh ⟨(ho t (by omega)).mpr ⟨g1.tr (CX_G h g3).sy, fun e2 => g2 ?_⟩, (lst_iff hE (show t < 16 by omega)).mpr (fun u hu => ?_)⟩
              · subst e2; exact CX_self h hx g3
              · cases hd : bt (rsM A (nI 0) (nI x) k u) t with
                | false => rfl
                | true =>
                  have g4 := (gx_iff h (show u < 16 by omega) (show t < 32 by omega)).mp hd
                  have g5 := (gx_iff h (show u < 16 by omega) hv).mpr (g4.tr g3)
                  exact absurd (g5.symm.trans (h2 u hu)) (by decide)
          · exact h2 t (by omega)
        · rintro ⟨h1, h2⟩
          exact ⟨h1, fun t ht => h2 t (by omega)⟩
      · simp only [bcnt]
        rw [ic, if_neg (by rw [Bool.and_eq_true, decide_eq_true_eq]; exact hh)]
        rfl
/-- both sides: how many pieces more without x -/
theorem mPr_eq (h : TwR k n lo hi le en A) {po : Nat → Int32} {x : Nat} (hx : x < n) (hpo : po x = rsM A (nI 0) (-6) k x) : mPr en po k n x = mpM A k n x := by
  have hn := h.1.2.2
  have hx16 : x < 16 := by omega
  have hg : rsC en (allR (nI k) &&& (rAt en (nI x) k ^^^ (-1))) k = rsM A (nI 0) (nI x) k := funext (fun q => rs_sq h hx16 q)
  have hE := rsM_Eq h (nI 0) (nI x)
  have hP := rsM_Eq h (nI 0) (-6)
  have ho : ∀ v, v < 32 → (bt (po x &&& ((nI 1 <<< (nI x &&& 31)) ^^^ (-1))) v = true ↔ CG A k x v ∧ ¬ v = x) := fun v hv => by
    rw [b_and, bt_not hv, hpo, bit_bt (by omega) hv, Bool.and_eq_true, g_iff h hx16 hv, Bool.not_eq_true', decide_eq_false_iff_not]
  rw [mPr, hg, mpM, piM]
  generalize hoe : po x &&& ((nI 1 <<< (nI x &&& 31)) ^^^ (-1)) = o at ho ⊢
  have hc := (mPw_inv h hx16 ho n hn).2
  generalize hce : (mPw (rsM A (nI 0) (nI x) k) o n).2 = c at hc ⊢
  -- the least of x's piece
  obtain ⟨l1, l2, l3⟩ := lwF_lst hP hx16 16 0 (Nat.zero_le x) (by omega) (fun t ht => absurd ht (Nat.not_lt_zero t))
  generalize lwF (rsM A (nI 0) (-6) k x) 0 16 = u at l1 l2 l3
  have e1 : bcnt (fun t => bt (rsM A (nI 0) (-6) k x) t && decide ((rsM A (nI 0) (-6) k t &&& ((nI 1 <<< (nI t &&& 31)) - nI 1)) = 0)) n = 1 := by
    rw [bcnt_uni (u := u) (fun i hi => ?_), if_pos (by omega)]
    rw [Bool.and_eq_true, decide_eq_true_eq]
    constructor
    · rintro ⟨g1, g2⟩
      exact lst_uni hP (by omega) (by omega) hx16 g2 l1 (hP.sym hx16 (by omega) g1) l2
    · rintro rfl
      exact ⟨hP.sym (by omega) hx16 l2, l1⟩
  have e2 : pwM (rsM A (nI 0) (-6) k) (-6) n = bcnt (fun t => !bt (rsM A (nI 0) (-6) k x) t && decide ((rsM A (nI 0) (-6) k t &&& ((nI 1 <<< (nI t &&& 31)) - nI 1)) = 0)) n + bcnt (fun t => bt (rsM A (nI 0) (-6) k x) t && decide ((rsM A (nI 0) (-6) k t &&& ((nI 1 <<< (nI t &&& 31)) - nI 1)) = 0)) n := by
    rw [pwM_b]
    refine bcnt_add (fun i hi => ?_)
    rw [decide_eq_false (nI_m6 i (by omega))]
    cases bt (rsM A (nI 0) (-6) k x) i <;> simp
  rw [e1] at e2
  have e3 : pwM (rsM A (nI 0) (nI x) k) (nI x) n = bcnt (fun t => !bt (rsM A (nI 0) (-6) k x) t && decide ((rsM A (nI 0) (-6) k t &&& ((nI 1 <<< (nI t &&& 31)) - nI 1)) = 0)) n + c := by
    rw [pwM_b, hc]
    refine bcnt_add (fun i hi => ?_)
    have hd : decide (nI i = nI x) = decide (i = x) := decide_eq_decide.mpr (nI_ij (by omega) (by omega))
    have hoi := ho i (by omega)
    have hgi := g_iff h hx16 (show i < 32 by omega)
    rw [hd]
    by_cases hq : CG A k x i
    · have hb := hgi.mpr hq
      by_cases ex : i = x
      · subst ex
        have hoo : bt o i = false := Bool.eq_false_iff.mpr (fun z => (hoi.mp z).2 rfl)
        simp [hb, hoo]
      · have hoo : bt o i = true := hoi.mpr ⟨hq, ex⟩
        simp [hb, hoo, ex]
    · have hb : bt (rsM A (nI 0) (-6) k x) i = false := Bool.eq_false_iff.mpr (fun z => hq (hgi.mp z))
      have hoo : bt o i = false := Bool.eq_false_iff.mpr (fun z => hq (hoi.mp z).1)
      have ex : ¬ i = x := fun z => hq (by rw [z]; exact .rf)
      have hgg := gx_out h hx16 (show i < 16 by omega) hq
      simp [hb, hoo, ex, hgg, Lst]
  generalize bcnt (fun t => !bt (rsM A (nI 0) (-6) k x) t && decide ((rsM A (nI 0) (-6) k t &&& ((nI 1 <<< (nI t &&& 31)) - nI 1)) = 0)) n = m at e2 e3
  have hp1 := pwM_le (rsM A (nI 0) (nI x) k) (nI x) n
  have hz : c = 0 ↔ rsM A (nI 0) (-6) k x = nI 1 <<< (nI x &&& 31) := by
    constructor
    · intro h0
      refine b_ext (fun v hv => b_iff ?_)
      rw [g_iff h hx16 hv, bit_bt (by omega) hv, decide_eq_true_eq]
      constructor
      · intro hq
        refine Classical.byContradiction fun ex => ?_
        have hv2 := hq.lt hx h.ab
        obtain ⟨m1, m2, m3⟩ := lwF_lst hE (show v < 16 by omega) 16 0 (Nat.zero_le v) (by omega) (fun t ht => absurd ht (Nat.not_lt_zero t))
        generalize lwF (rsM A (nI 0) (nI x) k v) 0 16 = w at m1 m2 m3
        have g1 := (gx_iff h (show w < 16 by omega) hv).mp m2
        have g2 : bt o w = true := (ho w (by omega)).mpr ⟨hq.tr (CX_G h g1).sy, fun e => ex (by subst e; exact CX_self h hx16 g1)⟩
        have g3 := bcnt_some (p := fun t => bt o t && decide ((rsM A (nI 0) (nI x) k t &&& ((nI 1 <<< (nI t &&& 31)) - nI 1)) = 0)) (u := w) (n := n) (by omega) (by rw [Bool.and_eq_true, decide_eq_true_eq]; exact ⟨g2, m1⟩)
        omega
      · rintro rfl; exact .rf
    · intro h0
      rw [hc]
      refine bcnt_none (fun i hi => ?_)
      have : bt o i = false := Bool.eq_false_iff.mpr (fun z => by
        obtain ⟨g1, g2⟩ := (ho i (by omega)).mp z
        have g3 := (g_iff h hx16 (show i < 32 by omega)).mpr g1
        rw [h0, bit_bt (by omega) (by omega), decide_eq_true_eq] at g3
        exact g2 g3)
      rw [this]; rfl
  rw [e2, e3]
  by_cases h0 : c = 0
  · rw [if_pos (hz.mp h0), h0, if_pos (by decide), pk_sub (by omega), Nat.add_sub_cancel, Nat.add_zero, pk_sub (by omega), Nat.sub_self]
  · rw [if_neg (fun z => h0 (hz.mpr z)), pk_sub (by omega), pk_sub (by omega), pk_sub (by omega), if_neg (nI_nlt (Nat.zero_le _) (by omega))]
    congr 1
    omega
end MOR
