/-! Going: the abstract state stays sound, the reference goes as it says -/
theorem SI.sb {N : Nat} {S : zS} (h : SI N S) (hN : N ≤ 60) : SB S := by
  obtain ⟨g1, g2, g3, g4, g5, g6⟩ := h
  refine ⟨by omega, fun c hc => ?_, fun i hi => ?_, fun c i hc hi => ?_⟩
  · obtain ⟨c1, c2, c3, c4, c5, c6, c7, c8, c9, c10, c11, c12, c13, c14, c15⟩ := g2 c hc
    refine ⟨by omega, c2, c3, ?_, by omega, by omega, c9⟩
    refine Nat.lt_pow_two_of_testBit (n := 8) (S 12 c) (fun i hi => ?_)
    cases e : (S 12 c).testBit i with
    | false => rfl
    | true => have := c6 i e; omega
  · have := g5 i hi; omega
  · obtain ⟨c1, c2, c3, c4, c5, -⟩ := g2 c hc
    have := c4 i hi; omega
theorem cOf_0 {S : zS} {l : Nat} : cOf S l = 0 ↔ ∀ c, c < S 20 2 → inn S l c = false := by
  unfold cOf
  rw [fsf_0]
  exact ⟨fun h c hc => h c (by omega) (by omega), fun h c _ hc => h c (by omega)⟩
theorem cOf_s {S : zS} {l c : Nat} (h : cOf S l = c + 1) : c < S 20 2 ∧ inn S l c = true := by
  have := fsf_s _ _ _ _ h
  exact ⟨by omega, this.2.2.1⟩
theorem cOf_at {N : Nat} {S : zS} (h : SI N S) {l c : Nat} (hc : c < S 20 2) (hi : inn S l c = true) : cOf S l = c + 1 := by
  cases e : cOf S l with
  | zero => rw [cOf_0.mp e c hc] at hi; cases hi
  | succ d =>
    obtain ⟨h1, h2⟩ := cOf_s e
    rw [h.2.2.1 l d c h1 hc h2 hi]
theorem kAt_0 {S : zS} {l : Nat} : kAt S l = 0 ↔ ∀ c, c < S 20 2 → knk S l c = false := by
  unfold kAt
  constructor
  · intro h c hc
    rcases lsf_spec (knk S l) (S 20 2) 0 0 with ⟨-, g⟩ | ⟨d, g, _⟩
    · exact g c (by omega) (by omega)
    · omega
  · intro h
    rcases lsf_spec (knk S l) (S 20 2) 0 0 with ⟨g, -⟩ | ⟨d, g1, g2, g3, g4⟩
    · exact g
    · rw [h d (by omega)] at g4; cases g4
theorem kAt_s {S : zS} {l c : Nat} (h : kAt S l = c + 1) : c < S 20 2 ∧ knk S l c = true := by
  unfold kAt at h
  rcases lsf_spec (knk S l) (S 20 2) 0 0 with ⟨g, -⟩ | ⟨d, g1, g2, g3, g4⟩
  · omega
  · have : d = c := by omega
    subst this
    exact ⟨by omega, g4⟩
theorem kAt_at {N : Nat} {S : zS} (h : SI N S) {l c : Nat} (hc : c < S 20 2) (hi : knk S l c = true) : kAt S l = c + 1 := by
  cases e : kAt S l with
  | zero => rw [kAt_0.mp e c hc] at hi; cases hi
  | succ d =>
    obtain ⟨h1, h2⟩ := kAt_s e
    rw [h.2.2.2.1 l d c h1 hc h2 hi]
/-- the set of lines that ring: the line and its free sharers -/
theorem orf_bit (p : Nat → Bool) (v : Nat → Nat) : ∀ r i a l, (orf p v r i a).testBit l = true → a.testBit l = true ∨ ∃ j, i ≤ j ∧ j < i + r ∧ p j = true ∧ v j = l
  | 0, i, a, l, h => Or.inl h
  | r + 1, i, a, l, h => by
    rw [orf] at h
    rcases orf_bit p v r (i + 1) _ l h with g | ⟨j, g1, g2, g3, g4⟩
    · by_cases e : p i = true
      · rw [if_pos e, Nat.testBit_or, Bool.or_eq_true] at g
        rcases g with g | g
        · exact Or.inl g
        · rw [Nat.testBit_two_pow, decide_eq_true_eq] at g
          exact Or.inr ⟨i, by omega, by omega, e, g⟩
      · rw [if_neg e] at g; exact Or.inl g
    · exact Or.inr ⟨j, by omega, by omega, g3, g4⟩
theorem lns_bit {W S : zS} {c t l : Nat} (hW : WN W S) (ht : t < S 20 0) (hf : cOf S t = 0) (htc : t ≠ S 6 c) (h : (lnsS W S c t).testBit l = true) : l < S 20 0 ∧ l ≠ S 6 c ∧ cOf S l = 0 := by
  unfold lnsS at h
  rcases orf_bit _ _ _ _ _ _ h with g | ⟨j, g1, g2, g3, g4⟩
  · rw [Nat.testBit_two_pow, decide_eq_true_eq] at g
    subst g
    exact ⟨ht, htc, hf⟩
  · simp only [Bool.and_eq_true, beq_iff_eq, Bool.not_eq_true', beq_eq_false_iff_ne] at g3
    have := hW j (by omega)
    subst g4
    exact ⟨this.2, g3.2, g3.1.2⟩
theorem bck_20 {S : zS} {f t : Nat} : bckS S f t 20 0 = S 20 0 ∧ bckS S f t 20 2 = S 20 2 ∧ bckS S f t 20 3 = S 20 3 := by
  unfold bckS
  split
  · exact ⟨rfl, rfl, rfl⟩
  · simp [su_eq]
theorem bck_o {S : zS} {f t k i : Nat} (h17 : k ≠ 17) (h18 : k ≠ 18) (h20 : k ≠ 20) : bckS S f t k i = S k i := by
  unfold bckS
  split
  · rfl
  · rw [su_k h20, su_k h18, su_k h17]
theorem SI.bck {N : Nat} {S : zS} {f t : Nat} (h : SI N S) (hf : f < S 20 0) (ht : t < S 20 0) : SI N (bckS S f t) := by
  by_cases e : S 20 4 = 8 ∨ isBk S f t = true
  · unfold bckS; rw [if_pos e]; exact h
  · obtain ⟨b1, b2, b3⟩ := bck_20 (S := S) (f := f) (t := t)
    have hno : ∀ i, i < S 20 4 → S 17 i = f → S 18 i = t → False := by
      intro i hi h1 h2
      refine e (Or.inr ((anf_iff _ _ _ _).mpr (Or.inr ⟨i, by omega, by omega, by simp [h1, h2]⟩)))
    obtain ⟨g1, g2, g3, g4, g5, g6⟩ := h
    have b4 : bckS S f t 20 4 = S 20 4 + 1 := by unfold bckS; rw [if_neg e, su_s]
    have b17 : ∀ i, bckS S f t 17 i = if i = S 20 4 then f else S 17 i := by intro i; unfold bckS; rw [if_neg e, su_k (by decide), su_k (by decide), su_i]
    have b18 : ∀ i, bckS S f t 18 i = if i = S 20 4 then t else S 18 i := by intro i; unfold bckS; rw [if_neg e, su_k (by decide), su_i, su_k (by decide)]
    have h48 : S 20 4 ≠ 8 := fun g => e (Or.inl g)
    refine ⟨by rw [b1, b2, b3, b4]; omega, fun c hc => ?_, fun l c c' hc hc' i1 i2 => ?_, fun l c c' hc hc' i1 i2 => ?_, fun i hi => ?_, fun i j hi hj e1 e2 => ?_⟩
    · rw [b2] at hc
      have := g2 c hc
      unfold CI at this ⊢
      simp only [bck_o (S := S) (f := f) (t := t) (k := 6) (by decide) (by decide) (by decide), bck_o (S := S) (f := f) (t := t) (k := 7) (by decide) (by decide) (by decide), bck_o (S := S) (f := f) (t := t) (k := 9) (by decide) (by decide) (by decide), bck_o (S := S) (f := f) (t := t) (k := 10) (by decide) (by decide) (by decide), bck_o (S := S) (f := f) (t := t) (k := 11) (by decide) (by decide) (by decide), bck_o (S := S) (f := f) (t := t) (k := 12) (by decide) (by decide) (by decide), bck_o (S := S) (f := f) (t := t) (k := 13) (by decide) (by decide) (by decide), bck_o (S := S) (f := f) (t := t) (k := 14) (by decide) (by decide) (by decide), bck_o (S := S) (f := f) (t := t) (k := 15) (by decide) (by decide) (by decide), bck_o (S := S) (f := f) (t := t) (k := 16) (by decide) (by decide) (by decide), b1, b3]
      exact this
    · rw [b2] at hc hc'
      refine g3 l c c' hc hc' ?_ ?_
      · unfold inn at i1 ⊢; rw [bck_o (by decide) (by decide) (by decide), bck_o (by decide) (by decide) (by decide), bck_o (by decide) (by decide) (by decide), bck_o (by decide) (by decide) (by decide)] at i1; exact i1
      · unfold inn at i2 ⊢; rw [bck_o (by decide) (by decide) (by decide), bck_o (by decide) (by decide) (by decide), bck_o (by decide) (by decide) (by decide), bck_o (by decide) (by decide) (by decide)] at i2; exact i2
    · rw [b2] at hc hc'
      refine g4 l c c' hc hc' ?_ ?_
      · unfold knk at i1 ⊢; rw [bck_o (by decide) (by decide) (by decide), bck_o (by decide) (by decide) (by decide)] at i1; exact i1
      · unfold knk at i2 ⊢; rw [bck_o (by decide) (by decide) (by decide), bck_o (by decide) (by decide) (by decide)] at i2; exact i2
    · rw [b4] at hi
      rw [b17, b18, b1]
      by_cases ei : i = S 20 4
      · rw [if_pos ei, if_pos ei]; exact ⟨hf, ht⟩
      · rw [if_neg ei, if_neg ei]; exact g5 i (by omega)
    · rw [b4] at hi hj
      rw [b17, b17] at e1
      rw [b18, b18] at e2
      by_cases ei : i = S 20 4 <;> by_cases ej : j = S 20 4
      · omega
      · rw [if_pos ei, if_neg ej] at e1 e2; exact (hno j (by omega) e1.symm e2.symm).elim
      · rw [if_neg ei, if_pos ej] at e1 e2; exact (hno i (by omega) e1 e2).elim
      · rw [if_neg ei, if_neg ej] at e1 e2; exact g6 i j (by omega) (by omega) e1 e2
/-- the same but for rows of calls, backs -/
def Cn (S S' : zS) : Prop := S' 20 0 = S 20 0 ∧ S' 20 2 = S 20 2 ∧ S' 20 3 = S 20 3 ∧ (∀ i, S' 6 i = S 6 i) ∧ ∀ i, S' 19 i = S 19 i
theorem Cn.rf {S : zS} : Cn S S := ⟨rfl, rfl, rfl, fun _ => rfl, fun _ => rfl⟩
theorem Cn.tr {S T U : zS} (h : Cn S T) (g : Cn T U) : Cn S U := ⟨g.1.trans h.1, g.2.1.trans h.2.1, g.2.2.1.trans h.2.2.1, fun i => (g.2.2.2.1 i).trans (h.2.2.2.1 i), fun i => (g.2.2.2.2 i).trans (h.2.2.2.2 i)⟩
theorem Sm.cn {S S' : zS} {c : Nat} (h : Sm S S' c) : Cn S S' := ⟨h.2.2.2.1 0, h.2.2.2.1 2, h.2.2.2.1 3, h.1, h.2.2.2.2.1⟩
theorem cn_bck {S : zS} {f t : Nat} : Cn S (bckS S f t) := ⟨bck_20.1, bck_20.2.1, bck_20.2.2, fun _ => bck_o (by decide) (by decide) (by decide), fun _ => bck_o (by decide) (by decide) (by decide)⟩
theorem WN.cn {W S S' : zS} (h : WN W S) (g : S' 20 0 = S 20 0) : WN W S' := fun w hw => by rw [g]; exact h w hw
theorem SI.arr {N : Nat} {W S : zS} {c t : Nat} (h : SI N S) (hW : WN W S) (hc : c < S 20 2) (ht : t < S 20 0) (hs : S 7 c ≠ 3) : SI N (arrS W S c t) ∧ Cn S (arrS W S c t) := by
  unfold arrS
  by_cases e : cOf S t = 0 ∧ t ≠ S 6 c
  · rw [if_pos e]
    refine ⟨h.rng hc (fun l hl => ?_) hs, sm_rng.cn⟩
    obtain ⟨a1, a2, a3⟩ := lns_bit hW ht e.1 e.2 hl
    exact ⟨a1, a2, fun b _ hb => cOf_0.mp a3 b hb⟩
  · rw [if_neg e]
    have h1 := h.fin (why := 3) hc
    have h6 := (h.2.1 c hc).1
    split
    · refine ⟨h1.bck (by rw [e_o S c 3 20 0 (by decide) (by decide) (by decide) (by decide)]; exact h6) (by rw [e_o S c 3 20 0 (by decide) (by decide) (by decide) (by decide)]; exact ht), sm_end.cn.tr cn_bck⟩
    · exact ⟨h1, sm_end.cn⟩
theorem acts_lt {W S : zS} {c t s w : Nat} (h : actsS W S c t s = w + 1) : w < W 6 0 ∧ W 0 w = t ∧ W 5 w ≠ 0 ∧ act1 W S c t s w = true := by
  obtain ⟨h1, h2, -⟩ := amin_s h
  rw [Bool.and_eq_true] at h2
  have := h2.1
  unfold onOf at this
  simp at this
  exact ⟨h1, this.2, this.1, h2.2⟩
theorem SI.go {N : Nat} {W : zS} (hWB : WB W) : ∀ (n : Nat) (S : zS) (c t s : Nat), SI N S → WN W S → c < S 20 2 → S 7 c = 0 → S 12 c = 0 → t < S 20 0 → s < S 20 0 → SI N (goS W n S c t s) ∧ Cn S (goS W n S c t s)
  | 0, S, c, t, s, h, hW, hc, h7, h12, ht, hs => ⟨h, Cn.rf⟩
  | n + 1, S, c, t, s, h, hW, hc, h7, h12, ht, hs => by
    rw [goS]
    by_cases e1 : inRow S c t = true ∨ (t = S 6 c ∧ 0 < S 9 c)
    · rw [if_pos e1]; exact ⟨h.fin hc, sm_end.cn⟩
    · rw [if_neg e1]
      have hr : inRow S c t = false := by
        cases e : inRow S c t with
        | false => rfl
        | true => exact absurd (Or.inl e) e1
      obtain ⟨h9, hcom⟩ := h.com (W := W) hc ht hs hr
      have k20 : ∀ i, comS W S c t s 20 i = S 20 i := fun i => c_o W S c t s 20 i (by decide) (by decide) (by decide)
      have k7 : comS W S c t s 7 c = 0 := by rw [c_o W S c t s 7 c (by decide) (by decide) (by decide)]; exact h7
      have k12 : comS W S c t s 12 c = 0 := by rw [c_o W S c t s 12 c (by decide) (by decide) (by decide)]; exact h12
      have hWc : WN W (comS W S c t s) := hW.cn (k20 0)
      have hcc : c < comS W S c t s 20 2 := by rw [k20]; exact hc
      have htc : t < comS W S c t s 20 0 := by rw [k20]; exact ht
      have hcn : Cn S (comS W S c t s) := (sm_com (by omega)).cn
      have k15 : comS W S c t s 15 c ≤ 2 * comS W S c t s 9 c := by
        have := (h.2.1 c hc).2.2.2.2.2.2.2.2.1
        rw [c_o W S c t s 15 c (by decide) (by decide) (by decide), c_9]; omega
      generalize comS W S c t s = T at *
      cases ea : actsS W T c t s with
      | zero =>
        rw [if_pos rfl]
        obtain ⟨a1, a2⟩ := hcom.arr hWc hcc htc (by omega)
        exact ⟨a1, hcn.tr a2⟩
      | succ w =>
        obtain ⟨w1, w2, w3, w4⟩ := acts_lt ea
        rw [if_neg (by omega)]
        simp only [Nat.add_sub_cancel]
        have hN := hcom.nte hcc (w := w) (by have := hWB.1; omega) k15
        have q20 : ∀ i, notS T c w 20 i = T 20 i := fun i => n_o T c w 20 i (by decide) (by decide)
        by_cases k2 : W 1 w = 2
        · rw [if_pos k2]
          exact ⟨hN.fin (by rw [q20]; exact hcc), hcn.tr (sm_not.cn.tr sm_end.cn)⟩
        · rw [if_neg k2]
          by_cases k4 : W 1 w = 4
          · rw [if_pos k4]
            unfold act1 at w4
            simp [k4] at w4
            refine ⟨hN.kno (by rw [q20]; exact hcc) (by rw [q20]; exact htc) (by rw [n_o T c w 6 c (by decide) (by decide)]; exact w4.1.2) ?_ (by rw [n_o T c w 7 c (by decide) (by decide)]; omega), hcn.tr (sm_not.cn.tr sm_kno.cn)⟩
            rw [kAt_0]
            intro b hb
            rw [q20] at hb
            have := kAt_0.mp w4.2 b hb
            unfold knk at this ⊢
            rw [n_o T c w 7 b (by decide) (by decide), n_o T c w 13 b (by decide) (by decide)]
            exact this
          · rw [if_neg k4]
            obtain ⟨a1, a2⟩ := SI.go hWB n (notS T c w) c (W 3 w) t hN (hWc.cn (q20 0)) (by rw [q20]; exact hcc) (by rw [n_o T c w 7 c (by decide) (by decide)]; exact k7) (by rw [n_o T c w 12 c (by decide) (by decide)]; exact k12) (by rw [q20]; exact (hWc w w1).2) (by rw [q20]; exact htc)
            exact ⟨a1, hcn.tr (sm_not.cn.tr a2)⟩
/-- other calls as they were, for R1 -/
def Ot (S S' : zS) (c : Nat) : Prop := ∀ b, b ≠ c → S' 7 b = S 7 b ∧ S' 9 b = S 9 b ∧ S' 15 b = S 15 b
theorem Ot.tr {S T U : zS} {c : Nat} (h : Ot S T c) (g : Ot T U c) : Ot S U c := fun b hb => ⟨(g b hb).1.trans (h b hb).1, (g b hb).2.1.trans (h b hb).2.1, (g b hb).2.2.trans (h b hb).2.2⟩
theorem Sm.ot {S S' : zS} {c : Nat} (h : Sm S S' c) : Ot S S' c := fun b hb => ⟨(h.2.2.2.2.2.1 b hb).1, (h.2.2.2.2.2.1 b hb).2.2.1, (h.2.2.2.2.2.1 b hb).2.2.2.2.2.2⟩
theorem ot_bck {S : zS} {f t c : Nat} : Ot S (bckS S f t) c := fun b _ => ⟨bck_o (by decide) (by decide) (by decide), bck_o (by decide) (by decide) (by decide), bck_o (by decide) (by decide) (by decide)⟩
theorem arr_ot {W S : zS} {c t : Nat} : Ot S (arrS W S c t) c ∧ arrS W S c t 9 c = S 9 c ∧ arrS W S c t 15 c = S 15 c := by
  unfold arrS
  split
  · exact ⟨sm_rng.ot, r_o _ _ _ _ _ (by decide) (by decide) (by decide) (by decide), r_o _ _ _ _ _ (by decide) (by decide) (by decide) (by decide)⟩
  · split
    · refine ⟨sm_end.ot.tr ot_bck, ?_, ?_⟩ <;> (rw [bck_o (by decide) (by decide) (by decide), e_o _ _ _ _ _ (by decide) (by decide) (by decide) (by decide)])
    · exact ⟨sm_end.ot, e_o _ _ _ _ _ (by decide) (by decide) (by decide) (by decide), e_o _ _ _ _ _ (by decide) (by decide) (by decide) (by decide)⟩
/-- behind a going: the call has ended, or has a row and acts that fit -/
theorem go_R1 {N : Nat} {W : zS} (hWB : WB W) : ∀ (n : Nat) (S : zS) (c t s : Nat), SI N S → WN W S → c < S 20 2 → S 7 c = 0 → S 12 c = 0 → t < S 20 0 → s < S 20 0 → 9 ≤ n + S 9 c → Ot S (goS W n S c t s) c ∧ (goS W n S c t s 7 c ≠ 3 → 1 ≤ goS W n S c t s 9 c ∧ goS W n S c t s 15 c ≤ 2 * goS W n S c t s 9 c)
  | 0, S, c, t, s, h, hW, hc, h7, h12, ht, hs, hf => by
    have := (h.2.1 c hc).2.2.1
    omega
  | n + 1, S, c, t, s, h, hW, hc, h7, h12, ht, hs, hf => by
    rw [goS]
    by_cases e1 : inRow S c t = true ∨ (t = S 6 c ∧ 0 < S 9 c)
    · rw [if_pos e1]; exact ⟨sm_end.ot, fun g => absurd (e_v S c 2).1 g⟩
    · rw [if_neg e1]
      have hr : inRow S c t = false := by
        cases e : inRow S c t with
        | false => rfl
        | true => exact absurd (Or.inl e) e1
      obtain ⟨h9, hcom⟩ := h.com (W := W) hc ht hs hr
      have k20 : ∀ i, comS W S c t s 20 i = S 20 i := fun i => c_o W S c t s 20 i (by decide) (by decide) (by decide)
      have k7 : comS W S c t s 7 c = 0 := by rw [c_o W S c t s 7 c (by decide) (by decide) (by decide)]; exact h7
      have k12 : comS W S c t s 12 c = 0 := by rw [c_o W S c t s 12 c (by decide) (by decide) (by decide)]; exact h12
      have hWc : WN W (comS W S c t s) := hW.cn (k20 0)
      have hcc : c < comS W S c t s 20 2 := by rw [k20]; exact hc
      have htc : t < comS W S c t s 20 0 := by rw [k20]; exact ht
      have hot : Ot S (comS W S c t s) c := (sm_com (by omega)).ot
      have k15 : comS W S c t s 15 c + 1 ≤ 2 * comS W S c t s 9 c := by
        have := (h.2.1 c hc).2.2.2.2.2.2.2.2.1
        rw [c_o W S c t s 15 c (by decide) (by decide) (by decide), c_9]; omega
      have k9 : comS W S c t s 9 c = S 9 c + 1 := c_9 W S c t s
      generalize comS W S c t s = T at *
      cases ea : actsS W T c t s with
      | zero =>
        rw [if_pos rfl]
        obtain ⟨a1, a2, a3⟩ := arr_ot (W := W) (S := T) (c := c) (t := t)
        exact ⟨hot.tr a1, fun _ => by rw [a2, a3]; omega⟩
      | succ w =>
        obtain ⟨w1, w2, w3, w4⟩ := acts_lt ea
        rw [if_neg (by omega)]
        simp only [Nat.add_sub_cancel]
        have hN := hcom.nte hcc (w := w) (by have := hWB.1; omega) (by omega)
        have q20 : ∀ i, notS T c w 20 i = T 20 i := fun i => n_o T c w 20 i (by decide) (by decide)
        by_cases k2 : W 1 w = 2
        · rw [if_pos k2]
          exact ⟨hot.tr (sm_not.ot.tr sm_end.ot), fun g => absurd (e_v (notS T c w) c 1).1 g⟩
        · rw [if_neg k2]
          by_cases k4 : W 1 w = 4
          · rw [if_pos k4]
            refine ⟨hot.tr (sm_not.ot.tr sm_kno.ot), fun _ => ?_⟩
            rw [k_o _ _ _ 9 c (by decide) (by decide) (by decide), k_o _ _ _ 15 c (by decide) (by decide) (by decide), n_v, n_o T c w 9 c (by decide) (by decide)]
            omega
          · rw [if_neg k4]
            obtain ⟨a1, a2⟩ := go_R1 hWB n (notS T c w) c (W 3 w) t hN (hWc.cn (q20 0)) (by rw [q20]; exact hcc) (by rw [n_o T c w 7 c (by decide) (by decide)]; exact k7) (by rw [n_o T c w 12 c (by decide) (by decide)]; exact k12) (by rw [q20]; exact (hWc w w1).2) (by rw [q20]; exact htc) (by rw [n_o T c w 9 c (by decide) (by decide)]; omega)
            exact ⟨hot.tr (sm_not.ot.tr a1), a2⟩
section MGO
variable {LN : Nat → Nat} {RF : Nat → Nat → Nat} {m : Nat} {M : gk_M} {W S : zS}
theorem or256 {a l : Nat} (ha : a < 256) (hl : l < 8) : a ||| 2 ^ l < 256 := Nat.or_lt_two_pow (n := 8) ha (Nat.pow_lt_pow_right (by omega) hl)
theorem lp_arr25_s (hL : mL LN RF m) (h : MR m M W S) (hW : WB W) (hS : SB S) {c t : Nat} (hc : c < S 20 2) (ht : t < 8) {K : Int32 → Option gk_M} : ∀ r n w a, w + r = W 6 0 → a < 256 → r < n → lp_X8_arrives_25 LN RF m (nI c) (nI t) M K n (nI a, nI w) = K (nI (orf (fun w => (W 0 w == t && W 1 w == 6 && W 5 w == 1) && cOf S (W 3 w) == 0 && !(W 3 w == S 6 c)) (fun w => W 3 w) r w a))
  | r, 0, w, _, _, _, g => absurd g (by omega)
  | 0, n + 1, w, a, g1, ga, g2 => by
    rw [lp_X8_arrives_25, mr_W hL h, if_pos (nI_le (by omega) (by have := hW.1; omega))]; rfl
  | r + 1, n + 1, w, a, g1, ga, g2 => by
    have hn := hW.1
    have hb := hW.2 w (by omega)
    have hs1 := hS.1
    have hbc := hS.2.1 c hc
    have ih := fun a' h' => lp_arr25_s hL h hW hS hc ht (K := K) r n (w + 1) a' (by omega) h' (by omega)
    rw [lp_X8_arrives_25, mr_W hL h, if_neg (nI_ge (by omega) (by omega)), mr_0 hL h (by omega)]
    simp only [gk_jn, nI_1, mr_1 hL h (show w < 24 by omega), mr_3 hL h (show w < 24 by omega), mr_5 hL h (show w < 24 by omega), mr_6 hL h (show c < 60 by omega), t_isFree hL h hS hb.2.2.2.1, Option.bind_some, bI_0, nI_eq (show W 0 w < 2 ^ 31 by omega) (show t < 2 ^ 31 by omega), nI_e6 (show W 1 w < 2 ^ 31 by omega), nI_e1 (show W 5 w < 2 ^ 31 by omega), nI_eq (show W 3 w < 2 ^ 31 by omega) (show S 6 c < 2 ^ 31 by omega), bit_or a ga _ hb.2.2.2.1, i10, i00, if_true, if_false]
    rw [orf]
    by_cases e1 : W 0 w = t
    · by_cases e2 : W 1 w = 6
      · by_cases e3 : W 5 w = 1
        · by_cases e4 : cOf S (W 3 w) = 0
          · by_cases e5 : W 3 w = S 6 c
            · rw [e5] at e4 ⊢
              simp only [e1, e2, e3, e4, if_true, if_false, beq_self_eq_true, Bool.and_self, Bool.and_true, Bool.not_true, Bool.and_false, Bool.false_eq_true, Bool.true_eq_false]; exact ih a ga
            · simp only [e1, e2, e3, e4, e5, if_true, if_false, beq_self_eq_true, Bool.and_self, Bool.and_true, beq_eq_false_iff_ne.mpr e5, Bool.not_false, Bool.true_eq_false]; exact ih _ (or256 ga hb.2.2.2.1)
          · simp only [e1, e2, e3, e4, if_true, if_false, beq_self_eq_true, Bool.and_self, beq_eq_false_iff_ne.mpr e4, Bool.and_false, Bool.false_and, Bool.false_eq_true]; exact ih a ga
        · simp only [e1, e2, e3, if_true, if_false, beq_self_eq_true, beq_eq_false_iff_ne.mpr e3, Bool.and_false, Bool.false_and, Bool.false_eq_true]; exact ih a ga
      · simp only [e1, e2, if_true, if_false, beq_self_eq_true, beq_eq_false_iff_ne.mpr e2, Bool.and_false, Bool.false_and, Bool.false_eq_true]; exact ih a ga
    · simp only [e1, if_false, beq_eq_false_iff_ne.mpr e1, Bool.false_and, Bool.false_eq_true]; exact ih a ga
theorem bck_stay {S : zS} {f t : Nat} (h : S 20 4 = 8 ∨ isBk S f t = true) : bckS S f t = S := by unfold bckS; rw [if_pos h]
theorem bck_idem {S : zS} {f t : Nat} (hn : S 20 4 ≤ 8) : bckS (bckS S f t) f t = bckS S f t := by
  by_cases e : S 20 4 = 8 ∨ isBk S f t = true
  · have : bckS S f t = S := by unfold bckS; rw [if_pos e]
    rw [this, this]
  · have b4 : bckS S f t 20 4 = S 20 4 + 1 := by unfold bckS; rw [if_neg e, su_s]
    have b17 : bckS S f t 17 (S 20 4) = f := by unfold bckS; rw [if_neg e, su_k (by decide), su_k (by decide), su_s]
    have b18 : bckS S f t 18 (S 20 4) = t := by unfold bckS; rw [if_neg e, su_k (by decide), su_s]
    have : isBk (bckS S f t) f t = true := (anf_iff _ _ _ _).mpr (Or.inr ⟨S 20 4, by omega, by rw [b4]; omega, by simp [b17, b18]⟩)
    exact bck_stay (Or.inr this)
theorem lp_arr145_s (hL : mL LN RF m) (hW : WB W) {c t : Nat} (hc : c < 60) (ht : t < 8) {K : gk_M → Option gk_M} : ∀ r n w (S : zS) (M : gk_M), MR m M W S → S 20 4 ≤ 8 → (∀ i, i < S 20 4 → S 17 i < 8 ∧ S 18 i < 8) → S 6 c < 8 → w + r = W 6 0 → r < n → ∃ M', lp_X8_arrives_145 LN RF m (nI c) (nI t) K n (nI w, M) = K M' ∧ MR m M' W (if anf (fun w => W 0 w == S 6 c && W 1 w == 5 && W 5 w == 1) r w false = true then bckS S (S 6 c) t else S) ∧ Fr m M M'
  | r, 0, w, _, _, _, _, _, _, _, g => absurd g (by omega)
  | 0, n + 1, w, S, M, h, hB, hB2, h6, g1, g2 => by
    refine ⟨M, ?_, ?_, Fr.rf⟩
    · rw [lp_X8_arrives_145, mr_W hL h, if_pos (nI_le (by omega) (by have := hW.1; omega))]
    · exact h
  | r + 1, n + 1, w, S, M, h, hB, hB2, h6, g1, g2 => by
    have hn := hW.1
    have hb := hW.2 w (by omega)
    rw [lp_X8_arrives_145]
    simp only [mr_W hL h, if_neg (nI_ge (show w < W 6 0 by omega) (show W 6 0 < 2 ^ 31 by omega)), gk_jn, nI_1, mr_0 hL h (show w < 24 by omega), mr_1 hL h (show w < 24 by omega), mr_5 hL h (show w < 24 by omega), mr_6 hL h hc, nI_eq (show W 0 w < 2 ^ 31 by omega) (show S 6 c < 2 ^ 31 by omega), nI_e5 (show W 1 w < 2 ^ 31 by omega), nI_e1 (show W 5 w < 2 ^ 31 by omega)]
    have no : (W 0 w == S 6 c && W 1 w == 5 && W 5 w == 1) = false → ∃ M', lp_X8_arrives_145 LN RF m (nI c) (nI t) K n (nI (w + 1), M) = K M' ∧ MR m M' W (if anf (fun w => W 0 w == S 6 c && W 1 w == 5 && W 5 w == 1) (r + 1) w false = true then bckS S (S 6 c) t else S) ∧ Fr m M M' := by
      intro hf
      rw [anf, hf, Bool.or_false]
      exact lp_arr145_s hL hW hc ht r n (w + 1) S M h hB hB2 h6 (by omega) (by omega)
    by_cases e1 : W 0 w = S 6 c
    · by_cases e2 : W 1 w = 5
      · by_cases e3 : W 5 w = 1
        · rw [if_pos e1, if_pos e2, if_pos e3]
          obtain ⟨M1, q1, q2, q3⟩ := t_wishesBack hL h hB hB2 h6 ht
          rw [q1]
          simp only [Option.bind_some]
          have hS1 : (bckS S (S 6 c) t) 20 4 ≤ 8 := by
            unfold bckS; split
            · exact hB
            · rename_i g; rw [su_s]; have : S 20 4 ≠ 8 := fun x => g (Or.inl x); omega
          have h6' : bckS S (S 6 c) t 6 c = S 6 c := bck_o (by decide) (by decide) (by decide)
          have hS2 : ∀ i, i < (bckS S (S 6 c) t) 20 4 → bckS S (S 6 c) t 17 i < 8 ∧ bckS S (S 6 c) t 18 i < 8 := by
            intro i hi
            by_cases g : S 20 4 = 8 ∨ isBk S (S 6 c) t = true
            · have : bckS S (S 6 c) t = S := by unfold bckS; rw [if_pos g]
              rw [this] at hi ⊢; exact hB2 i hi
            · unfold bckS at hi ⊢
              rw [if_neg g] at hi ⊢
              rw [su_s] at hi
              rw [su_k (by decide), su_k (by decide), su_i, su_k (by decide), su_i, su_k (by decide)]
              by_cases ei : i = S 20 4
              · rw [if_pos ei, if_pos ei]; exact ⟨h6, ht⟩
              · rw [if_neg ei, if_neg ei]; exact hB2 i (by omega)
          obtain ⟨M2, p1, p2, p3⟩ := lp_arr145_s hL hW hc ht (K := K) r n (w + 1) _ M1 q2 hS1 hS2 (by rw [h6']; exact h6) (by omega) (by omega)
          refine ⟨M2, p1, ?_, q3.tr p3⟩
          rw [h6', bck_idem hB] at p2
          have : anf (fun w => W 0 w == S 6 c && W 1 w == 5 && W 5 w == 1) (r + 1) w false = true := (anf_iff _ _ _ _).mpr (Or.inr ⟨w, by omega, by omega, by simp [e1, e2, e3]⟩)
          rw [this, if_pos rfl]
          split at p2 <;> exact p2
        · rw [if_pos e1, if_pos e2, if_neg e3]; exact no (by simp [e3])
      · rw [if_pos e1, if_neg e2]; exact no (by simp [e2])
    · rw [if_neg e1]; exact no (by simp [e1])
theorem t_arrives (hL : mL LN RF m) (h : MR m M W S) (hW : WB W) {N : Nat} (hN : N ≤ 60) (hI : SI N S) {c t : Nat} (hc : c < S 20 2) (ht : t < S 20 0) : ∃ M', f_X8_arrives LN RF m (nI c) (nI t) M = some M' ∧ MR m M' W (arrS W S c t) ∧ Fr m M M' := by
  have hS := hI.sb hN
  have hs1 := hS.1
  have hbc := hS.2.1 c hc
  unfold f_X8_arrives
  rw [t_isFree hL h hS (show t < 8 by omega)]
  simp only [Option.bind_some, gk_jn, bI_0, mr_6 hL h (show c < 60 by omega), nI_eq (show t < 2 ^ 31 by omega) (show S 6 c < 2 ^ 31 by omega), bit_1 t (show t < 8 by omega)]
  have hend : ∃ M', ((f_X8_ends LN RF m (nI c) 3 M).bind fun r24 => lp_X8_arrives_145 LN RF m (nI c) (nI t) (fun y25 => some y25) gk_fuel (0, r24)) = some M' ∧ MR m M' W (if hasW W (S 6 c) 5 = true then bckS (endS S c 3) (S 6 c) t else endS S c 3) ∧ Fr m M M' := by
    obtain ⟨M1, q1, q2, q3⟩ := t_ends hL h (c := c) (why := 3) (by omega)
    rw [show (3 : Int32) = nI 3 from rfl, q1]
    simp only [Option.bind_some]
    have e6 : endS S c 3 6 c = S 6 c := e_o _ _ _ _ _ (by decide) (by decide) (by decide) (by decide)
    obtain ⟨M2, p1, p2, p3⟩ := lp_arr145_s hL hW (show c < 60 by omega) (show t < 8 by omega) (K := fun y => some y) (W 6 0) gk_fuel 0 _ M1 q2 (by rw [e_o _ _ _ _ _ (by decide) (by decide) (by decide) (by decide)]; omega) (fun i hi => by rw [e_o _ _ _ _ _ (by decide) (by decide) (by decide) (by decide)] at hi; rw [e_o _ _ _ _ _ (by decide) (by decide) (by decide) (by decide), e_o _ _ _ _ _ (by decide) (by decide) (by decide) (by decide)]; exact hS.2.2.1 i hi) (by rw [e6]; omega) (by omega) (fuel_gt (by have := hW.1; omega))
    rw [e6] at p2
    exact ⟨M2, by rw [show (0 : Int32) = nI 0 from rfl, p1], p2, q3.tr p3⟩
  unfold arrS
  by_cases e1 : cOf S t = 0
  · by_cases e2 : t = S 6 c
    · rw [if_neg (show ¬ (cOf S t == 0) = false by simp [e1]), if_pos e2, if_neg (show ¬ (cOf S t = 0 ∧ t ≠ S 6 c) from fun g => g.2 e2)]; exact hend
    · rw [if_neg (show ¬ (cOf S t == 0) = false by simp [e1]), if_neg e2, if_pos ⟨e1, e2⟩, show (0 : Int32) = nI 0 from rfl, lp_arr25_s hL h hW hS hc (show t < 8 by omega) (W 6 0) gk_fuel 0 (2 ^ t) (by omega) (Nat.pow_lt_pow_right (n := 8) (by omega) (by omega)) (fuel_gt (by have := hW.1; omega))]
      obtain ⟨M1, q1, q2, q3⟩ := t_rings hL h (c := c) (ls := lnsS W S c t) (by omega)
      unfold lnsS at q1 q2 ⊢
      rw [q1]
      exact ⟨M1, rfl, q2, q3⟩
  · rw [if_pos (show (cOf S t == 0) = false by simp [e1]), if_neg (show ¬ (cOf S t = 0 ∧ t ≠ S 6 c) from fun g => e1 g.1)]; exact hend
end MGO
