/-! The tick: costs, backs; the reference's tick -/
def E19 (S S' : zS) : Prop := ∀ k, k ≠ 19 → S' k = S k
theorem E19.inn {S S' : zS} (h : E19 S S') : inn S' = inn S := by
  funext l c; show Bool.and _ _ = Bool.and _ _; rw [h 7 (by decide), h 6 (by decide), h 12 (by decide), h 13 (by decide)]
theorem E19.knk {S S' : zS} (h : E19 S S') : knk S' = knk S := by
  funext l c; show Bool.and _ _ = Bool.and _ _; rw [h 7 (by decide), h 13 (by decide)]
theorem E19.si {N : Nat} {S S' : zS} (h : E19 S S') (g : SI N S) : SI N S' := by
  unfold SI CI at g ⊢
  rw [h.inn, h.knk, h 6 (by decide), h 7 (by decide), h 9 (by decide), h 10 (by decide), h 11 (by decide), h 12 (by decide), h 13 (by decide), h 14 (by decide), h 15 (by decide), h 16 (by decide), h 17 (by decide), h 18 (by decide), h 20 (by decide)]
  exact g
theorem E19.r1 {S S' : zS} (h : E19 S S') (g : R1 S) : R1 S' := by
  unfold R1 at g ⊢
  rw [h 7 (by decide), h 9 (by decide), h 15 (by decide), h 20 (by decide)]
  exact g
theorem E19.sd {S S' : zS} (h : E19 S S') (g : Sd S) : Sd S' := by
  unfold Sd kAt cOf at g ⊢
  rw [h.inn, h.knk, h 20 (by decide)]
  exact g
theorem E19.tr {S T U : zS} (h : E19 S T) (g : E19 T U) : E19 S U := fun k hk => (g k hk).trans (h k hk)
theorem e19_su {S : zS} {i v : Nat} : E19 S (su S 19 i v) := fun k hk => by funext j; exact su_k hk
theorem e19_pay (c : Nat) : ∀ (r i : Nat) (S : zS), E19 S (pay1 c r i S)
  | 0, _, _ => fun _ _ => rfl
  | r + 1, i, S => by rw [pay1]; exact e19_su.tr (e19_pay c r (i + 1) _)
theorem e19_chg : ∀ (r c : Nat) (S : zS), E19 S (chgS r c S)
  | 0, _, _ => fun _ _ => rfl
  | r + 1, c, S => by
    rw [chgS]
    refine E19.tr ?_ (e19_chg r (c + 1) _)
    split
    · exact e19_pay _ _ _ _
    · exact fun _ _ => rfl
theorem SI.tick {N : Nat} {S : zS} (h : SI N S) (ht : S 20 3 < 1000) : SI N (su S 20 3 (S 20 3 + 1)) := by
  have e : ∀ k, k ≠ 20 → su S 20 3 (S 20 3 + 1) k = S k := fun k hk => by funext i; exact su_k hk
  have e0 : su S 20 3 (S 20 3 + 1) 20 0 = S 20 0 := by rw [su_i]; rfl
  have e2 : su S 20 3 (S 20 3 + 1) 20 2 = S 20 2 := by rw [su_i]; rfl
  have e3 : su S 20 3 (S 20 3 + 1) 20 3 = S 20 3 + 1 := su_s
  have e4 : su S 20 3 (S 20 3 + 1) 20 4 = S 20 4 := by rw [su_i]; rfl
  have ei : inn (su S 20 3 (S 20 3 + 1)) = inn S := by funext l c; show Bool.and _ _ = Bool.and _ _; rw [e 7 (by decide), e 6 (by decide), e 12 (by decide), e 13 (by decide)]
  have ek : knk (su S 20 3 (S 20 3 + 1)) = knk S := by funext l c; show Bool.and _ _ = Bool.and _ _; rw [e 7 (by decide), e 13 (by decide)]
  obtain ⟨g1, g2, g3, g4, g5, g6⟩ := h
  unfold SI
  rw [ei, ek, e0, e2, e3, e4, e 17 (by decide), e 18 (by decide)]
  refine ⟨by omega, fun c hc => ?_, g3, g4, g5, g6⟩
  have := g2 c hc
  unfold CI at this ⊢
  rw [e0, e3, e 6 (by decide), e 7 (by decide), e 9 (by decide), e 10 (by decide), e 11 (by decide), e 12 (by decide), e 13 (by decide), e 14 (by decide), e 15 (by decide), e 16 (by decide)]
  obtain ⟨c1, c2, c3, c4, c5, c6, c7, c8, c9⟩ := this
  exact ⟨c1, c2, c3, c4, c5, c6, c7, by omega, c9⟩
theorem dr_o {S : zS} {p k i : Nat} (h17 : k ≠ 17) (h18 : k ≠ 18) (h20 : k ≠ 20) : drpS S p k i = S k i := by unfold drpS; simp [h17, h18, h20]
theorem dr_20 {S : zS} {p i : Nat} (hi : i ≠ 4) : drpS S p 20 i = S 20 i := by unfold drpS; simp [hi]
theorem dr_4 {S : zS} {p : Nat} : drpS S p 20 4 = S 20 4 - 1 := by unfold drpS; simp
theorem dr_b {S : zS} {p k i : Nat} (hk : k = 17 ∨ k = 18) : drpS S p k i = if p ≤ i ∧ i + 1 < S 20 4 then S k (i + 1) else S k i := by unfold drpS; rw [if_pos hk]
theorem dr_inn {S : zS} {p : Nat} : inn (drpS S p) = inn S := by funext l c; show Bool.and _ _ = Bool.and _ _; rw [dr_o (by decide) (by decide) (by decide), dr_o (by decide) (by decide) (by decide), dr_o (by decide) (by decide) (by decide), dr_o (by decide) (by decide) (by decide)]
theorem dr_knk {S : zS} {p : Nat} : knk (drpS S p) = knk S := by funext l c; show Bool.and _ _ = Bool.and _ _; rw [dr_o (by decide) (by decide) (by decide), dr_o (by decide) (by decide) (by decide)]
theorem dr_cOf {S : zS} {p l : Nat} : cOf (drpS S p) l = cOf S l := by unfold cOf; rw [dr_inn, dr_20 (by decide)]
theorem SI.drp {N : Nat} {S : zS} {p : Nat} (h : SI N S) (hp : p < S 20 4) : SI N (drpS S p) := by
  have e : ∀ k, k ≠ 17 → k ≠ 18 → k ≠ 20 → drpS S p k = S k := fun k h1 h2 h3 => by funext i; exact dr_o h1 h2 h3
  obtain ⟨g1, g2, g3, g4, g5, g6⟩ := h
  unfold SI
  rw [dr_inn, dr_knk, dr_20 (i := 0) (by decide), dr_20 (i := 2) (by decide), dr_20 (i := 3) (by decide), dr_4]
  refine ⟨by omega, fun c hc => ?_, g3, g4, fun i hi => ?_, fun i j hi hj e1 e2 => ?_⟩
  · have := g2 c hc
    unfold CI at this ⊢
    rw [dr_20 (i := 0) (by decide), dr_20 (i := 3) (by decide), e 6 (by decide) (by decide) (by decide), e 7 (by decide) (by decide) (by decide), e 9 (by decide) (by decide) (by decide), e 10 (by decide) (by decide) (by decide), e 11 (by decide) (by decide) (by decide), e 12 (by decide) (by decide) (by decide), e 13 (by decide) (by decide) (by decide), e 14 (by decide) (by decide) (by decide), e 15 (by decide) (by decide) (by decide), e 16 (by decide) (by decide) (by decide)]
    exact this
  · rw [dr_b (Or.inl rfl), dr_b (Or.inr rfl)]
    by_cases q : p ≤ i ∧ i + 1 < S 20 4
    · rw [if_pos q, if_pos q]; exact g5 (i + 1) (by omega)
    · rw [if_neg q, if_neg q]; exact g5 i (by omega)
  · rw [dr_b (Or.inl rfl), dr_b (Or.inl rfl)] at e1
    rw [dr_b (Or.inr rfl), dr_b (Or.inr rfl)] at e2
    by_cases q : p ≤ i ∧ i + 1 < S 20 4 <;> by_cases q' : p ≤ j ∧ j + 1 < S 20 4
    · rw [if_pos q, if_pos q'] at e1 e2; have := g6 _ _ (by omega) (by omega) e1 e2; omega
    · rw [if_pos q, if_neg q'] at e1 e2; have := g6 _ _ (by omega) (by omega) e1 e2; omega
    · rw [if_neg q, if_pos q'] at e1 e2; have := g6 _ _ (by omega) (by omega) e1 e2; omega
    · rw [if_neg q, if_neg q'] at e1 e2; exact g6 _ _ (by omega) (by omega) e1 e2
theorem R1.drp {S : zS} {p : Nat} (h : R1 S) : R1 (drpS S p) := by
  intro b hb hb7
  rw [dr_20 (by decide)] at hb
  rw [dr_o (by decide) (by decide) (by decide)] at hb7
  rw [dr_o (by decide) (by decide) (by decide), dr_o (by decide) (by decide) (by decide)]
  exact h b hb hb7
theorem dia_sd {N : Nat} {W S : zS} {l t : Nat} (hWB : WB W) (h : SI N S) (hW : WN W S) (hl : l < S 20 0) (ht : t < S 20 0) (hf : cOf S l = 0) (hn : S 20 2 < N) : Sd (diaS W S l t) ∧ Bk S (diaS W S l t) := by
  have h1 := h.new hl hf hn
  have e20 : newS S l 20 0 = S 20 0 := nw_20 (by decide)
  have ec := nw_c (S := S) (l := l)
  have hWn : WN W (newS S l) := hW.cn e20
  obtain ⟨a1, a2⟩ := SI.go hWB 9 (newS S l) (S 20 2) t l h1 hWn (by omega) (nw_0 (by omega)) (nw_0 (by omega)) (by omega) (by omega)
  obtain ⟨b1, b2⟩ := go_bk 9 (newS S l) (S 20 2) t l h1 (by omega) hWB hWn (by omega) (by omega)
  refine ⟨sett_sd a1, ?_⟩
  have hn : Bk S (newS S l) := ⟨by rw [nw_20 (by decide)]; exact Nat.le_refl _, fun i _ => ⟨nw_k (by omega), nw_k (by omega)⟩⟩
  exact (hn.tr b1).tr (bk_sets _ _ _)
theorem bk1_ok {N : Nat} {W S : zS} {p : Nat} (hWB : WB W) (h : SI N S) (hR : R1 S) (hW : WN W S) (hp : p < S 20 4) (hg : bkgS S N p = true) : SI N (bk1 W N S p) ∧ R1 (bk1 W N S p) ∧ Sd (bk1 W N S p) ∧ bk1 W N S p 20 0 = S 20 0 ∧ bk1 W N S p 20 2 = S 20 2 + 1 ∧ bk1 W N S p 20 3 = S 20 3 ∧ Bk (drpS S p) (bk1 W N S p) := by
  unfold bkgS at hg
  simp only [Bool.and_eq_true, beq_iff_eq, decide_eq_true_eq] at hg
  obtain ⟨b1, b2⟩ := h.2.2.2.2.1 p hp
  have h1 := h.drp hp
  have hWd : WN W (drpS S p) := hW.cn (dr_20 (by decide))
  have e0 : drpS S p 20 0 = S 20 0 := dr_20 (by decide)
  have e2 : drpS S p 20 2 = S 20 2 := dr_20 (by decide)
  have e3 : drpS S p 20 3 = S 20 3 := dr_20 (by decide)
  obtain ⟨c1, c2, c3, c4, c5, c6⟩ := dia_ok hWB h1 hR.drp hWd (l := S 17 p) (t := S 18 p) (by omega) (by omega) (by rw [dr_cOf]; exact hg.1.1) (by omega)
  obtain ⟨d1, d2⟩ := dia_sd hWB h1 hWd (l := S 17 p) (t := S 18 p) (by omega) (by omega) (by rw [dr_cOf]; exact hg.1.1) (by omega)
  exact ⟨c1, c2, d1, c3.trans e0, by unfold bk1; omega, c5.trans e3, d2⟩
theorem bka_ok {N : Nat} {W : zS} (hWB : WB W) : ∀ (r p : Nat) (S : zS), SI N S → R1 S → Sd S → WN W S → p + r ≤ S 20 4 → SI N (bkaS W N r p S) ∧ R1 (bkaS W N r p S) ∧ Sd (bkaS W N r p S) ∧ bkaS W N r p S 20 0 = S 20 0 ∧ bkaS W N r p S 20 3 = S 20 3
  | 0, p, S, h, hR, hD, hW, hp => ⟨h, hR, hD, rfl, rfl⟩
  | r + 1, p, S, h, hR, hD, hW, hp => by
    rw [bkaS]
    by_cases e : bkgS S N p = true
    · rw [if_pos e]
      obtain ⟨a1, a2, a3, a4, a5, a6, a7⟩ := bk1_ok hWB h hR hW (show p < S 20 4 by omega) e
      have h4 := a7.1
      rw [dr_4] at h4
      obtain ⟨b1, b2, b3, b4, b5⟩ := bka_ok hWB r p (bk1 W N S p) a1 a2 a3 (hW.cn a4) (by omega)
      exact ⟨b1, b2, b3, b4.trans a4, b5.trans a6⟩
    · rw [if_neg e]
      exact bka_ok hWB r (p + 1) S h hR hD hW (by omega)
def tk0 (S : zS) : zS := chgS (S 20 2) 0 (su S 20 3 (S 20 3 + 1))
theorem tk0_ok {N : Nat} {S : zS} (h : SI N S) (hR : R1 S) (hD : Sd S) (ht : S 20 3 < 1000) : SI N (tk0 S) ∧ R1 (tk0 S) ∧ Sd (tk0 S) ∧ tk0 S 20 0 = S 20 0 ∧ tk0 S 20 2 = S 20 2 ∧ tk0 S 20 3 = S 20 3 + 1 ∧ tk0 S 20 4 = S 20 4 ∧ Rg (tk0 S) 0 := by
  have e := e19_chg (S 20 2) 0 (su S 20 3 (S 20 3 + 1))
  have eu : ∀ k, k ≠ 20 → su S 20 3 (S 20 3 + 1) k = S k := fun k hk => by funext i; exact su_k hk
  have u0 : su S 20 3 (S 20 3 + 1) 20 0 = S 20 0 := by rw [su_i]; rfl
  have u2 : su S 20 3 (S 20 3 + 1) 20 2 = S 20 2 := by rw [su_i]; rfl
  have u3 : su S 20 3 (S 20 3 + 1) 20 3 = S 20 3 + 1 := su_s
  have u4 : su S 20 3 (S 20 3 + 1) 20 4 = S 20 4 := by rw [su_i]; rfl
  have e20 : tk0 S 20 = su S 20 3 (S 20 3 + 1) 20 := e 20 (by decide)
  have r1' : R1 (su S 20 3 (S 20 3 + 1)) := by
    unfold R1 at hR ⊢; rw [u2, eu 7 (by decide), eu 9 (by decide), eu 15 (by decide)]; exact hR
  have sd' : Sd (su S 20 3 (S 20 3 + 1)) := by
    unfold Sd kAt cOf at hD ⊢
    have ei : inn (su S 20 3 (S 20 3 + 1)) = inn S := by funext l c; show Bool.and _ _ = Bool.and _ _; rw [eu 7 (by decide), eu 6 (by decide), eu 12 (by decide), eu 13 (by decide)]
    have ek : knk (su S 20 3 (S 20 3 + 1)) = knk S := by funext l c; show Bool.and _ _ = Bool.and _ _; rw [eu 7 (by decide), eu 13 (by decide)]
    rw [u0, u2, ei, ek]; exact hD
  refine ⟨e.si (h.tick ht), e.r1 r1', e.sd sd', by rw [e20, u0], by rw [e20, u2], by rw [e20, u3], by rw [e20, u4], fun b _ hb => ?_⟩
  have e14 : tk0 S 14 = S 14 := (e 14 (by decide)).trans (eu 14 (by decide))
  rw [e20, u2] at hb
  rw [e14, e20, u3]
  have := (h.2.1 b hb).2.2.2.2.2.2.2.1
  omega
theorem tck_ok {N : Nat} {W S : zS} (hWB : WB W) (h : SI N S) (hR : R1 S) (hD : Sd S) (hW : WN W S) (ht : S 20 3 < 1000) : SI N (tckS W N S) ∧ R1 (tckS W N S) ∧ Sd (tckS W N S) ∧ tckS W N S 20 0 = S 20 0 ∧ tckS W N S 20 3 = S 20 3 + 1 := by
  obtain ⟨a1, a2, a3, a4, a5, a6, a7, a8⟩ := tk0_ok h hR hD ht
  obtain ⟨b1, b2, b3, b4, b5⟩ := rga_ok hWB (S 20 2) 0 (tk0 S) a1 a2 a3 (hW.cn a4) (by omega) a8
  obtain ⟨c1, c2, c3, c4, c5⟩ := bka_ok hWB (rgaS W (S 20 2) 0 (tk0 S) 20 4) 0 _ b1 b2 b3 (hW.cn (b4.1.trans a4)) (by omega)
  exact ⟨c1, c2, c3, c4.trans (b4.1.trans a4), c5.trans (b4.2.2.1.trans a6)⟩
