/-! Every call keeps the joint invariant and answers alike -/
def LY (LN : Nat → Nat) (RF : Nat → Nat → Nat) (x m : Nat) : Prop := m = x + 284 ∧ xL LN RF x ∧ kL LN RF x ∧ sL LN RF x ∧ (RF x 3 = x + 277 ∧ bL LN RF (x + 277)) ∧ mL LN RF m
theorem TB.sheet {T : zS} {V : Nat → Int32} (h : TB T) (a1 a2 a3 : Int32) : TB (sheetR T V a1 a2 a3).2.2.1 := by
  have key : ∀ s k z, k ≤ 3 → z ≤ 40 → TB (layT T s k z) := fun s k z hk hz q hq => by
    have := h q hq
    unfold layT
    refine ⟨?_, ?_⟩
    · rw [su_k (by decide), su_i]; split <;> omega
    · rw [su_i]; split
      · exact hz
      · rw [su_k (by decide)]; exact this.2
  unfold sheetR
  split
  · exact h
  · split
    · exact key _ 0 0 (by omega) (by omega)
    · split
      · exact h
      · rename_i c1 c2 c3
        have e3 : isL 3 a2 = true := by cases g : isL 3 a2; exact absurd (Or.inl g) c3; rfl
        have e4 : isL 41 a3 = true := by cases g : isL 41 a3; exact absurd (Or.inr g) c3; rfl
        obtain ⟨q, hq, rfl⟩ := isL_s (by omega) e3
        obtain ⟨z, hz, rfl⟩ := isL_s (by omega) e4
        rw [tN_n (by omega), tN_n (by omega)]
        exact key _ _ _ (by omega) (by omega)
theorem TB.cell {T : zS} {V : Nat → Int32} (h : TB T) (a1 a2 a3 : Int32) : TB (cellR T V a1 a2 a3).2.2.1 := by
  unfold cellR
  split
  · exact h
  · split
    · exact h
    · split
      · exact h
      · exact h
section ST
variable {LN : Nat → Nat} {RF : Nat → Nat → Nat} {x m : Nat} {M : gk_M}
theorem j_line (hY : LY LN RF x m) (h : JJ x m M) : J2 x m (f_X7_line LN RF x M) (fun M => f_X8_line LN RF m M) := by
  obtain ⟨hm, yx, yk, ys, yb, ym⟩ := hY
  obtain ⟨⟨⟨W, S⟩, ⟨W', S'⟩, ⟨T, V⟩, l, ⟨J, c⟩, ⟨k, im, st⟩⟩, hV, hC, hR⟩ := h
  have v := hV.1
  exact J2.mk hm ⟨v.line, hV.2⟩ hR (JC.cw hV hC (c_line yx hC.1.1 hC.1.2 v.1 v.2.1)) (fun M1 h1 => JR.mw h1 (t_line ym h1.1 v.2.1))
theorem j_wish (hY : LY LN RF x m) (h : JJ x m M) (a1 a2 a3 a4 a5 : Int32) : J2 x m (f_X7_wish LN RF x a1 a2 a3 a4 a5 M) (fun M => f_X8_wish LN RF m a1 a2 a3 a4 a5 M) := by
  obtain ⟨hm, yx, yk, ys, yb, ym⟩ := hY
  obtain ⟨⟨⟨W, S⟩, ⟨W', S'⟩, ⟨T, V⟩, l, ⟨J, c⟩, ⟨k, im, st⟩⟩, hV, hC, hR⟩ := h
  have v := hV.1
  exact J2.mk hm ⟨v.wish a1 a2 a3 a4 a5, hV.2⟩ hR (JC.cw hV hC (c_wish yx hC.1.1 hC.1.2 v.1 v.2.1 a1 a2 a3 a4 a5)) (fun M1 h1 => JR.mw h1 (t_wish ym h1.1 v.1 v.2.1 a1 a2 a3 a4 a5))
theorem j_on (hY : LY LN RF x m) (h : JJ x m M) (a1 : Int32) (z : Bool) : J2 x m (f_X7_on LN RF x a1 (bI z) M) (fun M => f_X8_on LN RF m a1 (bI z) M) := by
  obtain ⟨hm, yx, yk, ys, yb, ym⟩ := hY
  obtain ⟨⟨⟨W, S⟩, ⟨W', S'⟩, ⟨T, V⟩, l, ⟨J, c⟩, ⟨k, im, st⟩⟩, hV, hC, hR⟩ := h
  have v := hV.1
  exact J2.mk hm ⟨v.on a1 z, hV.2⟩ hR (JC.cw hV hC (c_on yx hC.1.1 hC.1.2 v.1 a1 z)) (fun M1 h1 => JR.mw h1 (t_on ym h1.1 v.1 a1 z))
theorem j_rank (hY : LY LN RF x m) (h : JJ x m M) (a1 a2 : Int32) : J2 x m (f_X7_rank LN RF x a1 a2 M) (fun M => f_X8_rank LN RF m a1 a2 M) := by
  obtain ⟨hm, yx, yk, ys, yb, ym⟩ := hY
  obtain ⟨⟨⟨W, S⟩, ⟨W', S'⟩, ⟨T, V⟩, l, ⟨J, c⟩, ⟨k, im, st⟩⟩, hV, hC, hR⟩ := h
  have v := hV.1
  exact J2.mk hm ⟨v.rank a1 a2, hV.2⟩ hR (JC.cw hV hC (c_rank yx hC.1.1 hC.1.2 v.1 a1 a2)) (fun M1 h1 => JR.mw h1 (t_rank ym h1.1 v.1 a1 a2))
theorem j_dial (hY : LY LN RF x m) (h : JJ x m M) (a1 a2 : Int32) : J2 x m (f_X7_dial LN RF x a1 a2 M) (fun M => f_X8_dial LN RF m a1 a2 M) := by
  obtain ⟨hm, yx, yk, ys, yb, ym⟩ := hY
  obtain ⟨⟨⟨W, S⟩, ⟨W', S'⟩, ⟨T, V⟩, l, ⟨J, c⟩, ⟨k, im, st⟩⟩, hV, hC, hR⟩ := h
  have v := hV.1
  exact J2.mk hm ⟨v.dial a1 a2, hV.2⟩ hR (JC.cw hV hC ((c_dial yx v.1 hC.1.1 hC.1.2 v.2.1 v.2.2.2.2 a1 a2).w hC.1.2 v.1)) (fun M1 h1 => JR.mw h1 (t_dial ym v.1 h1.1 v.2.1 v.2.2.2.2 a1 a2).w)
theorem j_take (hY : LY LN RF x m) (h : JJ x m M) (a1 : Int32) : J2 x m (f_X7_take LN RF x a1 M) (fun M => f_X8_take LN RF m a1 M) := by
  obtain ⟨hm, yx, yk, ys, yb, ym⟩ := hY
  obtain ⟨⟨⟨W, S⟩, ⟨W', S'⟩, ⟨T, V⟩, l, ⟨J, c⟩, ⟨k, im, st⟩⟩, hV, hC, hR⟩ := h
  have v := hV.1
  exact J2.mk hm ⟨v.take a1, hV.2⟩ hR (JC.cw hV hC ((c_take yx hC.1.1 v.2.1 a1).w hC.1.2 v.1)) (fun M1 h1 => JR.mw h1 (t_take ym h1.1 v.2.1 a1).w)
theorem j_down (hY : LY LN RF x m) (h : JJ x m M) (a1 : Int32) : J2 x m (f_X7_down LN RF x a1 M) (fun M => f_X8_down LN RF m a1 M) := by
  obtain ⟨hm, yx, yk, ys, yb, ym⟩ := hY
  obtain ⟨⟨⟨W, S⟩, ⟨W', S'⟩, ⟨T, V⟩, l, ⟨J, c⟩, ⟨k, im, st⟩⟩, hV, hC, hR⟩ := h
  have v := hV.1
  exact J2.mk hm ⟨v.down a1, hV.2⟩ hR (JC.cw hV hC ((c_down yx hC.1.1 v.2.1 a1).w hC.1.2 v.1)) (fun M1 h1 => JR.mw h1 (t_down ym h1.1 v.2.1 a1).w)
theorem j_tick (hY : LY LN RF x m) (h : JJ x m M) : J2 x m (f_X7_tick LN RF x M) (fun M => f_X8_tick LN RF m M) := by
  obtain ⟨hm, yx, yk, ys, yb, ym⟩ := hY
  obtain ⟨⟨⟨W, S⟩, ⟨W', S'⟩, ⟨T, V⟩, l, ⟨J, c⟩, ⟨k, im, st⟩⟩, hV, hC, hR⟩ := h
  have v := hV.1
  exact J2.mk hm ⟨v.tick, hV.2⟩ hR (JC.cw hV hC ((c_tick yx v.1 hC.1.1 hC.1.2 v.2.1 v.2.2.1 v.2.2.2.1 v.2.2.2.2).w hC.1.2 v.1)) (fun M1 h1 => JR.mw h1 (t_tick ym v.1 h1.1 v.2.1 v.2.2.1 v.2.2.2.1 v.2.2.2.2).w)
theorem j_order (hY : LY LN RF x m) (h : JJ x m M) (a1 a2 a3 : Int32) : J2 x m (f_X7_order LN RF x a1 a2 a3 M) (fun M => f_X8_order LN RF m a1 a2 a3 M) := by
  obtain ⟨hm, yx, yk, ys, yb, ym⟩ := hY
  obtain ⟨⟨⟨W, S⟩, ⟨W', S'⟩, ⟨T, V⟩, l, ⟨J, c⟩, ⟨k, im, st⟩⟩, hV, hC, hR⟩ := h
  have v := hV.1
  exact J2.mk hm ⟨v.ord T V a1 a2 a3, hV.2⟩ hR (JC.cw hV hC (c_order yx ys hC.1.1 hC.1.2 v.1 v.2.1 hC.2.2.2.2.1 hV.2.2.1 a1 a2 a3)) (fun M1 h1 => JR.mw h1 (t_order ym h1.1 v.1 v.2.1 h1.2.2.2.2.1 hV.2.2.1 a1 a2 a3))
theorem j_sheet (hY : LY LN RF x m) (h : JJ x m M) (a1 a2 a3 : Int32) : J2 x m (f_X7_sheet LN RF x a1 a2 a3 M) (fun M => f_X8_sheet LN RF m a1 a2 a3 M) := by
  obtain ⟨hm, yx, yk, ys, yb, ym⟩ := hY
  obtain ⟨⟨⟨W, S⟩, ⟨W', S'⟩, ⟨T, V⟩, l, ⟨J, c⟩, ⟨k, im, st⟩⟩, hV, hC, hR⟩ := h
  exact J2.mk hm ⟨hV.1, hV.2.1, hV.2.2.1.sheet (V := V) a1 a2 a3, hV.2.2.2⟩ hR (JC.cs hV hC (c_sheet ys hC.2.2.2.2.1 a1 a2 a3)) (fun M1 h1 => JR.ms h1 (t_sheet ym h1.2.2.2.2.1 a1 a2 a3))
theorem j_cell (hY : LY LN RF x m) (h : JJ x m M) (a1 a2 a3 : Int32) : J2 x m (f_X7_cell LN RF x a1 a2 a3 M) (fun M => f_X8_cell LN RF m a1 a2 a3 M) := by
  obtain ⟨hm, yx, yk, ys, yb, ym⟩ := hY
  obtain ⟨⟨⟨W, S⟩, ⟨W', S'⟩, ⟨T, V⟩, l, ⟨J, c⟩, ⟨k, im, st⟩⟩, hV, hC, hR⟩ := h
  exact J2.mk hm ⟨hV.1, hV.2.1, hV.2.2.1.cell (V := V) a1 a2 a3, hV.2.2.2⟩ hR (JC.cs hV hC (c_cell ys hC.2.2.2.2.1 hV.2.2.1 a1 a2 a3)) (fun M1 h1 => JR.ms h1 (t_cell ym h1.2.2.2.2.1 hV.2.2.1 a1 a2 a3))
theorem j_forge (hY : LY LN RF x m) (h : JJ x m M) (a1 a2 a3 : Int32) : J2 x m (f_X7_forge LN RF x a1 a2 a3 M) (fun M => f_X8_forge LN RF m a1 a2 a3 M) := by
  obtain ⟨hm, yx, yk, ys, yb, ym⟩ := hY
  obtain ⟨⟨⟨W, S⟩, ⟨W', S'⟩, ⟨T, V⟩, l, ⟨J, c⟩, ⟨k, im, st⟩⟩, hV, hC, hR⟩ := h
  have v := hV.1
  obtain ⟨r, s, p1, p2⟩ := q_forge yx ys ym hC.1.2 hR.1 v.1 hC.2.2.2.2.1 hR.2.2.2.2.1 hV.2.2.1 a1 a2 a3
  refine J2.rf hm hV hC hR r s p1 (fun M1 h1 => ?_)
  obtain ⟨r', s', q1, q2⟩ := q_forge yx ys ym hC.1.2 h1.1 v.1 hC.2.2.2.2.1 h1.2.2.2.2.1 hV.2.2.1 a1 a2 a3
  have e := Option.some.inj (p1.symm.trans q1)
  have e1 : r = r' := congrArg Prod.fst e
  have e2 : gk_wr M x 9 s = gk_wr M x 9 s' := congrArg Prod.snd e
  have e3 : s = s' := by
    have := congrFun (congrFun (congrArg Prod.fst e2) x) 9
    rwa [wr_1, if_pos ⟨rfl, rfl⟩, wr_1, if_pos ⟨rfl, rfl⟩] at this
  rw [e1, e3]
  exact q2
theorem j_image (hY : LY LN RF x m) (h : JJ x m M) : J2 x m (f_X7_image LN RF x M) (fun M => f_X8_image LN RF m M) := by
  obtain ⟨hm, yx, yk, ys, yb, ym⟩ := hY
  obtain ⟨⟨⟨W, S⟩, ⟨W', S'⟩, ⟨T, V⟩, l, ⟨J, c⟩, ⟨k, im, st⟩⟩, hV, hC, hR⟩ := h
  have v := hV.1
  refine J2.mk (P' := ((W, S), (W, S), (T, V), l, (J, c), (k, true, 0))) (r := 1) hm ⟨v, fun _ => v, hV.2.2⟩ hR ?_ (fun M1 h1 => ?_)
  · obtain ⟨v1, v2, v3, v4, v5, v6⟩ := hV
    obtain ⟨⟨h1, h1b⟩, h2, ⟨h3, h4, h5, h6⟩, h7, h8, h9, h10⟩ := hC
    obtain ⟨M1, p1, p2, p3, p4, p5, p6, p7⟩ := c_image yx h1 h1b v.1 v.2.1
    have f1 : ∀ a, a ≠ x → (a < x + 94 ∨ x + 187 ≤ a) → M1.1 a = M.1 a := fun a g1 g2 => (p7 a g1 g2).1
    refine ⟨M1, p1, ⟨⟨h1.out2 (n := 60) v.2.1.1.2.1 (fun a ha => p7 a (by omega) (by omega)), h1b.out v.1 (fun a g1 g2 => f1 a (by omega) (by omega))⟩, fun _ => ⟨p2, p3⟩, ⟨by rw [p6 6 (by decide) (by decide)]; exact h3, p4, by rw [p6 8 (by decide) (by decide)]; exact h5, p5⟩, fun q hq => by rw [f1 _ (by omega) (by omega)]; exact h7 q hq, h8.out (fun a g1 g2 => f1 a (by omega) (by omega)), h9.fr (by rw [f1 _ (by omega) (by omega)]) (f1 _ (by omega) (by omega)), h10.fr (fun a ha i _ => by rw [f1 a (by omega) (by omega)]) (fun a g1 g2 => f1 a (by omega) (by omega))⟩, fun a ha => p7 a (by omega) (by omega)⟩
  · obtain ⟨g1, g2, ⟨g3, g4, g5, g6⟩, g7, g8, g9⟩ := h1
    obtain ⟨M2, p1, p2, p3, p4, p5, p6, p7⟩ := t_image ym g1
    have f1 : ∀ a, a ≠ m → a ≠ m + 22 → M2.1 a = M1.1 a := fun a q1 q2 => by funext j; exact p7 a j (fun g => q1 g.1) q2
    have fx : ∀ j, j ≠ 28 → j ≠ 23 → j ≠ 25 → M2.1 m j = M1.1 m j := fun j q1 q2 q3 => p7 m j (by omega) (by omega)
    exact ⟨M2, p1, ⟨p2, fun _ => p3, ⟨by rw [fx 33 (by decide) (by decide) (by decide)]; exact g3, p4, by rw [fx 24 (by decide) (by decide) (by decide)]; exact g5, p5⟩, fun q hq => by rw [f1 _ (by omega) (by omega)]; exact g7 q hq, g8.out (fun a q1 q2 => f1 a (by omega) (by omega)), g9.fr (fx 36 (by decide) (by decide) (by decide)) (f1 _ (by omega) (by omega))⟩, fun a ha => ⟨f1 a (by omega) (by omega), by rw [p6]⟩⟩
theorem j_restore (hY : LY LN RF x m) (h : JJ x m M) : J2 x m (f_X7_restore LN RF x M) (fun M => f_X8_restore LN RF m M) := by
  obtain ⟨hm, yx, yk, ys, yb, ym⟩ := hY
  obtain ⟨⟨⟨W, S⟩, ⟨W', S'⟩, ⟨T, V⟩, l, ⟨J, c⟩, ⟨k, im, st⟩⟩, hV, hC, hR⟩ := h
  have hk10 := hV.2.2.2.2.2
  by_cases hno : k = 10 ∨ im = false
  · refine J2.rf hm hV hC hR (-1) (if k = 10 then 2 else 3) (c_rest0 hC.2.2.1.2.2.1 hk10 ?_) (fun M1 h1 => t_rest0 h1.2.2.1.2.2.1 hk10 ?_)
    · rcases hno with g | g
      · exact Or.inl g
      · right; rw [hC.2.2.1.2.1, g]; rfl
    · rcases hno with g | g
      · exact Or.inl g
      · right; rw [h1.2.2.1.2.1, g]; rfl
  · have hk : k < 10 := by
      have := fun g => hno (Or.inl g)
      omega
    have him : im = true := by
      cases im with
      | true => rfl
      | false => exact absurd (Or.inr rfl) hno
    subst him
    have v := hV.2.1 rfl
    refine J2.mk (P' := ((W', S'), (W', S'), (T, V), l, (J, c), (k + 1, true, 0))) (r := nI (S' 20 3)) hm ⟨v, fun _ => v, hV.2.2.1, hV.2.2.2.1, hV.2.2.2.2.1, hk⟩ hR ?_ (fun M1 h1 => ?_)
    · obtain ⟨v1, v2, v3, v4, v5, v6⟩ := hV
      obtain ⟨⟨h1, h1b⟩, h2, ⟨h3, h4, h5, h6⟩, h7, h8, h9, h10⟩ := hC
      obtain ⟨M1, p1, p2, p3, p4, p5, p6, p7⟩ := c_restore yx (h2 rfl).1 (h2 rfl).2 v.1 v.2.1 h5 hk (by rw [h4]; decide)
      have f1 : ∀ a, a ≠ x → (a < x + 1 ∨ x + 94 ≤ a) → M1.1 a = M.1 a := fun a g1 g2 => (p7 a g1 g2).1
      refine ⟨M1, p1, ⟨⟨p2, p3⟩, fun _ => ⟨(h2 rfl).1.out2 (n := 60) v.2.1.1.2.1 (fun a ha => p7 a (by omega) (by omega)), (h2 rfl).2.out v.1 (fun a g1 g2 => f1 a (by omega) (by omega))⟩, ⟨by rw [p6 6 (by decide) (by decide)]; exact h3, by rw [p6 7 (by decide) (by decide)]; exact h4, p4, p5⟩, fun q hq => by rw [f1 _ (by omega) (by omega)]; exact h7 q hq, h8.out (fun a g1 g2 => f1 a (by omega) (by omega)), h9.fr (by rw [f1 _ (by omega) (by omega)]) (f1 _ (by omega) (by omega)), h10.fr (fun a ha i _ => by rw [f1 a (by omega) (by omega)]) (fun a g1 g2 => f1 a (by omega) (by omega))⟩, fun a ha => p7 a (by omega) (by omega)⟩
    · obtain ⟨g1, g2, ⟨g3, g4, g5, g6⟩, g7, g8, g9⟩ := h1
      obtain ⟨M2, p1, p2, p3, p4, p5, p6, p7⟩ := t_restore ym (g2 rfl) g5 hk (by rw [g4]; decide)
      have f1 : ∀ a, a ≠ m → (a ≤ m ∨ m + 22 ≤ a) → M2.1 a = M1.1 a := fun a q1 q2 => by funext j; exact p7 a j (fun g => q1 g.1) q2
      have fx : ∀ j, j ≠ 28 → j ≠ 24 → j ≠ 25 → M2.1 m j = M1.1 m j := fun j q1 q2 q3 => p7 m j (by omega) (by omega)
      exact ⟨M2, p1, ⟨p2, fun _ => p3, ⟨by rw [fx 33 (by decide) (by decide) (by decide)]; exact g3, by rw [fx 23 (by decide) (by decide) (by decide)]; exact g4, p4, p5⟩, fun q hq => by rw [f1 _ (by omega) (by omega)]; exact g7 q hq, g8.out (fun a q1 q2 => f1 a (by omega) (by omega)), g9.fr (fx 36 (by decide) (by decide) (by decide)) (f1 _ (by omega) (by omega))⟩, fun a ha => ⟨f1 a (by omega) (by omega), by rw [p6]⟩⟩
theorem j_judge (hY : LY LN RF x m) (h : JJ x m M) (a1 a2 a3 a4 a5 : Int32) : J2 x m (f_X7_judge LN RF x a1 a2 a3 a4 a5 M) (fun M => f_X8_judge LN RF m a1 a2 a3 a4 a5 M) := by
  obtain ⟨hm, yx, yk, ys, yb, ym⟩ := hY
  obtain ⟨⟨⟨W, S⟩, ⟨W', S'⟩, ⟨T, V⟩, l, ⟨J, c⟩, ⟨k, im, st⟩⟩, hV, hC, hR⟩ := h
  have v := hV.1
  cases hj : jok (S 20 0) a1 a2 a3 a4 a5 with
  | false =>
    refine J2.rf hm hV hC hR (-1) 1 ?_ (fun M1 h1 => ?_)
    · unfold f_X7_judge
      rw [c_isJudged yx hC.1.1 v.2.1, hj]; rfl
    · unfold f_X8_judge
      rw [t_isAsked ym h1.1 v.2.1, hj]; rfl
  | true =>
    obtain ⟨M1, l1, q0, p1, p2, p3, p4, p5, p6⟩ := c_judge yx yk hC.1.1 hC.1.2 v hC.2.2.2.2.2.2 a1 a2 a3 a4 a5 hj
    have hJ3 : jfn W S (tN a1) (tN a2) (tN a3) (tN a4) (tN a5) ≤ 3 := by
      rcases Nat.lt_or_ge (jfn W S (tN a1) (tN a2) (tN a3) (tN a4) (tN a5)) 4 with g | g
      · omega
      · have := (p5 3 (by omega)).1; omega
    refine J2.mk (P' := ((W, S), (W', S'), (T, V), l, (jfn W S (tN a1) (tN a2) (tN a3) (tN a4) (tN a5), fun q => nI (pck (tst W (fun i => l1.getD i 0) l1.length S (tN a1) (tN a2) (tN a3)) l1 (jfn W S (tN a1) (tN a2) (tN a3) (tN a4) (tN a5)) q)), (k, im, 0))) (r := nI (jfn W S (tN a1) (tN a2) (tN a3) (tN a4) (tN a5))) hm ⟨hV.1, hV.2.1, hV.2.2.1, hV.2.2.2.1, hJ3, hV.2.2.2.2.2⟩ hR ?_ (fun M2 h1 => ?_)
    · obtain ⟨v1, v2, v3, v4, v5, v6⟩ := hV
      obtain ⟨⟨h1, h1b⟩, h2, ⟨h3, h4, h5, h6⟩, h7, h8, h9, h10⟩ := hC
      have f1 : ∀ a, a ≠ x → (a < x + 187 ∨ x + 277 ≤ a) → a ≠ x + 283 → M1.1 a = M.1 a := fun a g1 g2 g3 => by funext j; exact (p6 a g2 g3).2 j (fun g => g1 g.1)
      have f2 : ∀ a, (a < x + 187 ∨ x + 277 ≤ a) → a ≠ x + 283 → M1.2 a = M.2 a := fun a g2 g3 => (p6 a g2 g3).1
      have fx : ∀ j, j ≠ 6 → j ≠ 9 → M1.1 x j = M.1 x j := fun j q1 q2 => (p6 x (by omega) (by omega)).2 j (by omega)
      refine ⟨M1, p1, ⟨⟨h1.out2 (n := 60) v1.2.1.1.2.1 (fun a ha => ⟨f1 a (by omega) (by omega) (by omega), f2 a (by omega) (by omega)⟩), h1b.out v1.1 (fun a g1 g2 => f1 a (by omega) (by omega) (by omega))⟩, fun g => ⟨(h2 g).1.out2 (n := 60) (v2 g).2.1.1.2.1 (fun a ha => ⟨f1 a (by omega) (by omega) (by omega), f2 a (by omega) (by omega)⟩), (h2 g).2.out (v2 g).1 (fun a g1 g2 => f1 a (by omega) (by omega) (by omega))⟩, ⟨p3, by rw [fx 7 (by decide) (by decide)]; exact h4, by rw [fx 8 (by decide) (by decide)]; exact h5, p4⟩, fun q hq => (p5 q hq).2, h8.out (fun a g1 g2 => f1 a (by omega) (by omega) (by omega)), h9.fr (by rw [f1 _ (by omega) (by omega) (by omega)]) (f1 _ (by omega) (by omega) (by omega)), p2⟩, fun a ha => ⟨f1 a (by omega) (by omega) (by omega), f2 a (by omega) (by omega)⟩⟩
    · obtain ⟨g1, g2, ⟨g3, g4, g5, g6⟩, g7, g8, g9⟩ := h1
      obtain ⟨M3, l2, q0', p1', p2', p3', p4', p5', p6', p7'⟩ := t_judge ym g1 v a1 a2 a3 a4 a5 hj
      rw [q0] at q0'
      cases q0'
      have f1 : ∀ a, a ≠ m → (a ≤ m ∨ m + 22 ≤ a) → (a < m + 23 ∨ m + 28 < a) → M3.1 a = M2.1 a := fun a q1 q2 q3 => by funext j; exact p7' a j q2 q3 (fun g => q1 g.1)
      have fx : ∀ j, j ≠ 25 → j ≠ 28 → j ≠ 32 → j ≠ 33 → M3.1 m j = M2.1 m j := fun j q1 q2 q3 q4 => p7' m j (by omega) (by omega) (by omega)
      exact ⟨M3, p1', ⟨p2', fun g => (g2 g).fr (f1 _ (by omega) (by omega) (by omega)), ⟨p3', by rw [fx 23 (by decide) (by decide) (by decide) (by decide)]; exact g4, by rw [fx 24 (by decide) (by decide) (by decide) (by decide)]; exact g5, p4'⟩, fun q hq => (p5' q hq).2, g8.out (fun a q1 q2 => f1 a (by omega) (by omega) (by omega)), g9.fr (fx 36 (by decide) (by decide) (by decide) (by decide)) (f1 _ (by omega) (by omega) (by omega))⟩, fun a ha => ⟨f1 a (by omega) (by omega) (by omega), by rw [p6']⟩⟩
theorem j_alone (hY : LY LN RF x m) (h : JJ x m M) (a1 a2 a3 a4 a5 : Int32) : J2 x m (f_X7_alone LN RF x a1 a2 a3 a4 a5 M) (fun M => f_X8_alone LN RF m a1 a2 a3 a4 a5 M) := by
  obtain ⟨hm, yx, yk, ys, yb, ym⟩ := hY
  obtain ⟨⟨⟨W, S⟩, ⟨W', S'⟩, ⟨T, V⟩, l, ⟨J, c⟩, ⟨k, im, st⟩⟩, hV, hC, hR⟩ := h
  have v := hV.1
  refine J2.mk hm hV hR ?_ (fun M2 h1 => ?_) (r := if jok (S 20 0) a1 a2 a3 a4 a5 = true then nN (alo W S (tN a1) (tN a2) (tN a3) (tN a4) (tN a5)) else -1)
  · obtain ⟨M1, p1, p2, p3⟩ := c_alone yx yk hC.1.1 hC.1.2 v hC.2.2.2.2.2.2 a1 a2 a3 a4 a5
    obtain ⟨v1, v2, v3, v4, v5, v6⟩ := hV
    obtain ⟨⟨h1, h1b⟩, h2, h3, h7, h8, h9, h10⟩ := hC
    have f1 : ∀ a, (a < x + 187 ∨ x + 277 ≤ a) → M1.1 a = M.1 a := fun a g2 => (p3 a g2).1
    exact ⟨M1, p1, ⟨⟨h1.out2 (n := 60) v1.2.1.1.2.1 (fun a ha => p3 a (by omega)), h1b.out v1.1 (fun a g1 g2 => f1 a (by omega))⟩, fun g => ⟨(h2 g).1.out2 (n := 60) (v2 g).2.1.1.2.1 (fun a ha => p3 a (by omega)), (h2 g).2.out (v2 g).1 (fun a g1 g2 => f1 a (by omega))⟩, by rw [f1 x (by omega)]; exact h3, fun q hq => by rw [f1 _ (by omega)]; exact h7 q hq, h8.out (fun a g1 g2 => f1 a (by omega)), h9.fr (by rw [f1 _ (by omega)]) (f1 _ (by omega)), p2⟩, fun a ha => p3 a (by omega)⟩
  · obtain ⟨g1, g2, ⟨g3, g4, g5, g6⟩, g7, g8, g9⟩ := h1
    obtain ⟨M3, p1, p2, p3, p4⟩ := t_alone ym g1 v a1 a2 a3 a4 a5
    have f1 : ∀ a, a ≠ m → (a ≤ m ∨ m + 22 ≤ a) → (a < m + 23 ∨ m + 27 < a) → a ≠ m + 29 → M3.1 a = M2.1 a := fun a q1 q2 q3 q4 => by funext j; exact p4 a j q2 q3 q4 (fun g => q1 g.1)
    have fx : ∀ j, j ≠ 28 → j ≠ 32 → M3.1 m j = M2.1 m j := fun j q1 q2 => p4 m j (by omega) (by omega) (by omega) (by omega)
    exact ⟨M3, p1, ⟨p2, fun g => (g2 g).fr (f1 _ (by omega) (by omega) (by omega) (by omega)), ⟨by rw [fx 33 (by decide) (by decide)]; exact g3, by rw [fx 23 (by decide) (by decide)]; exact g4, by rw [fx 24 (by decide) (by decide)]; exact g5, by rw [fx 25 (by decide) (by decide)]; exact g6⟩, fun q hq => by rw [f1 _ (by omega) (by omega) (by omega) (by omega)]; exact g7 q hq, g8.out (fun a q1 q2 => f1 a (by omega) (by omega) (by omega) (by omega)), g9.fr (fx 36 (by decide) (by decide)) (f1 _ (by omega) (by omega) (by omega) (by omega))⟩, fun a ha => ⟨f1 a (by omega) (by omega) (by omega) (by omega), by rw [p3]⟩⟩
theorem j_peace (hY : LY LN RF x m) (h : JJ x m M) (a0 a1 a2 a3 a4 a5 : Int32) : J2 x m (f_X7_peace LN RF x a0 a1 a2 a3 a4 a5 M) (fun M => f_X8_peace LN RF m a0 a1 a2 a3 a4 a5 M) := by
  obtain ⟨hm, yx, yk, ys, yb, ym⟩ := hY
  obtain ⟨⟨⟨W, S⟩, ⟨W', S'⟩, ⟨T, V⟩, l, ⟨J, c⟩, ⟨k, im, st⟩⟩, hV, hC, hR⟩ := h
  have v := hV.1
  refine J2.mk hm hV hR ?_ (fun M2 h1 => ?_) (r := if isL (W 6 0) a0 = true ∧ jok (S 20 0) a1 a2 a3 a4 a5 = true then nN (pea W S (tN a0) (tN a1) (tN a2) (tN a3) (tN a4) (tN a5)) else -1)
  · obtain ⟨M1, p1, p2, p3⟩ := c_peace yx yk hC.1.1 hC.1.2 v hC.2.2.2.2.2.2 a0 a1 a2 a3 a4 a5
    obtain ⟨v1, v2, v3, v4, v5, v6⟩ := hV
    obtain ⟨⟨h1, h1b⟩, h2, h3, h7, h8, h9, h10⟩ := hC
    have f1 : ∀ a, (a < x + 187 ∨ x + 277 ≤ a) → M1.1 a = M.1 a := fun a g2 => (p3 a g2).1
    exact ⟨M1, p1, ⟨⟨h1.out2 (n := 60) v1.2.1.1.2.1 (fun a ha => p3 a (by omega)), h1b.out v1.1 (fun a g1 g2 => f1 a (by omega))⟩, fun g => ⟨(h2 g).1.out2 (n := 60) (v2 g).2.1.1.2.1 (fun a ha => p3 a (by omega)), (h2 g).2.out (v2 g).1 (fun a g1 g2 => f1 a (by omega))⟩, by rw [f1 x (by omega)]; exact h3, fun q hq => by rw [f1 _ (by omega)]; exact h7 q hq, h8.out (fun a g1 g2 => f1 a (by omega)), h9.fr (by rw [f1 _ (by omega)]) (f1 _ (by omega)), p2⟩, fun a ha => p3 a (by omega)⟩
  · obtain ⟨g1, g2, ⟨g3, g4, g5, g6⟩, g7, g8, g9⟩ := h1
    obtain ⟨M3, p1, p2, p3, p4⟩ := t_peace ym g1 v a0 a1 a2 a3 a4 a5
    have f1 : ∀ a, a ≠ m → (a ≤ m ∨ m + 22 ≤ a) → (a < m + 23 ∨ m + 27 < a) → M3.1 a = M2.1 a := fun a q1 q2 q3 => by funext j; exact p4 a j q2 q3 (fun g => q1 g.1)
    have fx : ∀ j, j ≠ 28 → j ≠ 32 → M3.1 m j = M2.1 m j := fun j q1 q2 => p4 m j (by omega) (by omega) (by omega)
    exact ⟨M3, p1, ⟨p2, fun g => (g2 g).fr (f1 _ (by omega) (by omega) (by omega)), ⟨by rw [fx 33 (by decide) (by decide)]; exact g3, by rw [fx 23 (by decide) (by decide)]; exact g4, by rw [fx 24 (by decide) (by decide)]; exact g5, by rw [fx 25 (by decide) (by decide)]; exact g6⟩, fun q hq => by rw [f1 _ (by omega) (by omega) (by omega)]; exact g7 q hq, g8.out (fun a q1 q2 => f1 a (by omega) (by omega) (by omega)), g9.fr (fx 36 (by decide) (by decide)) (f1 _ (by omega) (by omega) (by omega))⟩, fun a ha => ⟨f1 a (by omega) (by omega) (by omega), by rw [p3]⟩⟩
theorem j_act (hY : LY LN RF x m) (h : JJ x m M) (a1 a2 a3 : Int32) : J2 x m (f_X7_act LN RF x a1 a2 a3 M) (fun M => f_X8_act LN RF m a1 a2 a3 M) := by
  obtain ⟨hm, yx, yk, ys, yb, ym⟩ := hY
  obtain ⟨⟨⟨W, S⟩, ⟨W', S'⟩, ⟨T, V⟩, l, ⟨J, c⟩, ⟨k, im, st⟩⟩, hV, hC, hR⟩ := h
  have v := hV.1
  by_cases hno : isL (W 6 0) a1 = false ∨ isL 4 a2 = false
  · refine J2.rf hm hV hC hR (-1) 1 ?_ (fun M1 h1 => ?_)
    · unfold f_X7_act
      rw [yx.1, yx.2.1.1.1, u_holds hC.1.2]
      simp only [Option.bind_some, gk_jn, bI_0, f7r]
      rcases hno with g | g
      · rw [if_pos g]
      · have hrg : ∀ A B : Option (Int32 × gk_M), (if a2 < 0 then A else if a2 ≤ 3 then B else A) = A := fun A B => by
          have := rg_if2 a2 4 A B
          rw [g, if_neg (show ¬ (false = true) by decide)] at this
          rw [← this]
          by_cases c1 : a2 < 0
          · rw [if_pos c1, if_pos c1]
          · rw [if_neg c1, if_neg c1]
            by_cases c2 : a2 ≤ 3
            · rw [if_pos c2, if_pos (Int32.lt_iff_toInt_lt.mpr (by have := Int32.le_iff_toInt_le.mp c2; rw [show (3 : Int32).toInt = 3 from rfl] at this; rw [nI_toInt (by omega)]; omega))]
            · rw [if_neg c2, if_neg (fun q => c2 (Int32.le_iff_toInt_le.mpr (by have := Int32.lt_iff_toInt_lt.mp q; rw [nI_toInt (by omega)] at this; rw [show (3 : Int32).toInt = 3 from rfl]; omega)))]
        rw [hrg, ite_self]
    · unfold f_X8_act
      rw [t_isWish ym h1.1, t_isInK (n := 4) _ rfl]
      simp only [Option.bind_some, gk_jn, bI_0, f8r]
      rcases hno with g | g
      · rw [if_pos g]
      · rw [if_pos g, ite_self]
  · have e1 : isL (W 6 0) a1 = true := by cases g : isL (W 6 0) a1; exact absurd (Or.inl g) hno; rfl
    have e2 : isL 4 a2 = true := by cases g : isL 4 a2; exact absurd (Or.inr g) hno; rfl
    refine J2.mk (P' := ((W, S), (W', S'), (T, V), (actS W (tN a1) (tN a2) a3).2, (J, c), (k, im, 0))) (r := (actS W (tN a1) (tN a2) a3).1) hm ⟨hV.1, hV.2.1, hV.2.2.1, act_l W (tN a1) (tN a2) a3, hV.2.2.2.2⟩ hR ?_ (fun M2 h1 => ?_)
    · obtain ⟨M1, p1, p2, p3, p4, p5⟩ := c_act yx yb hC.1.2 v.1 a1 a2 a3 e1 e2
      obtain ⟨v1, v2, v3, v4, v5, v6⟩ := hV
      obtain ⟨⟨h1, h1b⟩, h2, ⟨h3, h4, h5, h6⟩, h7, h8, h9, h10⟩ := hC
      have f1 : ∀ a, a ≠ x → a ≠ x + 277 → a ≠ x + 278 → M1.1 a = M.1 a := fun a g1 g2 g3 => by funext j; exact p5 a j g2 g3 (fun g => g1 g.1)
      have fx : ∀ j, j ≠ 9 → M1.1 x j = M.1 x j := fun j hj => p5 x j (by omega) (by omega) (fun g => hj g.2)
      exact ⟨M1, p1, ⟨⟨h1.out2 (n := 60) v1.2.1.1.2.1 (fun a ha => ⟨f1 a (by omega) (by omega) (by omega), by rw [p4]⟩), h1b.out v1.1 (fun a g1 g2 => f1 a (by omega) (by omega) (by omega))⟩, fun g => ⟨(h2 g).1.out2 (n := 60) (v2 g).2.1.1.2.1 (fun a ha => ⟨f1 a (by omega) (by omega) (by omega), by rw [p4]⟩), (h2 g).2.out (v2 g).1 (fun a g1 g2 => f1 a (by omega) (by omega) (by omega))⟩, ⟨by rw [fx 6 (by decide)]; exact h3, by rw [fx 7 (by decide)]; exact h4, by rw [fx 8 (by decide)]; exact h5, p3⟩, fun q hq => by rw [f1 _ (by omega) (by omega) (by omega)]; exact h7 q hq, h8.out (fun a g1 g2 => f1 a (by omega) (by omega) (by omega)), p2, h10.fr (fun a ha i _ => by rw [f1 a (by omega) (by omega) (by omega)]) (fun a g1 g2 => f1 a (by omega) (by omega) (by omega))⟩, fun a ha => ⟨f1 a (by omega) (by omega) (by omega), by rw [p4]⟩⟩
    · obtain ⟨g1, g2, ⟨g3, g4, g5, g6⟩, g7, g8, g9⟩ := h1
      obtain ⟨M3, p1, p2, p3, p4, p5⟩ := t_act ym g1 v.1 a1 a2 a3 e1 e2
      have f1 : ∀ a, a ≠ m → a ≠ m + 30 → M3.1 a = M2.1 a := fun a q1 q2 => by funext j; exact p5 a j q2 (fun g => q1 g.1)
      have fx : ∀ j, j ≠ 36 → j ≠ 25 → M3.1 m j = M2.1 m j := fun j q1 q2 => p5 m j (by omega) (by omega)
      exact ⟨M3, p1, ⟨MR_out g1 (fun a q1 q2 => f1 a (by omega) (by omega)), fun g => (g2 g).fr (f1 _ (by omega) (by omega)), ⟨by rw [fx 33 (by decide) (by decide)]; exact g3, by rw [fx 23 (by decide) (by decide)]; exact g4, by rw [fx 24 (by decide) (by decide)]; exact g5, p3⟩, fun q hq => by rw [f1 _ (by omega) (by omega)]; exact g7 q hq, g8.out (fun a q1 q2 => f1 a (by omega) (by omega)), p2⟩, fun a ha => ⟨f1 a (by omega) (by omega), by rw [p4]⟩⟩
/-- questions -/
theorem a_wishTold (hY : LY LN RF x m) (h : JJ x m M) (y z : Int32) : Ag (f_X7_wishTold LN RF x y z M) (f_X8_wishTold LN RF m y z M) := by
  obtain ⟨hm, yx, yk, ys, yb, ym⟩ := hY
  obtain ⟨⟨⟨W, S⟩, ⟨W', S'⟩, ⟨T, V⟩, l, ⟨J, c⟩, ⟨k, im, st⟩⟩, hV, hC, hR⟩ := h
  exact q_wishTold yx ym hC.1.2 hR.1 hV.1.1 y z
theorem a_lineTold (hY : LY LN RF x m) (h : JJ x m M) (y z : Int32) : Ag (f_X7_lineTold LN RF x y z M) (f_X8_lineTold LN RF m y z M) := by
  obtain ⟨hm, yx, yk, ys, yb, ym⟩ := hY
  obtain ⟨⟨⟨W, S⟩, ⟨W', S'⟩, ⟨T, V⟩, l, ⟨J, c⟩, ⟨k, im, st⟩⟩, hV, hC, hR⟩ := h
  exact q_lineTold yx ym hC.1.1 hC.1.2 hR.1 hV.1.1 hV.1.2.1 y z
theorem a_call (hY : LY LN RF x m) (h : JJ x m M) (y z : Int32) : Ag (f_X7_call LN RF x y z M) (f_X8_call LN RF m y z M) := by
  obtain ⟨hm, yx, yk, ys, yb, ym⟩ := hY
  obtain ⟨⟨⟨W, S⟩, ⟨W', S'⟩, ⟨T, V⟩, l, ⟨J, c⟩, ⟨k, im, st⟩⟩, hV, hC, hR⟩ := h
  exact q_call yx ym hC.1.1 hR.1 hV.1.2.1 y z
theorem a_row (hY : LY LN RF x m) (h : JJ x m M) (y z : Int32) : Ag (f_X7_row LN RF x y z M) (f_X8_row LN RF m y z M) := by
  obtain ⟨hm, yx, yk, ys, yb, ym⟩ := hY
  obtain ⟨⟨⟨W, S⟩, ⟨W', S'⟩, ⟨T, V⟩, l, ⟨J, c⟩, ⟨k, im, st⟩⟩, hV, hC, hR⟩ := h
  exact q_row yx ym hC.1.1 hR.1 hV.1.2.1 y z
theorem a_piece (hY : LY LN RF x m) (h : JJ x m M) (y z : Int32) : Ag (f_X7_piece LN RF x y z M) (f_X8_piece LN RF m y z M) := by
  obtain ⟨hm, yx, yk, ys, yb, ym⟩ := hY
  obtain ⟨⟨⟨W, S⟩, ⟨W', S'⟩, ⟨T, V⟩, l, ⟨J, c⟩, ⟨k, im, st⟩⟩, hV, hC, hR⟩ := h
  exact q_piece yx ym hC.1.1 hR.1 hV.1.2.1 y z
theorem a_acted (hY : LY LN RF x m) (h : JJ x m M) (y z : Int32) : Ag (f_X7_acted LN RF x y z M) (f_X8_acted LN RF m y z M) := by
  obtain ⟨hm, yx, yk, ys, yb, ym⟩ := hY
  obtain ⟨⟨⟨W, S⟩, ⟨W', S'⟩, ⟨T, V⟩, l, ⟨J, c⟩, ⟨k, im, st⟩⟩, hV, hC, hR⟩ := h
  exact q_acted yx ym hC.1.1 hR.1 hV.1.2.1 y z
theorem a_tells (hY : LY LN RF x m) (h : JJ x m M) (y z : Int32) : Ag (f_X7_tells LN RF x y z M) (f_X8_tells LN RF m y z M) := by
  obtain ⟨hm, yx, yk, ys, yb, ym⟩ := hY
  obtain ⟨⟨⟨W, S⟩, ⟨W', S'⟩, ⟨T, V⟩, l, ⟨J, c⟩, ⟨k, im, st⟩⟩, hV, hC, hR⟩ := h
  exact q_tells yx ym hC.1.1 hC.1.2 hR.1 hV.1.1 hV.1.2.1 y z
theorem a_backs (hY : LY LN RF x m) (h : JJ x m M) (y z : Int32) : Ag (f_X7_backs LN RF x y z M) (f_X8_backs LN RF m y z M) := by
  obtain ⟨hm, yx, yk, ys, yb, ym⟩ := hY
  obtain ⟨⟨⟨W, S⟩, ⟨W', S'⟩, ⟨T, V⟩, l, ⟨J, c⟩, ⟨k, im, st⟩⟩, hV, hC, hR⟩ := h
  exact q_backs yx ym hC.1.1 hR.1 hV.1.2.1 y z
theorem a_actOf (hY : LY LN RF x m) (h : JJ x m M) (y : Int32) : Ag (f_X7_actOf LN RF x y M) (f_X8_actOf LN RF m y M) := by
  obtain ⟨hm, yx, yk, ys, yb, ym⟩ := hY
  obtain ⟨⟨⟨W, S⟩, ⟨W', S'⟩, ⟨T, V⟩, l, ⟨J, c⟩, ⟨k, im, st⟩⟩, hV, hC, hR⟩ := h
  exact q_actOf ⟨yk.2.1, yk.2.2.1⟩ ym hV.2.2.2.2.1 hC.2.2.1.1 hR.2.2.1.1 (fun q hq => (hC.2.2.2.1 q hq).trans (hR.2.2.2.1 q hq).symm) y
theorem a_count (hY : LY LN RF x m) (h : JJ x m M) (y : Int32) : Ag (f_X7_count LN RF x y M) (f_X8_count LN RF m y M) := by
  obtain ⟨hm, yx, yk, ys, yb, ym⟩ := hY
  obtain ⟨⟨⟨W, S⟩, ⟨W', S'⟩, ⟨T, V⟩, l, ⟨J, c⟩, ⟨k, im, st⟩⟩, hV, hC, hR⟩ := h
  exact q_count yx ym hC.1.1 hC.1.2 hR.1 hV.1.2.1 (hC.2.2.1.1.trans hR.2.2.1.1.symm) (by rw [yb.1]; exact hC.2.2.2.2.2.1.1.trans hR.2.2.2.2.2.1.symm) y
theorem a_trace (hY : LY LN RF x m) (h : JJ x m M) (y : Int32) : Ag (f_X7_trace LN RF x y M) (f_X8_trace LN RF m y M) := by
  obtain ⟨hm, yx, yk, ys, yb, ym⟩ := hY
  obtain ⟨⟨⟨W, S⟩, ⟨W', S'⟩, ⟨T, V⟩, l, ⟨J, c⟩, ⟨k, im, st⟩⟩, hV, hC, hR⟩ := h
  exact q_trace yb ym hC.2.2.2.2.2.1 hR.2.2.2.2.2 hV.2.2.2.1 y
theorem a_status (h : JJ x m M) : Ag (f_X7_status LN RF x M) (f_X8_status LN RF m M) := by
  obtain ⟨⟨⟨W, S⟩, ⟨W', S'⟩, ⟨T, V⟩, l, ⟨J, c⟩, ⟨k, im, st⟩⟩, hV, hC, hR⟩ := h
  exact Ag.eq (hC.2.2.1.2.2.2.trans hR.2.2.1.2.2.2.symm)
end ST
