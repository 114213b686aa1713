/-! The joint invariant: class and reference tell of one state -/
/-- wishes, house; those kept; sheets; the trace; the case; restores, whether there is an image, the status -/
abbrev PP : Type := (zS × zS) × (zS × zS) × (zS × (Nat → Int32)) × List Nat × (Nat × (Nat → Int32)) × (Nat × Bool × Int32)
def JV : PP → Prop
  | ((W, S), (W', S'), (T, _), l, (J, _), (k, im, _)) => IV W S ∧ (im = true → IV W' S') ∧ TB T ∧ l.length ≤ 20 ∧ J ≤ 3 ∧ k ≤ 10
def JC (x : Nat) (M : gk_M) : PP → Prop
  | ((W, S), (W', S'), (T, V), l, (J, c), (k, im, st)) => (HR (x + 1) 27 M S ∧ BR (x + 2) M W) ∧ (im = true → HR (x + 94) 27 M S' ∧ BR (x + 95) M W') ∧ (M.1 x 6 = nI J ∧ M.1 x 7 = bI im ∧ M.1 x 8 = nI k ∧ M.1 x 9 = st) ∧ (∀ q, q < J → M.1 (x + 283) q = c q) ∧ SR x M T V ∧ BT (x + 277) M l ∧ B0 (x + 217) 1 M
def JR (m : Nat) (M : gk_M) : PP → Prop
  | ((W, S), (W', S'), (T, V), l, (J, c), (k, im, st)) => MR m M W S ∧ (im = true → KR m M W' S') ∧ (M.1 m 33 = nI J ∧ M.1 m 23 = bI im ∧ M.1 m 24 = nI k ∧ M.1 m 25 = st) ∧ (∀ q, q < J → M.1 (m + 28) q = c q) ∧ TR m M T V ∧ MT m M l
def JJ (x m : Nat) (M : gk_M) : Prop := ∃ P, JV P ∧ JC x M P ∧ JR m M P
def OutC (x : Nat) (M M' : gk_M) : Prop := ∀ a, (a < x ∨ x + 284 ≤ a) → M'.1 a = M.1 a ∧ M'.2 a = M.2 a
def OutR (m : Nat) (M M' : gk_M) : Prop := ∀ a, a < m → M'.1 a = M.1 a ∧ M'.2 a = M.2 a
theorem KR.fr {m : Nat} {M M' : gk_M} {W S : zS} (h : KR m M W S) (he : M'.1 (m + 22) = M.1 (m + 22)) : KR m M' W S := by
  obtain ⟨M0, h1, h2⟩ := h
  exact ⟨M0, h1, fun k i hk hi => by rw [he]; exact h2 k i hk hi⟩
theorem BT.fr {b : Nat} {M M' : gk_M} {l : List Nat} (h : BT b M l) (h1 : M'.1 b 1 = M.1 b 1) (h2 : M'.1 (b + 1) = M.1 (b + 1)) : BT b M' l := by unfold BT; rw [h1, h2]; exact h
theorem MT.fr {b : Nat} {M M' : gk_M} {l : List Nat} (h : MT b M l) (h1 : M'.1 b 36 = M.1 b 36) (h2 : M'.1 (b + 30) = M.1 (b + 30)) : MT b M' l := by unfold MT; rw [h1, h2]; exact h
/-- what stays when other cells change -/
theorem JC.fr {x : Nat} {M M' : gk_M} {P : PP} (hV : JV P) (h : JC x M P) (he : ∀ a, x ≤ a → a < x + 284 → M'.1 a = M.1 a ∧ M'.2 a = M.2 a) : JC x M' P := by
  obtain ⟨⟨W, S⟩, ⟨W', S'⟩, ⟨T, V⟩, l, ⟨J, c⟩, ⟨k, im, st⟩⟩ := P
  obtain ⟨v1, v2, v3, v4, v5, v6⟩ := hV
  obtain ⟨⟨h1, h1b⟩, h2, ⟨h3, h4, h5, h6⟩, h7, h8, h9, h10⟩ := h
  refine ⟨⟨h1.out2 (n := 60) v1.2.1.1.2.1 (fun a ha => he a (by omega) (by omega)), h1b.out v1.1 (fun a g1 g2 => (he a (by omega) (by omega)).1)⟩, fun g => ⟨(h2 g).1.out2 (n := 60) (v2 g).2.1.1.2.1 (fun a ha => he a (by omega) (by omega)), (h2 g).2.out (v2 g).1 (fun a g1 g2 => (he a (by omega) (by omega)).1)⟩, ?_, fun q hq => by rw [(he (x + 283) (by omega) (by omega)).1]; exact h7 q hq, h8.out (fun a g1 g2 => (he a (by omega) (by omega)).1), h9.fr (by rw [(he (x + 277) (by omega) (by omega)).1]) (he (x + 277 + 1) (by omega) (by omega)).1, h10.fr (fun a ha i _ => by rw [(he a (by omega) (by omega)).1]) (fun a g1 g2 => (he a (by omega) (by omega)).1)⟩
  rw [(he x (by omega) (by omega)).1]
  exact ⟨h3, h4, h5, h6⟩
theorem JR.fr {m : Nat} {M M' : gk_M} {P : PP} (h : JR m M P) (he : ∀ a, m ≤ a → M'.1 a = M.1 a) : JR m M' P := by
  obtain ⟨⟨W, S⟩, ⟨W', S'⟩, ⟨T, V⟩, l, ⟨J, c⟩, ⟨k, im, st⟩⟩ := P
  obtain ⟨h1, h2, ⟨h3, h4, h5, h6⟩, h7, h8, h9⟩ := h
  refine ⟨MR_out h1 (fun a g1 g2 => he a (by omega)), fun g => (h2 g).fr (he _ (by omega)), ?_, fun q hq => by rw [he _ (by omega)]; exact h7 q hq, h8.out (fun a g1 g2 => he a (by omega)), h9.fr (by rw [he m (by omega)]) (he _ (by omega))⟩
  rw [he m (by omega)]
  exact ⟨h3, h4, h5, h6⟩
/-- one call on both sides -/
def J2 (x m : Nat) (o : Option (Int32 × gk_M)) (g : gk_M → Option (Int32 × gk_M)) : Prop := ∃ r M1 M2, o = some (r, M1) ∧ g M1 = some (r, M2) ∧ JJ x m M2
theorem J2.mk {x m : Nat} {M : gk_M} {P P' : PP} {o : Option (Int32 × gk_M)} {g : gk_M → Option (Int32 × gk_M)} {r : Int32} (hm : m = x + 284) (hP' : JV P') (hR : JR m M P) (c : ∃ M1, o = some (r, M1) ∧ JC x M1 P' ∧ OutC x M M1) (g' : ∀ M1, JR m M1 P → ∃ M2, g M1 = some (r, M2) ∧ JR m M2 P' ∧ OutR m M1 M2) : J2 x m o g := by
  obtain ⟨M1, c1, c2, c3⟩ := c
  obtain ⟨M2, g1, g2, g3⟩ := g' M1 (hR.fr (fun a ha => (c3 a (by omega)).1))
  exact ⟨r, M1, M2, c1, g1, P', hP', c2.fr hP' (fun a a1 a2 => g3 a (by omega)), g2⟩
section JN
variable {LN : Nat → Nat} {RF : Nat → Nat → Nat} {x m : Nat} {M : gk_M} {W S W' S' T : zS} {V c : Nat → Int32} {l : List Nat} {J k : Nat} {im : Bool} {sx : Int32}
theorem JC.cw {o : Option (Int32 × gk_M)} {R : Int32 × Nat × zS × zS} (hV : JV ((W, S), (W', S'), (T, V), l, (J, c), (k, im, sx))) (h : JC x M ((W, S), (W', S'), (T, V), l, (J, c), (k, im, sx))) (hc : CW x M o R) : ∃ M1, o = some (R.1, M1) ∧ JC x M1 ((R.2.2.1, R.2.2.2), (W', S'), (T, V), l, (J, c), (k, im, nI R.2.1)) ∧ OutC x M M1 := by
  obtain ⟨v1, v2, v3, v4, v5, v6⟩ := hV
  obtain ⟨⟨h1, h1b⟩, h2, ⟨h3, h4, h5, h6⟩, h7, h8, h9, h10⟩ := h
  obtain ⟨M1, c1, c2, c3, c4, c5⟩ := hc
  have f1 : ∀ a, (a < x ∨ x + 94 ≤ a) → M1.1 a = M.1 a := fun a ha => by funext j; exact (c5 a (by omega)).2 j (by omega)
  have f2 : ∀ a, (a < x ∨ x + 94 ≤ a) → M1.2 a = M.2 a := fun a ha => (c5 a (by omega)).1
  have fx : ∀ j, j ≠ 9 → M1.1 x j = M.1 x j := fun j hj => (c5 x (by omega)).2 j (fun g => hj g.2)
  refine ⟨M1, c1, ⟨⟨c2, c3⟩, fun g => ⟨(h2 g).1.out2 (n := 60) (v2 g).2.1.1.2.1 (fun a ha => ⟨f1 a (by omega), f2 a (by omega)⟩), (h2 g).2.out (v2 g).1 (fun a g1 g2 => f1 a (by omega))⟩, ⟨by rw [fx 6 (by decide)]; exact h3, by rw [fx 7 (by decide)]; exact h4, by rw [fx 8 (by decide)]; exact h5, c4⟩, fun q hq => by rw [f1 _ (by omega)]; exact h7 q hq, h8.out (fun a g1 g2 => f1 a (by omega)), h9.fr (by rw [f1 _ (by omega)]) (f1 _ (by omega)), h10.fr (fun a ha i _ => by rw [f1 a (by omega)]) (fun a g1 g2 => f1 a (by omega))⟩, fun a ha => ⟨f1 a (by omega), f2 a (by omega)⟩⟩
theorem JR.mw {o : Option (Int32 × gk_M)} {R : Int32 × Nat × zS × zS} (h : JR m M ((W, S), (W', S'), (T, V), l, (J, c), (k, im, sx))) (hc : MW m M o R) : ∃ M1, o = some (R.1, M1) ∧ JR m M1 ((R.2.2.1, R.2.2.2), (W', S'), (T, V), l, (J, c), (k, im, nI R.2.1)) ∧ OutR m M M1 := by
  obtain ⟨h1, h2, ⟨h3, h4, h5, h6⟩, h7, h8, h9⟩ := h
  obtain ⟨M1, c1, c2, c3, c4, c5⟩ := hc
  have f1 : ∀ a, (a < m ∨ m + 22 ≤ a) → a ≠ m + 24 → a ≠ m + 25 → M1.1 a = M.1 a := fun a ha q1 q2 => by funext j; exact c5 a j (by omega) q1 q2 (by omega)
  have fx : ∀ j, j ≠ 25 → M1.1 m j = M.1 m j := fun j hj => c5 m j (by omega) (by omega) (by omega) (fun g => hj g.2)
  refine ⟨M1, c1, ⟨c2, fun g => (h2 g).fr (f1 _ (by omega) (by omega) (by omega)), ⟨by rw [fx 33 (by decide)]; exact h3, by rw [fx 23 (by decide)]; exact h4, by rw [fx 24 (by decide)]; exact h5, c3⟩, fun q hq => by rw [f1 _ (by omega) (by omega) (by omega)]; exact h7 q hq, h8.out (fun a g1 g2 => f1 a (by omega) (by omega) (by omega)), h9.fr (fx 36 (by decide)) (f1 _ (by omega) (by omega) (by omega))⟩, fun a ha => ⟨f1 a (by omega) (by omega) (by omega), by rw [c4]⟩⟩
theorem JC.cs {o : Option (Int32 × gk_M)} {R : Int32 × Nat × zS × (Nat → Int32)} (hV : JV ((W, S), (W', S'), (T, V), l, (J, c), (k, im, sx))) (h : JC x M ((W, S), (W', S'), (T, V), l, (J, c), (k, im, sx))) (hc : CS x M o R) : ∃ M1, o = some (R.1, M1) ∧ JC x M1 ((W, S), (W', S'), (R.2.2.1, R.2.2.2), l, (J, c), (k, im, nI R.2.1)) ∧ OutC x M M1 := by
  obtain ⟨v1, v2, v3, v4, v5, v6⟩ := hV
  obtain ⟨⟨h1, h1b⟩, h2, ⟨h3, h4, h5, h6⟩, h7, h8, h9, h10⟩ := h
  obtain ⟨M1, c1, c2, c3, c4, c5⟩ := hc
  have f1 : ∀ a, a ≠ x → (a < x + 280 ∨ x + 282 < a) → M1.1 a = M.1 a := fun a hx ha => by funext j; exact c5 a j ha (fun g => hx g.1)
  have fx : ∀ j, j ≠ 9 → M1.1 x j = M.1 x j := fun j hj => c5 x j (by omega) (fun g => hj g.2)
  refine ⟨M1, c1, ⟨⟨h1.out2 (n := 60) v1.2.1.1.2.1 (fun a ha => ⟨f1 a (by omega) (by omega), by rw [c4]⟩), h1b.out v1.1 (fun a g1 g2 => f1 a (by omega) (by omega))⟩, fun g => ⟨(h2 g).1.out2 (n := 60) (v2 g).2.1.1.2.1 (fun a ha => ⟨f1 a (by omega) (by omega), by rw [c4]⟩), (h2 g).2.out (v2 g).1 (fun a g1 g2 => f1 a (by omega) (by omega))⟩, ⟨by rw [fx 6 (by decide)]; exact h3, by rw [fx 7 (by decide)]; exact h4, by rw [fx 8 (by decide)]; exact h5, c3⟩, fun q hq => by rw [f1 _ (by omega) (by omega)]; exact h7 q hq, c2, h9.fr (by rw [f1 _ (by omega) (by omega)]) (f1 _ (by omega) (by omega)), h10.fr (fun a ha i _ => by rw [f1 a (by omega) (by omega)]) (fun a g1 g2 => f1 a (by omega) (by omega))⟩, fun a ha => ⟨f1 a (by omega) (by omega), by rw [c4]⟩⟩
theorem JR.ms {o : Option (Int32 × gk_M)} {R : Int32 × Nat × zS × (Nat → Int32)} (h : JR m M ((W, S), (W', S'), (T, V), l, (J, c), (k, im, sx))) (hc : MS m M o R) : ∃ M1, o = some (R.1, M1) ∧ JR m M1 ((W, S), (W', S'), (R.2.2.1, R.2.2.2), l, (J, c), (k, im, nI R.2.1)) ∧ OutR m M M1 := by
  obtain ⟨h1, h2, ⟨h3, h4, h5, h6⟩, h7, h8, h9⟩ := h
  obtain ⟨M1, c1, c2, c3, c4, c5⟩ := hc
  have f1 : ∀ a, a ≠ m → (a < m + 31 ∨ m + 33 < a) → M1.1 a = M.1 a := fun a hx ha => by funext j; exact c5 a j ha (fun g => hx g.1)
  have fx : ∀ j, j ≠ 25 → M1.1 m j = M.1 m j := fun j hj => c5 m j (by omega) (fun g => hj g.2)
  refine ⟨M1, c1, ⟨MR_out h1 (fun a g1 g2 => f1 a (by omega) (by omega)), fun g => (h2 g).fr (f1 _ (by omega) (by omega)), ⟨by rw [fx 33 (by decide)]; exact h3, by rw [fx 23 (by decide)]; exact h4, by rw [fx 24 (by decide)]; exact h5, c3⟩, fun q hq => by rw [f1 _ (by omega) (by omega)]; exact h7 q hq, c2, h9.fr (fx 36 (by decide)) (f1 _ (by omega) (by omega))⟩, fun a ha => ⟨f1 a (by omega) (by omega), by rw [c4]⟩⟩
/-- a status alone -/
theorem JC.st (hV : JV ((W, S), (W', S'), (T, V), l, (J, c), (k, im, sx))) (h : JC x M ((W, S), (W', S'), (T, V), l, (J, c), (k, im, sx))) (s : Int32) : JC x (gk_wr M x 9 s) ((W, S), (W', S'), (T, V), l, (J, c), (k, im, s)) ∧ OutC x M (gk_wr M x 9 s) := by
  obtain ⟨v1, v2, v3, v4, v5, v6⟩ := hV
  obtain ⟨⟨h1, h1b⟩, h2, ⟨h3, h4, h5, h6⟩, h7, h8, h9, h10⟩ := h
  have f1 : ∀ a, a ≠ x → (gk_wr M x 9 s).1 a = M.1 a := fun a hx => by funext j; rw [wr_1, if_neg (fun g => hx g.1)]
  have fx : ∀ j, j ≠ 9 → (gk_wr M x 9 s).1 x j = M.1 x j := fun j hj => by rw [wr_1, if_neg (fun g => hj g.2)]
  refine ⟨⟨⟨h1.out2 (n := 60) v1.2.1.1.2.1 (fun a ha => ⟨f1 a (by omega), rfl⟩), h1b.out v1.1 (fun a g1 g2 => f1 a (by omega))⟩, fun g => ⟨(h2 g).1.out2 (n := 60) (v2 g).2.1.1.2.1 (fun a ha => ⟨f1 a (by omega), rfl⟩), (h2 g).2.out (v2 g).1 (fun a g1 g2 => f1 a (by omega))⟩, ⟨by rw [fx 6 (by decide)]; exact h3, by rw [fx 7 (by decide)]; exact h4, by rw [fx 8 (by decide)]; exact h5, by rw [wr_1, if_pos ⟨rfl, rfl⟩]⟩, fun q hq => by rw [f1 _ (by omega)]; exact h7 q hq, h8.out (fun a g1 g2 => f1 a (by omega)), h9.fr (by rw [f1 _ (by omega)]) (f1 _ (by omega)), h10.fr (fun a ha i _ => by rw [f1 a (by omega)]) (fun a g1 g2 => f1 a (by omega))⟩, fun a ha => ⟨f1 a (by omega), rfl⟩⟩
theorem JR.st (h : JR m M ((W, S), (W', S'), (T, V), l, (J, c), (k, im, sx))) (s : Int32) : JR m (gk_wr M m 25 s) ((W, S), (W', S'), (T, V), l, (J, c), (k, im, s)) ∧ OutR m M (gk_wr M m 25 s) := by
  obtain ⟨h1, h2, ⟨h3, h4, h5, h6⟩, h7, h8, h9⟩ := h
  have f1 : ∀ a, a ≠ m → (gk_wr M m 25 s).1 a = M.1 a := fun a hx => by funext j; rw [wr_1, if_neg (fun g => hx g.1)]
  have fx : ∀ j, j ≠ 25 → (gk_wr M m 25 s).1 m j = M.1 m j := fun j hj => by rw [wr_1, if_neg (fun g => hj g.2)]
  refine ⟨⟨MR_out h1 (fun a g1 g2 => f1 a (by omega)), fun g => (h2 g).fr (f1 _ (by omega)), ⟨by rw [fx 33 (by decide)]; exact h3, by rw [fx 23 (by decide)]; exact h4, by rw [fx 24 (by decide)]; exact h5, by rw [wr_1, if_pos ⟨rfl, rfl⟩]⟩, fun q hq => by rw [f1 _ (by omega)]; exact h7 q hq, h8.out (fun a g1 g2 => f1 a (by omega)), h9.fr (fx 36 (by decide)) (f1 _ (by omega))⟩, fun a ha => ⟨f1 a (by omega), rfl⟩⟩
theorem JV.st {s : Int32} (hV : JV ((W, S), (W', S'), (T, V), l, (J, c), (k, im, sx))) : JV ((W, S), (W', S'), (T, V), l, (J, c), (k, im, s)) := hV
theorem J2.rf {o : Option (Int32 × gk_M)} {g : gk_M → Option (Int32 × gk_M)} (hm : m = x + 284) (hV : JV ((W, S), (W', S'), (T, V), l, (J, c), (k, im, sx))) (hC : JC x M ((W, S), (W', S'), (T, V), l, (J, c), (k, im, sx))) (hR : JR m M ((W, S), (W', S'), (T, V), l, (J, c), (k, im, sx))) (r s : Int32) (ho : o = some (r, gk_wr M x 9 s)) (hg : ∀ M1, JR m M1 ((W, S), (W', S'), (T, V), l, (J, c), (k, im, sx)) → g M1 = some (r, gk_wr M1 m 25 s)) : J2 x m o g :=
  J2.mk hm (JV.st hV (s := s)) hR ⟨_, ho, (JC.st hV hC s).1, (JC.st hV hC s).2⟩ (fun M1 h1 => ⟨_, hg M1 h1, (JR.st h1 s).1, (JR.st h1 s).2⟩)
end JN
