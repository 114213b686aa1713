/-! The class: dial, take, down, tick -/
/-- where the class's object has its house, its kept house and their books -/
def xL (LN : Nat → Nat) (RF : Nat → Nat → Nat) (x : Nat) : Prop := RF x 0 = x + 1 ∧ hL LN RF (x + 1) 27 60 (x + 2) ∧ RF x 1 = x + 94 ∧ hL LN RF (x + 94) 27 60 (x + 95)
/-- what a public call of the class's house may write: the house, but for its book, and the status -/
def XFr (x : Nat) (M M' : gk_M) : Prop := ∀ a, (a < x + 1 ∨ (x + 2 ≤ a ∧ a < x + 28) ∨ x + 94 ≤ a) → M'.2 a = M.2 a ∧ ∀ j, ¬ (a = x ∧ j = 9) → M'.1 a j = M.1 a j
theorem XFr.tr {x : Nat} {A B C : gk_M} (h1 : XFr x A B) (h2 : XFr x B C) : XFr x A C := fun a ha => ⟨(h2 a ha).1.trans (h1 a ha).1, fun j hj => ((h2 a ha).2 j hj).trans ((h1 a ha).2 j hj)⟩
theorem XFr.st {x : Nat} {M : gk_M} {v : Int32} : XFr x M (gk_wr M x 9 v) := fun a _ => ⟨rfl, fun j hj => by rw [wr_1, if_neg hj]⟩
theorem HFr.x {x : Nat} {M M' : gk_M} (h : HFr (x + 1) 27 60 M M') : XFr x M M' := fun a ha => by
  have := h a (by omega) (by omega)
  exact ⟨this.2, fun j _ => by rw [this.1]⟩
theorem HR.out {h o : Nat} {M M' : gk_M} {S : zS} (hH : HR h o M S) (hm : ∀ a, (a = h ∨ h + o ≤ a) → M'.1 a = M.1 a ∧ M'.2 a = M.2 a) : HR h o M' S := by
  obtain ⟨g1, g2, g3, g4⟩ := hH
  refine ⟨by rw [(hm h (Or.inl rfl)).1]; exact g1, fun c hc => (g2 c hc).mv (hm _ (by omega)).1 (hm _ (by omega)).2, fun l hl => by rw [(hm _ (by omega)).1, (hm (h + o + 1) (by omega)).1, (hm (h + o + 2) (by omega)).1]; exact g3 l hl, fun i hi => by rw [(hm (h + o + 3) (by omega)).1, (hm (h + o + 4) (by omega)).1]; exact g4 i hi⟩
/-- a call's outcome in the class's memory -/
def CO (x : Nat) (M : gk_M) (o : Option (Int32 × gk_M)) (R : Int32 × Nat × zS) : Prop := ∃ M', o = some (R.1, M') ∧ HR (x + 1) 27 M' R.2.2 ∧ M'.1 x 9 = nI R.2.1 ∧ XFr x M M'
section CPB
variable {LN : Nat → Nat} {RF : Nat → Nat → Nat} {x : Nat} {W : zS}
theorem HR.xs {M : gk_M} {S : zS} {v : Int32} {k : Nat} (h : HR (x + 1) 27 M S) : HR (x + 1) 27 (gk_wr M x k v) S := h.out (fun a ha => ⟨by funext j; rw [wr_1, if_neg (by omega)], rfl⟩)
theorem ref_CO {M : gk_M} {S : zS} (h : HR (x + 1) 27 M S) (s : Nat) {y : Int32} (hy : y = nI s) : CO x M ((f_X7_refused LN RF x y M).bind fun r => some (r.1, r.2)) (-1, s, S) := by
  subst hy
  unfold f_X7_refused gk_put
  exact ⟨_, rfl, h.xs, by rw [wr_1, if_pos ⟨rfl, rfl⟩], XFr.st⟩
theorem done_CO {M M1 : gk_M} {S : zS} (h : HR (x + 1) 27 M1 S) (hf : XFr x M M1) (r : Int32) : CO x M ((f_X7_done LN RF x r M1).bind fun r => some (r.1, r.2)) (r, 0, S) := by
  unfold f_X7_done gk_put
  exact ⟨_, rfl, h.xs, by rw [wr_1, if_pos ⟨rfl, rfl⟩]; rfl, hf.tr XFr.st⟩
theorem c_dial (hL : xL LN RF x) (hWB : WB W) {S : zS} {M : gk_M} (h : HR (x + 1) 27 M S) (hB : BR (x + 2) M W) (hI : SI 60 S) (hW : WN W S) (y z : Int32) : CO x M (f_X7_dial LN RF x y z M) (dialR W 60 S y z) := by
  have h1 := hI.1
  unfold f_X7_dial
  rw [hL.1, u_isLine h]
  simp only [Option.bind_some, gk_jn, u_isLine h, u_hasRoom hL.2.1 h (show S 20 2 ≤ 60 by omega), bI_0]
  unfold dialR
  cases ex : isL (S 20 0) y with
  | false => rw [if_pos rfl, if_pos (Or.inl rfl)]; exact ref_CO h 1 rfl
  | true =>
    rw [if_neg (by decide)]
    cases ey : isL (S 20 0) z with
    | false => rw [if_pos rfl, if_pos (Or.inr rfl)]; exact ref_CO h 1 rfl
    | true =>
      rw [if_neg (show ¬ (true = false) by decide), if_neg (show ¬ (true = false ∨ true = false) by simp)]
      obtain ⟨l, hl, rfl⟩ := inR_l (by omega) ex
      obtain ⟨t, ht, rfl⟩ := inR_l (by omega) ey
      rw [tN_n (by omega), tN_n (by omega)]
      by_cases e1 : S 20 2 = 60
      · rw [if_pos (by simp [e1]), if_pos (by omega)]; exact ref_CO h 2 rfl
      · rw [if_neg (by simp; omega), if_neg (by omega), u_isFree hL.2.1 h (by omega) (by omega)]
        simp only [Option.bind_some, bI_0]
        by_cases e2 : cOf S l = 0
        · rw [if_neg (by simp [e2]), if_neg (by simp [e2])]
          unfold f_X2_connect
          obtain ⟨M1, q1, q2, q3⟩ := u_connect hL.2.1 hWB (Nat.le_refl 60) (l := l) (t := t) h hB hI hW hl ht e2 (by omega) (K := fun r => some r)
          rw [q1]
          simp only [Option.bind_some]
          exact done_CO q2 q3.x _
        · rw [if_pos (by simp [e2]), if_pos e2]; exact ref_CO h 3 rfl
theorem c_take (hL : xL LN RF x) {S : zS} {M : gk_M} (h : HR (x + 1) 27 M S) (hI : SI 60 S) (y : Int32) : CO x M (f_X7_take LN RF x y M) (takeR S y) := by
  have h1 := hI.1
  unfold f_X7_take
  rw [hL.1, u_isLine h]
  simp only [Option.bind_some, bI_0]
  unfold takeR
  cases ex : isL (S 20 0) y with
  | false => rw [if_pos rfl, if_pos rfl]; exact ref_CO h 1 rfl
  | true =>
    rw [if_neg (by decide), if_neg (by decide)]
    obtain ⟨l, hl, rfl⟩ := inR_l (by omega) ex
    rw [tN_n (by omega), u_isRinging hL.2.1 h (Nat.le_refl 60) hI (by omega)]
    simp only [Option.bind_some, bI_0]
    cases er : rinS S l with
    | false => rw [if_pos rfl, if_pos rfl]; exact ref_CO h 3 rfl
    | true =>
      rw [if_neg (by decide), if_neg (by decide)]
      cases hc : cOf S l with
      | zero => unfold rinS at er; rw [hc] at er; simp at er
      | succ c =>
        rw [rin_c hc] at er
        obtain ⟨M1, q1, q2, q3⟩ := u_answer hL.2.1 (Nat.le_refl 60) h hI hl hc er
        rw [q1]
        simp only [Option.bind_some, Nat.add_sub_cancel]
        exact done_CO q2 q3.x _
theorem c_down (hL : xL LN RF x) {S : zS} {M : gk_M} (h : HR (x + 1) 27 M S) (hI : SI 60 S) (y : Int32) : CO x M (f_X7_down LN RF x y M) (downR S y) := by
  have h1 := hI.1
  unfold f_X7_down
  rw [hL.1, u_isLine h]
  simp only [Option.bind_some, bI_0]
  unfold downR
  cases ex : isL (S 20 0) y with
  | false => rw [if_pos rfl, if_pos rfl]; exact ref_CO h 1 rfl
  | true =>
    rw [if_neg (by decide), if_neg (by decide)]
    obtain ⟨l, hl, rfl⟩ := inR_l (by omega) ex
    rw [tN_n (by omega), u_canHangUp hL.2.1 h (Nat.le_refl 60) hI (by omega)]
    simp only [Option.bind_some, bI_0]
    cases hc : cOf S l with
    | zero => rw [if_pos (by simp), if_pos (Or.inl rfl)]; exact ref_CO h 3 rfl
    | succ c =>
      cases er : rinS S l with
      | true => rw [if_pos (by simp), if_pos (Or.inr rfl)]; exact ref_CO h 3 rfl
      | false =>
        rw [if_neg (by simp), if_neg (by simp)]
        obtain ⟨M1, q1, q2, q3⟩ := u_hangUp hL.2.1 (Nat.le_refl 60) h hI hl hc
        rw [q1]
        simp only [Option.bind_some, Nat.add_sub_cancel]
        exact done_CO q2 q3.x _
theorem c_tick (hL : xL LN RF x) (hWB : WB W) {S : zS} {M : gk_M} (h : HR (x + 1) 27 M S) (hB : BR (x + 2) M W) (hI : SI 60 S) (hR : R1 S) (hD : Sd S) (hW : WN W S) : CO x M (f_X7_tick LN RF x M) (tickR W 60 S) := by
  have h1 := hI.1
  unfold f_X7_tick
  rw [hL.1, h.1.2.2.2]
  simp only [show (1000 : Int32) = nI 1000 from rfl, nI_ltI (show S 20 3 < 2 ^ 31 by omega) (show 1000 < 2 ^ 31 by omega)]
  unfold tickR
  by_cases e : S 20 3 < 1000
  · rw [if_pos e, if_neg (by omega)]
    obtain ⟨M1, q1, q2, q3⟩ := u_pass hL.2.1 hWB h hB hI hR hD hW e
    have ht := (tck_ok hWB hI hR hD hW e).2.2.2.2
    rw [q1]
    simp only [Option.bind_some, q2.1.2.2.2, ht]
    exact done_CO q2 q3.x _
  · rw [if_neg e, if_pos (by omega)]; exact ref_CO h 2 rfl
end CPB
