/-! The reference's acts of people, its emptying, what breaks a promise -/
theorem neg_s (c : Nat) (h : c < 1000) : ¬ nI c < 0 := nI_pos (by omega)
section MJ
variable {LN : Nat → Nat} {RF : Nat → Nat → Nat} {m : Nat} {M : gk_M} {W S : zS}
theorem md_wrap {o : Option (Int32 × gk_M)} {R : Int32 × Nat × zS} {p : Bool} {S' : zS} (h : MO m W M o R) (hp : R.1 < 0 ↔ p = false) (hS : R.2.2 = S') : ∃ M', (o.bind fun r21 => if r21.1 < 0 then some ((0 : Int32), r21.2) else some (1, r21.2)) = some (bI p, M') ∧ MR m M' W S' ∧ FrU m M M' := by
  obtain ⟨M', q1, q2, q3, q4⟩ := h
  refine ⟨M', ?_, by rw [← hS]; exact q2, q4⟩
  rw [q1, Option.bind_some]
  simp only [hp]
  cases p <;> rfl
theorem t_isDone (hm : mL LN RF m) (h : MR m M W S) (hV : IV W S) {e : Nat} (he : e < 5000) (hg : gA (S 20 0) e) : ∃ M', f_X8_isDone LN RF m (nI e) M = some (bI (ali 60 S e), M') ∧ MR m M' W (if ali 60 S e = true then stp W 60 S e else S) ∧ FrU m M M' := by
  obtain ⟨hW, hI, hR, hD, hN⟩ := hV
  have h1 := hI.1
  unfold f_X8_isDone
  rw [ac_x he, ac_k he, ac_y he]
  simp only [gk_jn, zz_0, zz_1]
  rw [sw3 (by omega)]
  unfold ali stp
  rcases hg with ⟨e1, hx, hy⟩ | ⟨e1 | e1, hx⟩ | e1
  · rw [if_pos e1, if_pos e1, if_pos e1]
    have g := t_dial hm hW h hI hN (nI (actX e)) (nI (e % 10))
    unfold dialR at g
    rw [if_neg (by rw [show isL (S 20 0) (nI (actX e)) = true from inR_n (by omega) hx, show isL (S 20 0) (nI (e % 10)) = true from inR_n (by omega) hy]; simp), tN_n (by omega), tN_n (by omega)] at g
    by_cases c1 : 60 ≤ S 20 2
    · rw [if_pos c1] at g
      rw [decide_eq_false (by omega), Bool.false_and]
      exact md_wrap g (by simp [im0]) rfl
    · rw [if_neg c1] at g
      rw [decide_eq_true (by omega), Bool.true_and]
      by_cases c2 : cOf S (actX e) = 0
      · rw [if_neg (by simp [c2])] at g
        rw [c2]
        exact md_wrap g (by simp [neg_s _ (show S 20 2 < 1000 by omega)]) rfl
      · rw [if_pos c2] at g
        rw [show (cOf S (actX e) == 0) = false by simp [c2]]
        exact md_wrap g (by simp [im0]) rfl
  · rw [if_neg (show ¬ e / 1000 = 1 by omega), if_pos e1, if_neg (show ¬ e / 1000 = 1 by omega), if_pos e1, if_neg (show ¬ e / 1000 = 1 by omega), if_pos e1]
    have g := t_take hm h hI (nI (actX e))
    unfold takeR at g
    rw [if_neg (by rw [show isL (S 20 0) (nI (actX e)) = true from inR_n (by omega) hx]; exact tf), tN_n (by omega)] at g
    cases er : rinS S (actX e) with
    | false =>
      rw [er, if_pos rfl] at g
      exact md_wrap g (by simp [im0]) rfl
    | true =>
      rw [er, if_neg tf] at g
      have := cOf_le S (actX e)
      exact md_wrap g (by simp [neg_s _ (show cOf S (actX e) - 1 < 1000 by omega)]) rfl
  · rw [if_neg (show ¬ e / 1000 = 1 by omega), if_neg (show ¬ e / 1000 = 2 by omega), if_pos e1, if_neg (show ¬ e / 1000 = 1 by omega), if_neg (show ¬ e / 1000 = 2 by omega), if_pos e1, if_neg (show ¬ e / 1000 = 1 by omega), if_neg (show ¬ e / 1000 = 2 by omega), if_pos e1]
    have g := t_down hm h hI (nI (actX e))
    unfold downR at g
    rw [if_neg (by rw [show isL (S 20 0) (nI (actX e)) = true from inR_n (by omega) hx]; exact tf), tN_n (by omega)] at g
    by_cases c2 : cOf S (actX e) = 0 ∨ rinS S (actX e) = true
    · rw [if_pos c2] at g
      rw [show (!(cOf S (actX e) == 0) && !rinS S (actX e)) = false by rcases c2 with c | c <;> simp [c]]
      exact md_wrap g (by simp [im0]) rfl
    · rw [if_neg c2] at g
      have := cOf_le S (actX e)
      rw [show (!(cOf S (actX e) == 0) && !rinS S (actX e)) = true by simp only [not_or] at c2; simp [c2.1, c2.2]]
      exact md_wrap g (by simp [neg_s _ (show cOf S (actX e) - 1 < 1000 by omega)]) rfl
  · rw [if_neg (show ¬ e / 1000 = 1 by omega), if_neg (show ¬ e / 1000 = 2 by omega), if_neg (show ¬ e / 1000 = 3 by omega), if_neg (show ¬ e / 1000 = 1 by omega), if_neg (show ¬ e / 1000 = 2 by omega), if_neg (show ¬ e / 1000 = 3 by omega), if_neg (show ¬ e / 1000 = 1 by omega), if_neg (show ¬ e / 1000 = 2 by omega), if_neg (show ¬ e / 1000 = 3 by omega)]
    have g := t_tick hm hW h hI hR hD hN
    unfold tickR at g
    by_cases c1 : 1000 ≤ S 20 3
    · rw [if_pos c1] at g
      rw [decide_eq_false (by omega)]
      exact md_wrap g (by simp [im0]) rfl
    · rw [if_neg c1] at g
      rw [decide_eq_true (by omega)]
      exact md_wrap g (by simp [nI_lt0 (show S 20 3 + 1 < 2 ^ 31 by omega)]) rfl
/-- half way through the emptying -/
def emq (S : zS) (l : Nat) : zS := fun k i => if k = 20 ∧ (i = 2 ∨ i = 3 ∨ i = 4) then 0 else if k = 19 ∧ i < l then 0 else S k i
theorem emq_s {l : Nat} : su (emq S l) 19 l 0 = emq S (l + 1) := by
  funext k i
  rw [su_eq]
  unfold emq
  by_cases hk : k = 19
  · subst hk
    by_cases hi : i = l
    · subst hi; simp
    · by_cases h2 : i < l
      · simp [hi, h2, show i < l + 1 by omega]
      · simp [hi, h2, show ¬ i < l + 1 by omega]
  · simp [hk]
theorem emq_0 : su (su (su S 20 2 0) 20 3 0) 20 4 0 = emq S 0 := by
  funext k i
  rw [su_eq, su_eq, su_eq]
  unfold emq
  by_cases hk : k = 20
  · subst hk
    by_cases h4 : i = 4
    · simp [h4]
    · by_cases h3 : i = 3
      · simp [h3]
      · by_cases h2 : i = 2
        · simp [h2]
        · simp [h2, h3, h4]
  · simp [hk]
theorem lp_em_s (hm : mL LN RF m) {K : gk_M → Option gk_M} : ∀ (r n l : Nat) (M : gk_M), MR m M W (emq S l) → l + r = 8 → r < n → ∃ M', lp_X8_empties_23 LN RF m K n (nI l, M) = K M' ∧ MR m M' W (empS S) ∧ Fr m M M'
  | r, 0, l, M, _, _, g => absurd g (by omega)
  | 0, n + 1, l, M, h, g1, g2 => by
    rw [lp_X8_empties_23, show (8 : Int32) = nI 8 from rfl, if_pos (nI_le (by omega) (by omega))]
    rw [show l = 8 by omega] at h
    exact ⟨M, rfl, h, Fr.rf⟩
  | r + 1, n + 1, l, M, h, g1, g2 => by
    rw [lp_X8_empties_23, show (8 : Int32) = nI 8 from rfl, if_neg (nI_ge (by omega) (by omega)), mw_19 hm (by omega), nI_1]
    have h' := MR_wr (k := 19) (i := l) (v := 0) h (by decide) (by decide) (by decide)
    rw [emq_s] at h'
    obtain ⟨M', q1, q2, q3⟩ := lp_em_s hm (K := K) r n (l + 1) _ h' (by omega) (by omega)
    exact ⟨M', q1, q2, (Fr.rf.wr (by omega)).tr q3⟩
theorem t_empties (hm : mL LN RF m) (h : MR m M W S) : ∃ M', f_X8_empties LN RF m M = some M' ∧ MR m M' W (empS S) ∧ Fr m M M' := by
  unfold f_X8_empties
  rw [mw_20_2 hm, mw_20_3 hm, mw_20_4 hm]
  simp only [gk_jn]
  have h' := MR_wr20 (i := 4) (v := 0) (MR_wr20 (i := 3) (v := 0) (MR_wr20 (i := 2) (v := 0) h (by decide)) (by decide)) (by decide)
  rw [emq_0] at h'
  obtain ⟨M', q1, q2, q3⟩ := lp_em_s hm (K := fun y => some y) 8 gk_fuel 0 _ h' (by omega) (fuel_gt (by omega))
  refine ⟨M', q1, q2, Fr.tr (((Fr.rf.wr (by omega)).wr (by omega)).wr (by omega)) q3⟩
/-- a promise of kind 1 is not broken by a call -/
theorem lp_br1_s (hm : mL LN RF m) (h : MR m M W S) (hS : SB S) {x z : Int32} {K : Int32 → Option Int32} : ∀ r n c t, c + r = S 20 2 → r < n → lp_X8_isBroken_24 LN RF m 1 x z M K n (bI t, nI c) = K (bI t)
  | r, 0, c, t, _, g => absurd g (by omega)
  | 0, n + 1, c, t, g1, g2 => by
    have h1 := hS.1
    rw [lp_X8_isBroken_24, mr_C hm h, if_pos (nI_le (by omega) (by omega))]
  | r + 1, n + 1, c, t, g1, g2 => by
    have h1 := hS.1
    have ih := lp_br1_s hm h hS (x := x) (z := z) (K := K) r n (c + 1) t (by omega) (by omega)
    rw [lp_X8_isBroken_24, mr_C hm h, if_neg (nI_ge (by omega) (by omega)), mr_7 hm h (by omega)]
    simp only [gk_jn, nI_1, mr_6 hm h (show c < 60 by omega), mr_13 hm h (show c < 60 by omega), show ¬ ((1 : Int32) = 2) by decide, show ¬ ((1 : Int32) = 0) by decide, if_false]
    have e0 : t = false → lp_X8_isBroken_24 LN RF m 1 x z M K n (0, nI (c + 1)) = K (bI t) := fun e => by rw [← ih, e]; rfl
    have e1 : t = true → lp_X8_isBroken_24 LN RF m 1 x z M K n (1, nI (c + 1)) = K (bI t) := fun e => by rw [← ih, e]; rfl
    simp only [bI_0]
    cases t with
    | false => simp only [if_true, e0 rfl, ite_self]
    | true => simp only [if_neg tf, e1 rfl, ite_self]
theorem lp_br_s (hm : mL LN RF m) (h : MR m M W S) (hW : WB W) (hS : SB S) {kd x y : Nat} (hk : kd = 0 ∨ kd = 2) (hx : x < 8) (hy : y < 8) {K : Int32 → Option Int32} : ∀ r n c t, c + r = S 20 2 → r < n → lp_X8_isBroken_24 LN RF m (nI kd) (nI x) (nI y) M K n (bI t, nI c) = K (bI (anf (brk1 W S kd x y) r c t))
  | r, 0, c, t, _, g => absurd g (by omega)
  | 0, n + 1, c, t, g1, g2 => by
    have h1 := hS.1
    rw [lp_X8_isBroken_24, mr_C hm h, if_pos (nI_le (by omega) (by omega)), anf]
  | r + 1, n + 1, c, t, g1, g2 => by
    have h1 := hS.1
    have hb := hS.2.1 c (by omega)
    obtain ⟨A, hA⟩ : ∃ A : Bool → Option Int32, A = fun t => K (bI (anf (brk1 W S kd x y) r (c + 1) t)) := ⟨_, rfl⟩
    have ih : ∀ t', lp_X8_isBroken_24 LN RF m (nI kd) (nI x) (nI y) M K n (bI t', nI (c + 1)) = A t' := fun t' => by rw [hA]; exact lp_br_s hm h hW hS hk hx hy (K := K) r n (c + 1) t' (by omega) (by omega)
    have i0 : lp_X8_isBroken_24 LN RF m (nI kd) (nI x) (nI y) M K n (0, nI (c + 1)) = A false := ih false
    have i1 : lp_X8_isBroken_24 LN RF m (nI kd) (nI x) (nI y) M K n (1, nI (c + 1)) = A true := ih true
    rw [lp_X8_isBroken_24, mr_C hm h, if_neg (nI_ge (by omega) (by omega)), mr_7 hm h (by omega), anf]
    rw [show K (bI (anf (brk1 W S kd x y) r (c + 1) (t || brk1 W S kd x y c))) = A (t || brk1 W S kd x y c) by rw [hA]]
    clear hA ih
    simp only [gk_jn, nI_1, mr_6 hm h (show c < 60 by omega), mr_13 hm h (show c < 60 by omega), t_isTold hm h hW hS (show c < S 20 2 by omega) hy, Option.bind_some, i0, i1, bI_0, nI_e2 (show kd < 2 ^ 31 by omega), nI_e0 (show kd < 2 ^ 31 by omega), nI_e1 (show S 7 c < 2 ^ 31 by omega), nI_eq (show S 6 c < 2 ^ 31 by omega) (show x < 2 ^ 31 by omega), nI_eq (show S 6 c < 2 ^ 31 by omega) (show y < 2 ^ 31 by omega), nN_nI (show S 13 c < 2 ^ 31 by omega) (show x < 2 ^ 30 by omega), nN_nI (show S 13 c < 2 ^ 31 by omega) (show y < 2 ^ 30 by omega)]
    cases t with
    | true => simp only [if_neg tf, ite_self, Bool.true_or]
    | false =>
      simp only [if_true, Bool.false_or]
      unfold brk1
      rcases hk with rfl | rfl
      · simp only [if_true, i10, i00, if_false, show ¬ ((0 : Nat) = 2) by decide]
        have hP : (S 6 c == x && S 13 c == y + 1 || S 6 c == y && S 13 c == x + 1) = true ↔ (S 6 c = x ∧ S 13 c = y + 1) ∨ (S 6 c = y ∧ S 13 c = x + 1) := by simp
        have hQ : ¬ ((S 6 c = x ∧ S 13 c = y + 1) ∨ (S 6 c = y ∧ S 13 c = x + 1)) → (S 6 c == x && S 13 c == y + 1 || S 6 c == y && S 13 c == x + 1) = false := fun g => Bool.eq_false_iff.mpr (fun q => g (hP.mp q))
        by_cases c1 : S 7 c = 1
        · rw [show (S 7 c == 1) = true by simp [c1], Bool.true_and, if_pos c1]
          by_cases c2 : S 6 c = x
          · rw [if_pos c2]
            by_cases c3 : S 13 c = y + 1
            · rw [if_pos c3, hP.mpr (Or.inl ⟨c2, c3⟩)]
            · rw [if_neg c3]
              by_cases c4 : S 6 c = y
              · rw [if_pos c4]
                by_cases c5 : S 13 c = x + 1
                · exact absurd (by omega) c3
                · rw [if_neg c5, hQ (by omega)]
              · rw [if_neg c4, hQ (by omega)]
          · rw [if_neg c2]
            by_cases c4 : S 6 c = y
            · rw [if_pos c4]
              by_cases c5 : S 13 c = x + 1
              · rw [if_pos c5, hP.mpr (Or.inr ⟨c4, c5⟩)]
              · rw [if_neg c5, hQ (by omega)]
            · rw [if_neg c4, hQ (by omega)]
        · rw [if_neg c1, show (S 7 c == 1) = false by simp [c1]]; rfl
      · simp only [show ¬ ((2 : Nat) = 0) by decide, if_false, if_true, ite_self]
        by_cases c2 : S 6 c = x
        · rw [if_pos c2, show (S 6 c == x) = true by simp [c2], Bool.true_and]
          cases rchS S c y && !anf (hidP W (S 6 c) y) (W 6 0) 0 false
          · rw [if_pos rfl]
          · rw [if_neg tf]
        · rw [if_neg c2, show (S 6 c == x) = false by simp [c2]]; rfl
theorem t_isBroken (hm : mL LN RF m) (h : MR m M W S) (hW : WB W) (hI : SI 60 S) {kd x y : Nat} {z : Int32} (hk : kd < 3) (hx : x < S 20 0) (hy : kd = 1 ∨ (z = nI y ∧ y < S 20 0)) : f_X8_isBroken LN RF m (nI kd) (nI x) z M = some (bI (brk W S kd x y)) := by
  have h1 := hI.1
  have hS := hI.sb (Nat.le_refl 60)
  unfold f_X8_isBroken brk
  simp only [nI_e1 (show kd < 2 ^ 31 by omega), gk_jn]
  by_cases e1 : kd = 1
  · subst e1
    have h0 := fun t => lp_br1_s hm h hS (x := nI x) (z := z) (K := fun y => gk_zz y (some y)) (S 20 2) gk_fuel 0 t (by omega) (fuel_gt (by omega))
    have g0 := h0 false
    have g1 := h0 true
    rw [zz_b] at g0 g1
    rw [if_pos rfl, if_pos rfl, mr_19 hm h (by omega)]
    by_cases g : nI (S 19 x) ≤ 0
    · rw [if_pos g, decide_eq_true g]; exact g0
    · rw [if_neg g, decide_eq_false g]; exact g1
  · rw [if_neg e1, if_neg e1]
    obtain ⟨rfl, hy⟩ : z = nI y ∧ y < S 20 0 := by
      rcases hy with g | g
      · exact absurd g e1
      · exact g
    have h0 := lp_br_s hm h hW hS (show kd = 0 ∨ kd = 2 by omega) (show x < 8 by omega) (show y < 8 by omega) (K := fun y => gk_zz y (some y)) (S 20 2) gk_fuel 0 false (by omega) (fuel_gt (by omega))
    rw [zz_b] at h0
    exact h0
end MJ
