/-! Every call keeps the invariants -/
def IV (W S : zS) : Prop := WB W ∧ SI 60 S ∧ R1 S ∧ Sd S ∧ WN W S
theorem IV.line {W S : zS} (h : IV W S) : IV (lineR W S).2.2.1 (lineR W S).2.2.2 := by
  unfold lineR
  by_cases e8 : S 20 0 < 8
  · rw [if_pos e8]
    obtain ⟨hW, hI, hR, hD, hN⟩ := h
    have e : ∀ k, k ≠ 20 → su S 20 0 (S 20 0 + 1) k = S k := fun k hk => by funext i; exact su_k hk
    have e0 : su S 20 0 (S 20 0 + 1) 20 0 = S 20 0 + 1 := su_s
    have e2 : su S 20 0 (S 20 0 + 1) 20 2 = S 20 2 := by rw [su_i]; rfl
    have e3 : su S 20 0 (S 20 0 + 1) 20 3 = S 20 3 := by rw [su_i]; rfl
    have e4 : su S 20 0 (S 20 0 + 1) 20 4 = S 20 4 := by rw [su_i]; rfl
    have ei : inn (su S 20 0 (S 20 0 + 1)) = inn S := by funext l c; show Bool.and _ _ = Bool.and _ _; rw [e 7 (by decide), e 6 (by decide), e 12 (by decide), e 13 (by decide)]
    have ek : knk (su S 20 0 (S 20 0 + 1)) = knk S := by funext l c; show Bool.and _ _ = Bool.and _ _; rw [e 7 (by decide), e 13 (by decide)]
    have hD' : ∀ l, l < S 20 0 + 1 → kAt S l ≠ 0 → cOf S l ≠ 0 := by
      intro l hl hk
      by_cases g : l < S 20 0
      · exact hD l g hk
      · obtain ⟨c, hc1, hc2⟩ := kAt_ne.mp hk
        have := (hI.2.1 c hc1).2.2.2.2.2.2.1
        unfold knk at hc2
        simp at hc2
        omega
    refine ⟨hW, ?_, ?_, ?_, ?_⟩
    · obtain ⟨g1, g2, g3, g4, g5, g6⟩ := hI
      show SI 60 (su S 20 0 (S 20 0 + 1))
      unfold SI
      rw [ei, ek, e0, e2, e3, e4, e 17 (by decide), e 18 (by decide)]
      refine ⟨by omega, fun c hc => ?_, g3, g4, fun i hi => by have := g5 i hi; omega, g6⟩
      have := g2 c hc
      unfold CI at this ⊢
      rw [e0, e3, e 6 (by decide), e 7 (by decide), e 9 (by decide), e 10 (by decide), e 11 (by decide), e 12 (by decide), e 13 (by decide), e 14 (by decide), e 15 (by decide), e 16 (by decide)]
      obtain ⟨c1, c2, c3, c4, c5, c6, c7, c8, c9⟩ := this
      exact ⟨by omega, c2, c3, fun i hi => by have := c4 i hi; omega, c5, fun l hl => by have := c6 l hl; omega, by omega, c8, c9⟩
    · show R1 (su S 20 0 (S 20 0 + 1))
      unfold R1 at hR ⊢; rw [e2, e 7 (by decide), e 9 (by decide), e 15 (by decide)]; exact hR
    · show Sd (su S 20 0 (S 20 0 + 1))
      unfold Sd kAt cOf at *
      rw [e0, e2, ei, ek]; exact hD'
    · intro w hw
      show W 0 w < su S 20 0 (S 20 0 + 1) 20 0 ∧ W 3 w < su S 20 0 (S 20 0 + 1) 20 0
      rw [e0]
      have := hN w hw
      omega
  · rw [if_neg e8]; exact h
theorem IV.wish {W S : zS} (h : IV W S) (a1 a2 a3 a4 a5 : Int32) : IV (wishR W S a1 a2 a3 a4 a5).2.2.1 (wishR W S a1 a2 a3 a4 a5).2.2.2 := by
  obtain ⟨hW, hI, hR, hD, hN⟩ := h
  have h1 := hI.1
  unfold wishR
  cases eg : goodW (S 20 0) a1 a2 a3 a4 a5 with
  | false => rw [if_pos rfl]; exact ⟨hW, hI, hR, hD, hN⟩
  | true =>
    rw [if_neg tf]
    obtain ⟨⟨p1, q1⟩, ⟨p2, q2⟩, ⟨p3, q3⟩, ⟨p4, q4⟩, p5, q5⟩ := good_n h1.1 eg
    by_cases e : W 6 0 < 24
    · rw [if_pos e]
      refine ⟨newW_b hW e (by omega) q2 q3 (by omega) q5, hI, hR, hD, fun w hw => ?_⟩
      have h6 : newW W (tN a1) (tN a2) (tN a3) (tN a4) (tN a5) 6 0 = W 6 0 + 1 := by unfold newW; rw [su_s]
      have hw' : w < newW W (tN a1) (tN a2) (tN a3) (tN a4) (tN a5) 6 0 := hw
      rw [h6] at hw'
      show newW W (tN a1) (tN a2) (tN a3) (tN a4) (tN a5) 0 w < S 20 0 ∧ newW W (tN a1) (tN a2) (tN a3) (tN a4) (tN a5) 3 w < S 20 0
      by_cases ew : w = W 6 0
      · subst ew
        unfold newW
        simp [su_eq]
        exact ⟨q1, q4⟩
      · have := hN w (by omega)
        unfold newW
        simp [su_eq, ew]
        exact this
    · rw [if_neg e]; exact ⟨hW, hI, hR, hD, hN⟩
theorem IV.on {W S : zS} (h : IV W S) (y : Int32) (z : Bool) : IV (onR W S y z).2.2.1 (onR W S y z).2.2.2 := by
  obtain ⟨hW, hI, hR, hD, hN⟩ := h
  have hn := hW.1
  unfold onR
  cases e : isL (W 6 0) y with
  | false => rw [if_pos rfl]; exact ⟨hW, hI, hR, hD, hN⟩
  | true =>
    rw [if_neg tf]
    have hz3 : z.toNat ≤ 1 := by cases z <;> decide
    refine ⟨⟨?_, fun w hw => ?_⟩, hI, hR, hD, fun w hw => ?_⟩
    · show su W 5 (tN y) z.toNat 6 0 ≤ 24
      rw [su_k (by decide)]; exact hn
    · have hw' : w < su W 5 (tN y) z.toNat 6 0 := hw
      rw [su_k (by decide)] at hw'
      have := hW.2 w hw'
      show su W 5 (tN y) z.toNat 0 w < 8 ∧ su W 5 (tN y) z.toNat 1 w < 8 ∧ su W 5 (tN y) z.toNat 2 w < 10 ∧ su W 5 (tN y) z.toNat 3 w < 8 ∧ su W 5 (tN y) z.toNat 4 w < 32 ∧ su W 5 (tN y) z.toNat 5 w ≤ 1
      rw [su_k (by decide), su_k (by decide), su_k (by decide), su_k (by decide), su_k (by decide), su_i]
      refine ⟨this.1, this.2.1, this.2.2.1, this.2.2.2.1, this.2.2.2.2.1, ?_⟩
      split <;> omega
    · have hw' : w < su W 5 (tN y) z.toNat 6 0 := hw
      rw [su_k (by decide)] at hw'
      show su W 5 (tN y) z.toNat 0 w < S 20 0 ∧ su W 5 (tN y) z.toNat 3 w < S 20 0
      rw [su_k (by decide), su_k (by decide)]; exact hN w hw'
theorem IV.rank {W S : zS} (h : IV W S) (y z : Int32) : IV (rankR W S y z).2.2.1 (rankR W S y z).2.2.2 := by
  obtain ⟨hW, hI, hR, hD, hN⟩ := h
  have hn := hW.1
  unfold rankR
  by_cases e : isL (W 6 0) y = false ∨ isL 10 z = false
  · rw [if_pos e]; exact ⟨hW, hI, hR, hD, hN⟩
  · rw [if_neg e]
    have ez : isL 10 z = true := by
      cases g : isL 10 z with
      | true => rfl
      | false => exact absurd (Or.inr g) e
    obtain ⟨v, hv, rfl⟩ := isL_s (by omega) ez
    rw [tN_n (by omega)]
    refine ⟨⟨?_, fun w hw => ?_⟩, hI, hR, hD, fun w hw => ?_⟩
    · show su W 2 (tN y) v 6 0 ≤ 24
      rw [su_k (by decide)]; exact hn
    · have hw' : w < su W 2 (tN y) v 6 0 := hw
      rw [su_k (by decide)] at hw'
      have := hW.2 w hw'
      show su W 2 (tN y) v 0 w < 8 ∧ su W 2 (tN y) v 1 w < 8 ∧ su W 2 (tN y) v 2 w < 10 ∧ su W 2 (tN y) v 3 w < 8 ∧ su W 2 (tN y) v 4 w < 32 ∧ su W 2 (tN y) v 5 w ≤ 1
      rw [su_k (k' := 0) (by decide), su_k (k' := 1) (by decide), su_k (k' := 3) (by decide), su_k (k' := 4) (by decide), su_k (k' := 5) (by decide), su_i]
      refine ⟨this.1, this.2.1, ?_, this.2.2.2⟩
      split <;> omega
    · have hw' : w < su W 2 (tN y) v 6 0 := hw
      rw [su_k (by decide)] at hw'
      show su W 2 (tN y) v 0 w < S 20 0 ∧ su W 2 (tN y) v 3 w < S 20 0
      rw [su_k (by decide), su_k (by decide)]; exact hN w hw'
theorem IV.dial {W S : zS} (h : IV W S) (y z : Int32) : IV W (dialR W 60 S y z).2.2 := by
  obtain ⟨hW, hI, hR, hD, hN⟩ := h
  have h1 := hI.1
  unfold dialR
  by_cases e : isL (S 20 0) y = false ∨ isL (S 20 0) z = false
  · rw [if_pos e]; exact ⟨hW, hI, hR, hD, hN⟩
  · rw [if_neg e]
    by_cases e2 : 60 ≤ S 20 2
    · rw [if_pos e2]; exact ⟨hW, hI, hR, hD, hN⟩
    · rw [if_neg e2]
      by_cases e3 : cOf S (tN y) ≠ 0
      · rw [if_pos e3]; exact ⟨hW, hI, hR, hD, hN⟩
      · rw [if_neg e3]
        have ey : isL (S 20 0) y = true := by
          cases g : isL (S 20 0) y with
          | true => rfl
          | false => exact absurd (Or.inl g) e
        have ez : isL (S 20 0) z = true := by
          cases g : isL (S 20 0) z with
          | true => rfl
          | false => exact absurd (Or.inr g) e
        obtain ⟨l, hl, rfl⟩ := isL_s (by omega) ey
        obtain ⟨t, ht, rfl⟩ := isL_s (by omega) ez
        rw [tN_n (by omega)] at e3 ⊢
        rw [tN_n (by omega)]
        obtain ⟨a1, a2, a3, -⟩ := dia_ok hW hI hR hN hl ht (by omega) (by omega)
        obtain ⟨b1, -⟩ := dia_sd hW hI hN hl ht (by omega) (by omega)
        exact ⟨hW, a1, a2, b1, hN.cn a3⟩
theorem IV.take {W S : zS} (h : IV W S) (y : Int32) : IV W (takeR S y).2.2 := by
  obtain ⟨hW, hI, hR, hD, hN⟩ := h
  have h1 := hI.1
  unfold takeR
  cases e : isL (S 20 0) y with
  | false => rw [if_pos rfl]; exact ⟨hW, hI, hR, hD, hN⟩
  | true =>
    rw [if_neg tf]
    obtain ⟨l, hl, rfl⟩ := isL_s (by omega) e
    rw [tN_n (by omega)]
    cases er : rinS S l with
    | false => rw [if_pos rfl]; exact ⟨hW, hI, hR, hD, hN⟩
    | true =>
      rw [if_neg tf]
      cases hc : cOf S l with
      | zero => unfold rinS at er; rw [hc] at er; simp at er
      | succ c =>
        rw [rin_c hc] at er
        have hI' := hI.tak hl hc er
        show IV W (takS S l)
        unfold takS
        rw [hc, Nat.add_sub_cancel]
        have hR' : R1 (su (su (su S 7 c 1) 12 c 0) 13 c (l + 1)) := by
          intro b hb hb7
          rw [su_k (by decide), su_k (by decide), su_k (by decide)] at hb
          rw [su_k (by decide), su_k (by decide), su_k (by decide), su_k (by decide), su_k (by decide), su_k (by decide)]
          refine hR b hb (fun g => ?_)
          by_cases eb : b = c
          · subst eb
            have := (hI.2.1 b hb).2.2.2.2.2.2.2.2.2.1 (by omega)
            rw [this] at er; simp at er
          · rw [su_k (by decide), su_k (by decide), su_i, if_neg eb] at hb7; exact hb7 g
        have e20 : su (su (su S 7 c 1) 12 c 0) 13 c (l + 1) 20 0 = S 20 0 := by rw [su_k (by decide), su_k (by decide), su_k (by decide)]
        obtain ⟨s1, s2⟩ := SI.sts (su (su (su S 7 c 1) 12 c 0) 13 c (l + 1) 20 0) 0 _ hI' (by omega)
        exact ⟨hW, s1, R1.sts _ _ _ hR', sett_sd hI', hN.cn (s2.1.trans e20)⟩
theorem IV.down {W S : zS} (h : IV W S) (y : Int32) : IV W (downR S y).2.2 := by
  obtain ⟨hW, hI, hR, hD, hN⟩ := h
  have h1 := hI.1
  unfold downR
  cases e : isL (S 20 0) y with
  | false => rw [if_pos rfl]; exact ⟨hW, hI, hR, hD, hN⟩
  | true =>
    rw [if_neg tf]
    obtain ⟨l, hl, rfl⟩ := isL_s (by omega) e
    rw [tN_n (by omega)]
    by_cases e2 : cOf S l = 0 ∨ rinS S l = true
    · rw [if_pos e2]; exact ⟨hW, hI, hR, hD, hN⟩
    · rw [if_neg e2]
      cases hc : cOf S l with
      | zero => exact absurd (Or.inl hc) e2
      | succ c =>
        obtain ⟨hcn, -⟩ := cOf_s hc
        have hI' := hI.fin (why := 4) hcn
        show IV W (dowS S l)
        unfold dowS
        rw [hc, Nat.add_sub_cancel]
        have hR' : R1 (endS S c 4) := by
          intro b hb hb7
          rw [e_o _ _ _ 20 _ (by decide) (by decide) (by decide) (by decide)] at hb
          rw [e_o _ _ _ 9 _ (by decide) (by decide) (by decide) (by decide), e_o _ _ _ 15 _ (by decide) (by decide) (by decide) (by decide)]
          refine hR b hb (fun g => ?_)
          by_cases eb : b = c
          · subst eb; exact hb7 (e_v S b 4).1
          · rw [(sm_end.2.2.2.2.2.1 b eb).1] at hb7; exact hb7 g
        have e20 : endS S c 4 20 0 = S 20 0 := e_o _ _ _ _ _ (by decide) (by decide) (by decide) (by decide)
        obtain ⟨s1, s2⟩ := SI.sts (endS S c 4 20 0) 0 _ hI' (by omega)
        exact ⟨hW, s1, R1.sts _ _ _ hR', sett_sd hI', hN.cn (s2.1.trans e20)⟩
theorem IV.tick {W S : zS} (h : IV W S) : IV W (tickR W 60 S).2.2 := by
  obtain ⟨hW, hI, hR, hD, hN⟩ := h
  unfold tickR
  by_cases e : 1000 ≤ S 20 3
  · rw [if_pos e]; exact ⟨hW, hI, hR, hD, hN⟩
  · rw [if_neg e]
    obtain ⟨a1, a2, a3, a4, -⟩ := tck_ok hW hI hR hD hN (by omega)
    exact ⟨hW, a1, a2, a3, hN.cn a4⟩
