/-! The class's house: silence, close, backs, arrivals, going, settling -/
section HG
variable {LN : Nat → Nat} {RF : Nat → Nat → Nat} {h o n b : Nat} {W : zS}
theorem lp_sil_s (hl : hL LN RF h o n b) {a ls : Nat} (ha : a ≠ h + o) (h256 : ls < 256) {K : gk_M → Option gk_M} : ∀ (r n' l : Nat) (M : gk_M), M.1 a 4 = nI ls → l + r = 8 → r < n' → ∃ M', lp_X2_silence_2 LN RF h a K n' (nI l, M) = K M' ∧ (∀ x, x ≠ h + o → M'.1 x = M.1 x) ∧ M'.2 = M.2 ∧ ∀ x, M'.1 (h + o) x = if l ≤ x ∧ x < 8 ∧ ls.testBit x = true then -1 else M.1 (h + o) x
  | r, 0, l, M, _, _, g => absurd g (by omega)
  | 0, n' + 1, l, M, h4, g1, g2 => by
    refine ⟨M, ?_, fun _ _ => rfl, rfl, fun x => by rw [if_neg (by omega)]⟩
    rw [lp_X2_silence_2, show (8 : Int32) = nI 8 from rfl, if_pos (nI_le (by omega) (by omega))]
  | r + 1, n' + 1, l, M, h4, g1, g2 => by
    rw [lp_X2_silence_2, show (8 : Int32) = nI 8 from rfl, if_neg (nI_ge (by omega) (by omega))]
    simp only [gk_jn, nI_1, h4, bit_ge _ h256 l (show l < 8 by omega), bI_0]
    cases e : ls.testBit l with
    | false =>
      rw [if_pos rfl]
      obtain ⟨M', q1, q2, q3, q4⟩ := lp_sil_s hl ha h256 (K := K) r n' (l + 1) M h4 (by omega) (by omega)
      refine ⟨M', q1, q2, q3, fun x => ?_⟩
      rw [q4 x]
      by_cases ex : x = l
      · subst ex; rw [if_neg (by omega), if_neg (by rw [e]; simp)]
      · by_cases g : l + 1 ≤ x ∧ x < 8 ∧ ls.testBit x = true
        · rw [if_pos g, if_pos ⟨by omega, g.2⟩]
        · rw [if_neg g, if_neg (fun y => g ⟨by omega, y.2⟩)]
    | true =>
      rw [if_neg (by decide), hw_2 hl (by omega)]
      obtain ⟨M', q1, q2, q3, q4⟩ := lp_sil_s hl ha h256 (K := K) r n' (l + 1) (gk_wr M (h + o) l (-1)) (by rw [wr_1, if_neg (by omega)]; exact h4) (by omega) (by omega)
      refine ⟨M', q1, fun x hx => ?_, q3, fun x => ?_⟩
      · rw [q2 x hx]; funext j; rw [wr_1, if_neg (by omega)]
      · rw [q4 x, wr_1]
        by_cases ex : x = l
        · subst ex; rw [if_neg (by omega), if_pos ⟨rfl, rfl⟩, if_pos ⟨by omega, by omega, e⟩]
        · by_cases g : l + 1 ≤ x ∧ x < 8 ∧ ls.testBit x = true
          · rw [if_pos g, if_pos ⟨by omega, g.2⟩]
          · rw [if_neg g, if_neg (by omega), if_neg (fun y => g ⟨by omega, y.2⟩)]
theorem u_silence (hl : hL LN RF h o n b) {M : gk_M} {S : zS} (hH : HR h o M S) {N : Nat} (hN : N ≤ n) (hI : SI N S) {c : Nat} (hc : c < S 20 2) : ∃ M', f_X2_silence LN RF h (h + o + 6 + c) M = some M' ∧ HR h o M' (su S 12 c 0) ∧ HFr h o n M M' := by
  have hn := hl.2.2.2.1.2.2
  have ho := hl.2.2.2.1.1
  have hS := hI.sb (by omega)
  have h1 := hI.1
  have hC := hH.2.1 c hc
  unfold f_X2_silence
  simp only [gk_jn]
  obtain ⟨M', q1, q2, q3, q4⟩ := lp_sil_s hl (a := h + o + 6 + c) (ls := S 12 c) (by omega) (hS.2.1 c hc).2.2.2.1 (K := fun y21 => gk_put y21 (h + o + 6 + c) 4 0 fun M23 => some M23) 8 gk_fuel 0 M hC.2.2.2.2.1 (by omega) (fuel_gt (by omega))
  refine ⟨gk_wr M' (h + o + 6 + c) 4 0, by rw [show ((0 : Int32), M) = (nI 0, M) from rfl, q1]; rfl, ?_, ?_⟩
  · refine HR.one hH hI ho (Sm.fld (k := 12) (v := 0) (by omega)) (fun a a1 a2 a3 => ?_) (fun _ => ?_) (fun l hl8 => ?_)
    · refine ⟨?_, by rw [wr_2, q3]⟩
      rw [← q2 a a1]; funext j; rw [wr_1, if_neg (by omega)]
    · obtain ⟨c0, c1, c2, c3, c4, c5, c6, c7, c8, c9, c10⟩ := hC
      have hq : ∀ j, (gk_wr M' (h + o + 6 + c) 4 0).1 (h + o + 6 + c) j = if j = 4 then 0 else M.1 (h + o + 6 + c) j := by
        intro j; rw [wr_1, q2 _ (by omega)]; simp
      unfold CR
      rw [su_s]
      simp only [hq, wr_2, q3]
      simp only [su_k (S := S) (i := c) (v := 0) (show 6 ≠ 12 by decide), su_k (S := S) (i := c) (v := 0) (show 7 ≠ 12 by decide), su_k (S := S) (i := c) (v := 0) (show 8 ≠ 12 by decide), su_k (S := S) (i := c) (v := 0) (show 9 ≠ 12 by decide), su_k (S := S) (i := c) (v := 0) (show 10 ≠ 12 by decide), su_k (S := S) (i := c) (v := 0) (show 11 ≠ 12 by decide), su_k (S := S) (i := c) (v := 0) (show 13 ≠ 12 by decide), su_k (S := S) (i := c) (v := 0) (show 14 ≠ 12 by decide), su_k (S := S) (i := c) (v := 0) (show 15 ≠ 12 by decide), su_k (S := S) (i := c) (v := 0) (show 16 ≠ 12 by decide)]
      exact ⟨c0, c1, c2, c3, rfl, c5, c6, c7, c8, c9, c10⟩
    · obtain ⟨d1, d2⟩ := cOf_sil hI hc l
      rw [d1, d2, wr_1, if_neg (show ¬ (h + o = h + o + 6 + c ∧ l = 4) by omega), wr_1, if_neg (show ¬ (h + o + 1 = h + o + 6 + c ∧ l = 4) by omega), q4 l, q2 _ (by omega)]
      refine ⟨?_, (hH.2.2.1 l hl8).2.1⟩
      by_cases e : (S 12 c).testBit l = true
      · rw [if_pos ⟨by omega, hl8, e⟩, if_pos e, nN_0]
      · rw [if_neg (fun y => e y.2.2), if_neg e]; exact (hH.2.2.1 l hl8).1
  · exact HFr.tr (fun a a1 a2 => ⟨q2 a (by omega), by rw [q3]⟩) (HFr.rf.wr (by omega))
theorem u_close (hl : hL LN RF h o n b) {M : gk_M} {S : zS} (hH : HR h o M S) {N : Nat} (hN : N ≤ n) (hI : SI N S) {c why : Nat} (hc : c < S 20 2) (h12 : S 12 c = 0) (h7 : S 7 c ≠ 3) : ∃ M', f_X2_close LN RF h (h + o + 6 + c) (nI why) M = some M' ∧ HR h o M' (endS S c why) ∧ HFr h o n M M' := by
  have hn := hl.2.2.2.1.2.2
  have ho := hl.2.2.2.1.1
  have hS := hI.sb (by omega)
  have h1 := hI.1
  have hbc := hS.2.1 c hc
  have hC := hH.2.1 c hc
  obtain ⟨ci1, ci2, ci3, ci4, ci5, ci6, ci7, ci8, ci9, ci10, ci11, ci12, ci13, ci14, ci15⟩ := hI.2.1 c hc
  have hin : ∀ l, cOf S l = c + 1 ↔ (l = S 6 c ∨ (S 7 c = 1 ∧ S 13 c = l + 1)) := by
    intro l
    rw [cOf_iff hI hc]
    unfold inn
    simp [h7, h12]
    constructor
    · rintro (g | g)
      · exact Or.inl g.symm
      · exact Or.inr g
    · rintro (g | g)
      · exact Or.inl g.symm
      · exact Or.inr g
  have hkn : ∀ l, kAt S l = c + 1 ↔ (S 7 c = 2 ∧ S 13 c = l + 1) := by
    intro l
    rw [kAt_iff hI hc]
    unfold knk
    simp
  have fin : ∀ M3 : gk_M, M3.2 = M.2 → (∀ a, a ≠ h + o → a ≠ h + o + 1 → M3.1 a = M.1 a) → (∀ l, l < 8 → M3.1 (h + o) l = nN (if cOf S l = c + 1 then 0 else cOf S l) ∧ M3.1 (h + o + 1) l = nN (if kAt S l = c + 1 then 0 else kAt S l)) → HFr h o n M M3 → ∃ M', (gk_put M3 (h + o + 6 + c) 5 (-1) fun M27 => gk_put M27 (h + o + 6 + c) 1 3 fun M28 => gk_put M28 (h + o + 6 + c) 2 (nI why) fun M29 => some M29) = some M' ∧ HR h o M' (endS S c why) ∧ HFr h o n M M' := by
    intro M3 e2 e1 e3 e4
    refine ⟨_, rfl, ?_, ((e4.wr (by omega)).wr (by omega)).wr (by omega)⟩
    refine HR.one hH hI ho (sm_end (why := why)) (fun a a1 a2 a3 => ?_) (fun _ => ?_) (fun l hl8 => ?_)
    · refine ⟨?_, by rw [wr_2, wr_2, wr_2, e2]⟩
      rw [← e1 a a1 a2]; funext j; simp [wr_1, a3]
    · obtain ⟨c0, c1, c2, c3, c4, c5, c6, c7, c8, c9, c10⟩ := hC
      obtain ⟨v1, v2, v3, v4⟩ := e_v S c why
      have hq : ∀ j, (gk_wr (gk_wr (gk_wr M3 (h + o + 6 + c) 5 (-1)) (h + o + 6 + c) 1 3) (h + o + 6 + c) 2 (nI why)).1 (h + o + 6 + c) j = if j = 2 then nI why else if j = 1 then 3 else if j = 5 then -1 else M.1 (h + o + 6 + c) j := by
        intro j
        simp only [wr_1, true_and]
        rw [e1 _ (by omega) (by omega)]
      unfold CR
      rw [v1, v2, v3, v4]
      simp only [hq, wr_2, e2]
      simp only [e_o S c why 6 _ (by decide) (by decide) (by decide) (by decide), e_o S c why 9 _ (by decide) (by decide) (by decide) (by decide), e_o S c why 10 _ (by decide) (by decide) (by decide) (by decide), e_o S c why 11 _ (by decide) (by decide) (by decide) (by decide), e_o S c why 14 _ (by decide) (by decide) (by decide) (by decide), e_o S c why 15 _ (by decide) (by decide) (by decide) (by decide), e_o S c why 16 _ (by decide) (by decide) (by decide) (by decide)]
      rw [h12] at c4
      exact ⟨c0, rfl, rfl, c3, c4, rfl, c6, c7, c8, c9, c10⟩
    · obtain ⟨d1, d2⟩ := cOf_end (why := why) hI hc l
      rw [d1, d2]
      simp only [wr_1, show ¬ h + o = h + o + 6 + c by omega, show ¬ h + o + 1 = h + o + 6 + c by omega, false_and, if_false]
      exact e3 l hl8
  obtain ⟨c0, c1, c2, c3, c4, c5, c6, c7, c8, c9, c10⟩ := hC
  have w0 : ∀ v l, (gk_wr M (h + o) v (-1)).1 (h + o + 6 + c) l = M.1 (h + o + 6 + c) l := fun v l => by rw [wr_1, if_neg (by omega)]
  have w1 : ∀ v v' l, (gk_wr (gk_wr M (h + o) v (-1)) (h + o) v' (-1)).1 (h + o + 6 + c) l = M.1 (h + o + 6 + c) l := fun v v' l => by rw [wr_1, if_neg (by omega), w0]
  unfold f_X2_close
  rw [c0, hw_2 hl (by omega)]
  simp only [gk_jn, w0, c1, nI_e1 (show S 7 c < 2 ^ 31 by omega), nI_e2 (show S 7 c < 2 ^ 31 by omega)]
  by_cases e1 : S 7 c = 1
  · rw [if_pos e1, c5]
    obtain ⟨y, hy⟩ : ∃ y, S 13 c = y + 1 := ⟨S 13 c - 1, by have := ci12 (Or.inl e1); omega⟩
    rw [hy, nN_s, hw_2 hl (by omega)]
    simp only [w1, c1, nI_e2 (show S 7 c < 2 ^ 31 by omega)]
    rw [if_neg (by omega)]
    refine fin _ rfl (fun a a1 a2 => by funext j; rw [wr_1, if_neg (by omega), wr_1, if_neg (by omega)]) (fun l hl8 => ?_) ((HFr.rf.wr (by omega)).wr (by omega))
    refine ⟨?_, ?_⟩
    · rw [wr_1, wr_1]
      by_cases g : cOf S l = c + 1
      · rw [if_pos g]
        rcases (hin l).mp g with q | q
        · by_cases q2 : l = y
          · rw [if_pos ⟨rfl, q2⟩, nN_0]
          · rw [if_neg (by omega), if_pos ⟨rfl, q⟩, nN_0]
        · rw [if_pos ⟨rfl, by omega⟩, nN_0]
      · rw [if_neg g]
        have : ¬ (l = S 6 c ∨ (S 7 c = 1 ∧ S 13 c = l + 1)) := fun q => g ((hin l).mpr q)
        rw [if_neg (by omega), if_neg (by omega)]; exact (hH.2.2.1 l hl8).1
    · rw [wr_1, if_neg (by omega), wr_1, if_neg (by omega), if_neg (fun q => by have := (hkn l).mp q; omega)]; exact (hH.2.2.1 l hl8).2.1
  · rw [if_neg e1]
    by_cases e2 : S 7 c = 2
    · rw [if_pos e2, c5]
      obtain ⟨y, hy⟩ : ∃ y, S 13 c = y + 1 := ⟨S 13 c - 1, by have := ci12 (Or.inr e2); omega⟩
      rw [hy, nN_s, hw_3 hl (by omega)]
      refine fin _ rfl (fun a a1 a2 => by funext j; rw [wr_1, if_neg (by omega), wr_1, if_neg (by omega)]) (fun l hl8 => ?_) ((HFr.rf.wr (by omega)).wr (by omega))
      refine ⟨?_, ?_⟩
      · rw [wr_1, if_neg (by omega), wr_1]
        by_cases g : cOf S l = c + 1
        · rw [if_pos g, if_pos (by rcases (hin l).mp g with q | q; exact ⟨rfl, q⟩; omega), nN_0]
        · rw [if_neg g]
          have : ¬ (l = S 6 c ∨ (S 7 c = 1 ∧ S 13 c = l + 1)) := fun q => g ((hin l).mpr q)
          rw [if_neg (by omega)]; exact (hH.2.2.1 l hl8).1
      · rw [wr_1]
        by_cases g : kAt S l = c + 1
        · have := (hkn l).mp g
          rw [if_pos g, if_pos ⟨rfl, by omega⟩, nN_0]
        · rw [if_neg g, if_neg (fun q => g ((hkn l).mpr ⟨e2, by omega⟩)), wr_1, if_neg (by omega)]; exact (hH.2.2.1 l hl8).2.1
    · rw [if_neg e2]
      refine fin _ rfl (fun a a1 a2 => by funext j; rw [wr_1, if_neg (by omega)]) (fun l hl8 => ?_) (HFr.rf.wr (by omega))
      refine ⟨?_, ?_⟩
      · rw [wr_1]
        by_cases g : cOf S l = c + 1
        · rw [if_pos g, if_pos (by rcases (hin l).mp g with q | q; exact ⟨rfl, q⟩; omega), nN_0]
        · rw [if_neg g]
          have : ¬ (l = S 6 c ∨ (S 7 c = 1 ∧ S 13 c = l + 1)) := fun q => g ((hin l).mpr q)
          rw [if_neg (by omega)]; exact (hH.2.2.1 l hl8).1
      · rw [wr_1, if_neg (by omega), if_neg (fun q => by have := (hkn l).mp q; omega)]; exact (hH.2.2.1 l hl8).2.1
theorem lp_ab_s (hl : hL LN RF h o n b) {M : gk_M} {S : zS} (hH : HR h o M S) (hn4 : S 20 4 ≤ 8) (hB : ∀ i, i < S 20 4 → S 17 i < 8 ∧ S 18 i < 8) {f t : Nat} (hf : f < 8) (ht : t < 8) {K : Unit → Option gk_M} : ∀ r n' i, i + r = S 20 4 → r < n' → lp_X2_addBack_2 LN RF h (nI f) (nI t) M K n' (nI i) = if anf (fun i => S 17 i == f && S 18 i == t) r i false = true then some M else K ()
  | r, 0, i, _, g => absurd g (by omega)
  | 0, n' + 1, i, g1, g2 => by
    rw [lp_X2_addBack_2, hH.1.2.2.1, if_pos (nI_le (by omega) (by omega))]; rfl
  | r + 1, n' + 1, i, g1, g2 => by
    have hb := hB i (by omega)
    have hv := hH.2.2.2 i (by omega)
    have ih := lp_ab_s hl hH hn4 hB hf ht (K := K) r n' (i + 1) (by omega) (by omega)
    rw [lp_X2_addBack_2, hH.1.2.2.1, if_neg (nI_ge (by omega) (by omega)), ha_5 hl (by omega), hv.1]
    simp only [gk_jn, nI_1, ha_6 hl (show i < 8 by omega), hv.2, nI_eq (show S 17 i < 2 ^ 31 by omega) (show f < 2 ^ 31 by omega), nI_eq (show S 18 i < 2 ^ 31 by omega) (show t < 2 ^ 31 by omega)]
    rw [anf]
    by_cases e1 : S 17 i = f
    · by_cases e2 : S 18 i = t
      · rw [if_pos e1, if_pos e2, if_pos ((anf_iff _ _ _ _).mpr (Or.inl (by simp [e1, e2])))]
      · rw [if_pos e1, if_neg e2, ih, show (S 17 i == f && S 18 i == t) = false by simp [e2]]; rfl
    · rw [if_neg e1, ih, show (S 17 i == f && S 18 i == t) = false by simp [e1]]; rfl
/-- the house's cells, but for backs and counts -/
theorem HR.bk {M M' : gk_M} {S S' : zS} (hH : HR h o M S) (ho : 1 ≤ o) (hk : ∀ k, k ≠ 17 → k ≠ 18 → k ≠ 20 → S' k = S k) (e0 : S' 20 0 = S 20 0) (e2 : S' 20 2 = S 20 2) (e3 : S' 20 3 = S 20 3) (hm : ∀ a, a ≠ h → a ≠ h + o + 3 → a ≠ h + o + 4 → M'.1 a = M.1 a) (h2 : M'.2 = M.2) (h7 : ∀ j, j ≠ 9 → M'.1 h j = M.1 h j) (h9 : M'.1 h 9 = nI (S' 20 4)) (hb : ∀ i, i < S' 20 4 → M'.1 (h + o + 3) i = nI (S' 17 i) ∧ M'.1 (h + o + 4) i = nI (S' 18 i)) : HR h o M' S' := by
  obtain ⟨g1, g2, g3, g4⟩ := hH
  have ei : inn S' = inn S := by funext l c; show Bool.and _ _ = Bool.and _ _; rw [hk 7 (by decide) (by decide) (by decide), hk 6 (by decide) (by decide) (by decide), hk 12 (by decide) (by decide) (by decide), hk 13 (by decide) (by decide) (by decide)]
  have ek : knk S' = knk S := by funext l c; show Bool.and _ _ = Bool.and _ _; rw [hk 7 (by decide) (by decide) (by decide), hk 13 (by decide) (by decide) (by decide)]
  refine ⟨⟨by rw [h7 7 (by decide), e0]; exact g1.1, by rw [h7 8 (by decide), e2]; exact g1.2.1, h9, by rw [h7 10 (by decide), e3]; exact g1.2.2.2⟩, fun c hc => ?_, fun l hl => ?_, hb⟩
  · rw [e2] at hc
    have := (g2 c hc).mv (hm _ (by omega) (by omega) (by omega)) (by rw [h2])
    unfold CR at this ⊢
    rw [hk 6 (by decide) (by decide) (by decide), hk 7 (by decide) (by decide) (by decide), hk 8 (by decide) (by decide) (by decide), hk 9 (by decide) (by decide) (by decide), hk 10 (by decide) (by decide) (by decide), hk 11 (by decide) (by decide) (by decide), hk 12 (by decide) (by decide) (by decide), hk 13 (by decide) (by decide) (by decide), hk 14 (by decide) (by decide) (by decide), hk 15 (by decide) (by decide) (by decide), hk 16 (by decide) (by decide) (by decide)]
    exact this
  · unfold cOf kAt
    rw [ei, ek, e2, hk 19 (by decide) (by decide) (by decide), hm (h + o) (by omega) (by omega) (by omega), hm (h + o + 1) (by omega) (by omega) (by omega), hm (h + o + 2) (by omega) (by omega) (by omega)]
    exact g3 l hl
theorem u_addBack (hl : hL LN RF h o n b) {M : gk_M} {S : zS} (hH : HR h o M S) (hn4 : S 20 4 ≤ 8) (hB : ∀ i, i < S 20 4 → S 17 i < 8 ∧ S 18 i < 8) {f t : Nat} (hf : f < 8) (ht : t < 8) : ∃ M', f_X2_addBack LN RF h (nI f) (nI t) M = some M' ∧ HR h o M' (bckS S f t) ∧ HFr h o n M M' := by
  have ho := hl.2.2.2.1.1
  have hlp := lp_ab_s hl hH hn4 hB hf ht (K := fun _ => if nI 8 ≤ nI (S 20 4) then some M else gk_ast LN M (RF h 5) (nI (S 20 4)) (nI f) fun M26 => gk_ast LN M26 (RF h 6) (M26.1 h 9) (nI t) fun M28 => gk_put M28 h 9 (M28.1 h 9 + 1) fun M29 => some M29) (S 20 4) gk_fuel 0 (by omega) (fuel_gt (by omega))
  unfold f_X2_addBack
  simp only [gk_jn, hH.1.2.2.1]
  rw [show (0 : Int32) = nI 0 from rfl, show (8 : Int32) = nI 8 from rfl]
  rw [hlp]
  simp only [nI_leI (show 8 < 2 ^ 31 by omega) (show S 20 4 < 2 ^ 31 by omega)]
  unfold bckS isBk
  by_cases e2 : anf (fun i => S 17 i == f && S 18 i == t) (S 20 4) 0 false = true
  · rw [if_pos e2, if_pos (Or.inr e2)]; exact ⟨M, rfl, hH, HFr.rf⟩
  · rw [if_neg e2]
    by_cases e : S 20 4 = 8
    · rw [if_pos (by omega), if_pos (Or.inl e)]; exact ⟨M, rfl, hH, HFr.rf⟩
    · rw [if_neg (by omega), if_neg (fun g => g.elim e e2), hw_5 hl (by omega), wr_1, if_neg (by omega), hH.1.2.2.1, hw_6 hl (by omega)]
      unfold gk_put
      refine ⟨_, rfl, ?_, ((HFr.rf.wr (by omega)).wr (by omega)).wr (by omega)⟩
      have h9 : (gk_wr (gk_wr M (h + o + 3) (S 20 4) (nI f)) (h + o + 4) (S 20 4) (nI t)).1 h 9 = nI (S 20 4) := by rw [wr_1, if_neg (by omega), wr_1, if_neg (by omega)]; exact hH.1.2.2.1
      rw [h9, nI_1]
      refine HR.bk hH ho (fun k k1 k2 k3 => by funext i; rw [su_k k3, su_k k2, su_k k1]) (by rw [su_i]; simp [su_eq]) (by rw [su_i]; simp [su_eq]) (by rw [su_i]; simp [su_eq]) (fun a a1 a2 a3 => by funext j; simp [wr_1, a1, a2, a3]) rfl (fun j hj => by simp [wr_1, hj, show ¬ h = h + o + 3 by omega, show ¬ h = h + o + 4 by omega]) (by rw [wr_1, if_pos ⟨rfl, rfl⟩, su_s]) (fun i hi => ?_)
      rw [su_s] at hi
      rw [su_k (by decide), su_k (by decide), su_i, su_k (by decide), su_i, su_k (by decide)]
      simp only [wr_1, show ¬ h + o + 3 = h by omega, show ¬ h + o + 4 = h by omega, show ¬ h + o + 3 = h + o + 4 by omega, show ¬ h + o + 4 = h + o + 3 by omega, false_and, if_false, true_and]
      by_cases ei : i = S 20 4
      · rw [if_pos ei, if_pos ei, if_pos ei, if_pos ei]; exact ⟨rfl, rfl⟩
      · rw [if_neg ei, if_neg ei, if_neg ei, if_neg ei]; exact hH.2.2.2 i (by omega)
end HG
