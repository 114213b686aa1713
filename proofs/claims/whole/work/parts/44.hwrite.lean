/-! The class's house: its small steps -/
def HFr (h o n : Nat) (M M' : gk_M) : Prop := ∀ a, a ≠ h → (a < h + o ∨ h + o + 6 + n ≤ a) → M'.1 a = M.1 a ∧ M'.2 a = M.2 a
theorem HFr.rf {h o n : Nat} {M : gk_M} : HFr h o n M M := fun _ _ _ => ⟨rfl, rfl⟩
theorem HFr.tr {h o n : Nat} {A B C : gk_M} (x : HFr h o n A B) (y : HFr h o n B C) : HFr h o n A C := fun a p q => ⟨(y a p q).1.trans (x a p q).1, (y a p q).2.trans (x a p q).2⟩
theorem HFr.wr {h o n : Nat} {M M' : gk_M} (x : HFr h o n M M') {a i : Nat} {v : Int32} (ha : a = h ∨ (h + o ≤ a ∧ a < h + o + 6 + n)) : HFr h o n M (gk_wr M' a i v) := by
  intro b p q
  refine ⟨?_, (x b p q).2⟩
  rw [← (x b p q).1]
  funext j
  rw [wr_1, if_neg (by omega)]
theorem HFr.wl {h o n : Nat} {M M' : gk_M} (x : HFr h o n M M') {a : Nat} {v : Int64} (ha : h + o ≤ a ∧ a < h + o + 6 + n) : HFr h o n M (gk_wl M' a v) := by
  intro b p q
  refine ⟨(x b p q).1, ?_⟩
  rw [← (x b p q).2, wl_2, if_neg (by omega)]
theorem BR.fr {LN : Nat → Nat} {RF : Nat → Nat → Nat} {h o n b : Nat} {M M' : gk_M} {W : zS} (hl : hL LN RF h o n b) (hW : WB W) (hB : BR b M W) (hf : HFr h o n M M') : BR b M' W := by
  have h4 := hl.2.2.2.1
  have hn := hW.1
  refine ⟨by rw [(hf b (by omega) (by omega)).1]; exact hB.1, fun w k hw hk => ?_⟩
  rw [(hf (b + 2 + w) (by omega) (by omega)).1]
  exact hB.2 w k hw hk
/-- the parts of the abstract state that a call's cell tells -/
theorem CR.cg {M : gk_M} {a : Nat} {S S' : zS} {c : Nat} (h : CR M a S c) (h9 : S 9 c ≤ 9) (e6 : S' 6 c = S 6 c) (e7 : S' 7 c = S 7 c) (e8 : S' 8 c = S 8 c) (e9 : S' 9 c = S 9 c) (e12 : S' 12 c = S 12 c) (e13 : S' 13 c = S 13 c) (e14 : S' 14 c = S 14 c) (e15 : S' 15 c = S 15 c) (e10 : ∀ i, i < 9 → S' 10 (9 * c + i) = S 10 (9 * c + i)) (e11 : ∀ i, i < 9 → S' 11 (9 * c + i) = S 11 (9 * c + i)) (e16 : ∀ i, i < 10 → S' 16 (10 * c + i) = S 16 (10 * c + i)) : CR M a S' c := by
  unfold CR at h ⊢
  rw [e6, e7, e8, e9, e12, e13, e14, e15, pk4_cg (f := fun i => S' 10 (9 * c + i)) (g := fun i => S 10 (9 * c + i)) _ (fun i hi => e10 i (by omega)), pk4_cg (f := fun i => S' 11 (9 * c + i)) (g := fun i => S 11 (9 * c + i)) _ (fun i hi => e11 i (by omega)), pk5_cg (f := fun i => S' 16 (10 * c + i)) (g := fun i => S 16 (10 * c + i)) _ (fun i hi => e16 i (by omega))]
  exact h
theorem CR.mv {M M' : gk_M} {a : Nat} {S : zS} {c : Nat} (h : CR M a S c) (e1 : M'.1 a = M.1 a) (e2 : M'.2 a = M.2 a) : CR M' a S c := by
  unfold CR at h ⊢; rw [e1, e2]; exact h
theorem HR.one {h o N : Nat} {M M' : gk_M} {S S' : zS} {c : Nat} (hH : HR h o M S) (hI : SI N S) (ho : 1 ≤ o) (sm : Sm S S' c) (hm : ∀ a, a ≠ h + o → a ≠ h + o + 1 → a ≠ h + o + 6 + c → M'.1 a = M.1 a ∧ M'.2 a = M.2 a) (hC : c < S 20 2 → CR M' (h + o + 6 + c) S' c) (hi : ∀ l, l < 8 → M'.1 (h + o) l = nN (cOf S' l) ∧ M'.1 (h + o + 1) l = nN (kAt S' l)) : HR h o M' S' := by
  obtain ⟨h1, h2, h3, h4⟩ := hH
  have e20 := sm.2.2.2.1
  refine ⟨?_, fun b hb => ?_, fun l hl => ⟨(hi l hl).1, (hi l hl).2, ?_⟩, fun i hi' => ?_⟩
  · rw [(hm h (by omega) (by omega) (by omega)).1, e20, e20, e20, e20]; exact h1
  · rw [e20] at hb
    by_cases e : b = c
    · subst e; exact hC hb
    · obtain ⟨s1, s2, s3, s4, s5, s6, s7⟩ := sm.2.2.2.2.2.1 b e
      have h9 := (hI.2.1 b hb).2.2.1
      exact ((h2 b hb).mv (hm _ (by omega) (by omega) (by omega)).1 (hm _ (by omega) (by omega) (by omega)).2).cg (by omega) (sm.1 b) s1 s2 s3 s4 s5 s6 s7 (fun i hi => (sm.2.2.2.2.2.2.1 b i e hi).1) (fun i hi => (sm.2.2.2.2.2.2.1 b i e hi).2) (fun i hi => sm.2.2.2.2.2.2.2 b i e hi)
  · rw [(hm (h + o + 2) (by omega) (by omega) (by omega)).1, sm.2.2.2.2.1]; exact (h3 l hl).2.2
  · rw [e20] at hi'
    rw [(hm (h + o + 3) (by omega) (by omega) (by omega)).1, (hm (h + o + 4) (by omega) (by omega) (by omega)).1, sm.2.1, sm.2.2.1]; exact h4 i hi'
section HW
variable {LN : Nat → Nat} {RF : Nat → Nat → Nat} {h o n b : Nat} {W : zS}
theorem u_enter {M : gk_M} {S : zS} {a c t s p : Nat} (hC : CR M a S c) (hr : S 9 c < 8) (hrow : ∀ i, i < S 9 c → S 10 (9 * c + i) < 8 ∧ S 11 (9 * c + i) < 8) (ht : t < 8) (hp : p < 8) (hpp : p = if S 9 c = 0 ∧ hasW W t 7 = true then t else s) : ∃ M', f_X1_enter LN RF a (nI t) (nI p) M = some M' ∧ CR M' a (comS W S c t s) c ∧ ∀ x, x ≠ a → M'.1 x = M.1 x ∧ M'.2 x = M.2 x := by
  obtain ⟨c0, c1, c2, c3, c4, c5, c6, c7, c8, c9, c10⟩ := hC
  unfold f_X1_enter gk_put
  refine ⟨_, rfl, ?_, fun x hx => ?_⟩
  · unfold CR
    simp only [wr_1, wr_2, true_and, show (0 : Nat) ≠ 3 by decide, show (0 : Nat) ≠ 9 by decide, show (0 : Nat) ≠ 8 by decide, show (1 : Nat) ≠ 3 by decide, show (1 : Nat) ≠ 9 by decide, show (1 : Nat) ≠ 8 by decide, show (2 : Nat) ≠ 3 by decide, show (2 : Nat) ≠ 9 by decide, show (2 : Nat) ≠ 8 by decide, show (3 : Nat) ≠ 9 by decide, show (3 : Nat) ≠ 8 by decide, show (4 : Nat) ≠ 3 by decide, show (4 : Nat) ≠ 9 by decide, show (4 : Nat) ≠ 8 by decide, show (5 : Nat) ≠ 3 by decide, show (5 : Nat) ≠ 9 by decide, show (5 : Nat) ≠ 8 by decide, show (6 : Nat) ≠ 3 by decide, show (6 : Nat) ≠ 9 by decide, show (6 : Nat) ≠ 8 by decide, show (7 : Nat) ≠ 3 by decide, show (7 : Nat) ≠ 9 by decide, show (7 : Nat) ≠ 8 by decide, show (8 : Nat) ≠ 3 by decide, show (8 : Nat) ≠ 9 by decide, show (9 : Nat) ≠ 3 by decide, show (9 : Nat) ≠ 8 by decide, if_true, if_false]
    rw [c_9, c3, c8, c9, row_in (f := fun i => S 10 (9 * c + i)) hr (fun i hi => by have := (hrow i hi).1; omega) (by omega), row_in (f := fun i => S 11 (9 * c + i)) hr (fun i hi => by have := (hrow i hi).2; omega) (by omega), nI_1]
    simp only [c_o W S c t s 6 _ (by decide) (by decide) (by decide), c_o W S c t s 7 _ (by decide) (by decide) (by decide), c_o W S c t s 8 _ (by decide) (by decide) (by decide), c_o W S c t s 12 _ (by decide) (by decide) (by decide), c_o W S c t s 13 _ (by decide) (by decide) (by decide), c_o W S c t s 14 _ (by decide) (by decide) (by decide), c_o W S c t s 15 _ (by decide) (by decide) (by decide), c_o W S c t s 16 _ (by decide) (by decide) (by decide)]
    refine ⟨c0, c1, c2, trivial, c4, c5, c6, c7, ?_, ?_, c10⟩
    · rw [pk4]
      congr 2
      · exact pk4_cg _ (fun i hi => by rw [c_10, if_neg (by omega)])
      · rw [c_10, if_pos rfl]
    · rw [pk4]
      congr 2
      · exact pk4_cg _ (fun i hi => by rw [c_11, if_neg (by omega)])
      · rw [c_11, if_pos rfl, hpp]
  · refine ⟨?_, rfl⟩
    funext j
    simp [wr_1, hx]
theorem u_note {M : gk_M} {S : zS} {a c w : Nat} (hC : CR M a S c) (hs : S 15 c < 1000) (hw : w < 24) (h16 : ∀ i, i < S 15 c → i < 10 → S 16 (10 * c + i) < 24) : ∃ M', f_X1_note LN RF a (nI w) M = some M' ∧ CR M' a (notS S c w) c ∧ ∀ x, x ≠ a → M'.1 x = M.1 x ∧ M'.2 x = M.2 x := by
  obtain ⟨c0, c1, c2, c3, c4, c5, c6, c7, c8, c9, c10⟩ := hC
  have hfin : ∀ M1 : gk_M, M1.1 = M.1 → M1.2 a = lN (pk5 (fun i => notS S c w 16 (10 * c + i)) (min (S 15 c + 1) 10)) → (∀ x, x ≠ a → M1.2 x = M.2 x) → CR (gk_wr M1 a 7 (nI (S 15 c) + 1)) a (notS S c w) c ∧ ∀ x, x ≠ a → (gk_wr M1 a 7 (nI (S 15 c) + 1)).1 x = M.1 x ∧ (gk_wr M1 a 7 (nI (S 15 c) + 1)).2 x = M.2 x := by
    intro M1 e1 e2 e3
    constructor
    · unfold CR
      rw [n_v]
      simp only [wr_1, wr_2, true_and, e1, show (0 : Nat) ≠ 7 by decide, show (1 : Nat) ≠ 7 by decide, show (2 : Nat) ≠ 7 by decide, show (3 : Nat) ≠ 7 by decide, show (4 : Nat) ≠ 7 by decide, show (5 : Nat) ≠ 7 by decide, show (6 : Nat) ≠ 7 by decide, show (8 : Nat) ≠ 7 by decide, show (9 : Nat) ≠ 7 by decide, if_true, if_false, n_o S c w 6 _ (by decide) (by decide), n_o S c w 7 _ (by decide) (by decide), n_o S c w 8 _ (by decide) (by decide), n_o S c w 9 _ (by decide) (by decide), n_o S c w 10 _ (by decide) (by decide), n_o S c w 11 _ (by decide) (by decide), n_o S c w 12 _ (by decide) (by decide), n_o S c w 13 _ (by decide) (by decide), n_o S c w 14 _ (by decide) (by decide)]
      exact ⟨c0, c1, c2, c3, c4, c5, c6, nI_1 _, c8, c9, e2⟩
    · intro x hx
      refine ⟨?_, e3 x hx⟩
      rw [← e1]
      funext j
      simp [wr_1, hx]
  unfold f_X1_note
  simp only [gk_jn, c7, show (10 : Int32) = nI 10 from rfl, nI_leI (show 10 < 2 ^ 31 by omega) (show S 15 c < 2 ^ 31 by omega), gk_put, gk_putl]
  by_cases e : 10 ≤ S 15 c
  · rw [if_pos e]
    obtain ⟨x1, x2⟩ := hfin M rfl (by
      rw [c10, show min (S 15 c) 10 = 10 by omega, show min (S 15 c + 1) 10 = 10 by omega]
      congr 1
      exact pk5_cg _ (fun i hi => by rw [n_16, if_neg (by omega)])) (fun _ _ => rfl)
    exact ⟨_, rfl, x1, x2⟩
  · rw [if_neg e, wl_1, c7]
    have hm : min (S 15 c) 10 = S 15 c := by omega
    obtain ⟨x1, x2⟩ := hfin (gk_wl M a (M.2 a ||| ((nI w).toInt64 <<< (((5 : Int32) * nI (S 15 c)).toInt64 &&& 63)))) rfl (by
      rw [wl_2, if_pos rfl, c10, hm, act_in (f := fun i => S 16 (10 * c + i)) (by omega) (fun i hi => by have := h16 i hi (by omega); omega) (by omega), show min (S 15 c + 1) 10 = S 15 c + 1 by omega, pk5]
      congr 2
      · exact pk5_cg _ (fun i hi => by rw [n_16, if_neg (by omega)])
      · rw [n_16, if_pos ⟨by omega, rfl⟩]) (fun x hx => by rw [wl_2, if_neg hx])
    exact ⟨_, rfl, x1, x2⟩
theorem lp_ring_s (hl : hL LN RF h o n b) {c ls : Nat} (h256 : ls < 256) {K : gk_M → Option gk_M} : ∀ (r n' l : Nat) (M : gk_M), l + r = 8 → r < n' → ∃ M', lp_X2_ringAt_30 LN RF h (nI c) (nI ls) K n' (nI l, M) = K M' ∧ (∀ a, a ≠ h + o → M'.1 a = M.1 a) ∧ M'.2 = M.2 ∧ ∀ x, M'.1 (h + o) x = if l ≤ x ∧ x < 8 ∧ ls.testBit x = true then nI c else M.1 (h + o) x
  | r, 0, l, M, _, g => absurd g (by omega)
  | 0, n' + 1, l, M, g1, g2 => by
    refine ⟨M, ?_, fun _ _ => rfl, rfl, fun x => by rw [if_neg (by omega)]⟩
    rw [lp_X2_ringAt_30, show (8 : Int32) = nI 8 from rfl, if_pos (nI_le (by omega) (by omega))]
  | r + 1, n' + 1, l, M, g1, g2 => by
    rw [lp_X2_ringAt_30, show (8 : Int32) = nI 8 from rfl, if_neg (nI_ge (by omega) (by omega))]
    simp only [gk_jn, nI_1, bit_ge _ h256 l (show l < 8 by omega), bI_0]
    cases e : ls.testBit l with
    | false =>
      rw [if_pos rfl]
      obtain ⟨M', q1, q2, q3, q4⟩ := lp_ring_s hl h256 (K := K) r n' (l + 1) M (by omega) (by omega)
      refine ⟨M', q1, q2, q3, fun x => ?_⟩
      rw [q4 x]
      by_cases ex : x = l
      · subst ex; rw [if_neg (by omega), if_neg (by rw [e]; simp)]
      · by_cases g : l + 1 ≤ x ∧ x < 8 ∧ ls.testBit x = true
        · rw [if_pos g, if_pos ⟨by omega, g.2⟩]
        · rw [if_neg g, if_neg (fun y => g ⟨by omega, y.2⟩)]
    | true =>
      rw [if_neg (by decide), hw_2 hl (by omega)]
      obtain ⟨M', q1, q2, q3, q4⟩ := lp_ring_s hl h256 (c := c) (K := K) r n' (l + 1) (gk_wr M (h + o) l (nI c)) (by omega) (by omega)
      refine ⟨M', q1, fun a ha => ?_, q3, fun x => ?_⟩
      · rw [q2 a ha]; funext j; rw [wr_1, if_neg (by omega)]
      · rw [q4 x, wr_1]
        by_cases ex : x = l
        · subst ex; rw [if_neg (by omega), if_pos ⟨rfl, rfl⟩, if_pos ⟨by omega, by omega, e⟩]
        · by_cases g : l + 1 ≤ x ∧ x < 8 ∧ ls.testBit x = true
          · rw [if_pos g, if_pos ⟨by omega, g.2⟩]
          · rw [if_neg g, if_neg (by omega), if_neg (fun y => g ⟨by omega, y.2⟩)]
theorem wr4 (M : gk_M) (a : Nat) (v1 v4 v5 v6 : Int32) (j : Nat) : (gk_wr (gk_wr (gk_wr (gk_wr M a 1 v1) a 4 v4) a 5 v5) a 6 v6).1 a j = if j = 6 then v6 else if j = 5 then v5 else if j = 4 then v4 else if j = 1 then v1 else M.1 a j := by
  simp only [wr_1, true_and]
/-- ringing: the lines of the set are in the call -/
theorem u_ringAt (hl : hL LN RF h o n b) {M : gk_M} {S : zS} (hH : HR h o M S) {N : Nat} (hN : N ≤ n) (hI : SI N S) {c ls : Nat} (hc : c < S 20 2) (h256 : ls < 256) (hI' : SI N (rngS S c ls)) (h7 : S 7 c = 0 ∨ S 7 c = 2) (h12 : S 12 c = 0) (M1 : gk_M) (h1a : ∀ a, a ≠ h + o + 1 → M1.1 a = M.1 a) (h1b : M1.2 = M.2) (h1c : ∀ l, l < 8 → M1.1 (h + o + 1) l = nN (if kAt S l = c + 1 then 0 else kAt S l)) : ∃ M', f_X2_ringAt LN RF h (nI c) (nI ls) M1 = some M' ∧ HR h o M' (rngS S c ls) ∧ HFr h o n M1 M' := by
  have h1 := hI.1
  have ho := hl.2.2.2.1.1
  unfold f_X2_ringAt
  rw [ha_c hl (by omega)]
  simp only [gk_put, gk_jn]
  obtain ⟨M', q1, q2, q3, q4⟩ := lp_ring_s hl (c := c) h256 (K := fun y => some y) 8 gk_fuel 0 (gk_wr (gk_wr (gk_wr (gk_wr M1 (h + o + 6 + c) 1 0) (h + o + 6 + c) 4 (nI ls)) (h + o + 6 + c) 5 (-1)) (h + o + 6 + c) 6 0) (by omega) (fuel_gt (by omega))
  refine ⟨M', by rw [show ((0 : Int32), gk_wr (gk_wr (gk_wr (gk_wr M1 (h + o + 6 + c) 1 0) (h + o + 6 + c) 4 (nI ls)) (h + o + 6 + c) 5 (-1)) (h + o + 6 + c) 6 0) = (nI 0, gk_wr (gk_wr (gk_wr (gk_wr M1 (h + o + 6 + c) 1 0) (h + o + 6 + c) 4 (nI ls)) (h + o + 6 + c) 5 (-1)) (h + o + 6 + c) 6 0) from rfl, q1], ?_, ?_⟩
  · have hCc := hH.2.1 c hc
    refine HR.one hH hI ho (sm_rng (ls := ls)) (fun a a1 a2 a3 => ?_) (fun _ => ?_) (fun l hl8 => ?_)
    · rw [q2 a a1, q3]
      refine ⟨?_, by rw [wr_2, wr_2, wr_2, wr_2, h1b]⟩
      rw [← h1a a a2]
      funext j
      simp [wr_1, a3]
    · obtain ⟨c0, c1, c2, c3, c4, c5, c6, c7, c8, c9, c10⟩ := hCc
      obtain ⟨v1, v2, v3, v4⟩ := r_v S c ls
      have hq : ∀ j, M'.1 (h + o + 6 + c) j = if j = 6 then 0 else if j = 5 then -1 else if j = 4 then nI ls else if j = 1 then 0 else M.1 (h + o + 6 + c) j := by
        intro j
        rw [q2 _ (by omega), wr4, h1a _ (by omega)]
      unfold CR
      rw [v1, v2, v3, v4]
      simp only [hq, q3, wr_2, h1b]
      simp only [r_o S c ls 6 _ (by decide) (by decide) (by decide) (by decide), r_o S c ls 8 _ (by decide) (by decide) (by decide) (by decide), r_o S c ls 9 _ (by decide) (by decide) (by decide) (by decide), r_o S c ls 10 _ (by decide) (by decide) (by decide) (by decide), r_o S c ls 11 _ (by decide) (by decide) (by decide) (by decide), r_o S c ls 15 _ (by decide) (by decide) (by decide) (by decide), r_o S c ls 16 _ (by decide) (by decide) (by decide) (by decide)]
      exact ⟨c0, rfl, c2, c3, rfl, rfl, rfl, c7, c8, c9, c10⟩
    · obtain ⟨d1, d2⟩ := cOf_rng hI hI' hc h7 h12 l
      rw [d1, d2, q4 l, q2 _ (by omega)]
      constructor
      · by_cases e : ls.testBit l = true
        · rw [if_pos ⟨by omega, hl8, e⟩, if_pos e, nN_s]
        · rw [if_neg (fun y => e y.2.2), if_neg e]
          have : (gk_wr (gk_wr (gk_wr (gk_wr M1 (h + o + 6 + c) 1 0) (h + o + 6 + c) 4 (nI ls)) (h + o + 6 + c) 5 (-1)) (h + o + 6 + c) 6 0).1 (h + o) l = M.1 (h + o) l := by
            rw [← h1a (h + o) (by omega)]
            simp only [wr_1, show ¬ h + o = h + o + 6 + c by omega, false_and, if_false]
          rw [this]; exact (hH.2.2.1 l hl8).1
      · rw [← h1c l hl8]
        simp only [wr_1, show ¬ h + o + 1 = h + o + 6 + c by omega, false_and, if_false]
  · refine HFr.tr ((((HFr.rf.wr (a := h + o + 6 + c) (i := 1) (v := 0) (by omega)).wr (a := h + o + 6 + c) (i := 4) (v := nI ls) (by omega)).wr (a := h + o + 6 + c) (i := 5) (v := -1) (by omega)).wr (a := h + o + 6 + c) (i := 6) (v := 0) (by omega)) (fun a a1 a2 => ⟨q2 a (by omega), by rw [q3]⟩)
end HW
