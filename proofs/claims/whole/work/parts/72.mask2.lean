/-! The reference: judge, alone, peace -/
def FrS (m : Nat) (M M' : gk_M) : Prop := M'.2 = M.2 ∧ ∀ a i, (a ≤ m ∨ m + 22 ≤ a) → (a < m + 23 ∨ m + 27 < a) → ¬ (a = m ∧ (i = 28 ∨ i = 32)) → M'.1 a i = M.1 a i
theorem FrS.rf {m : Nat} {M : gk_M} : FrS m M M := ⟨rfl, fun _ _ _ _ _ => rfl⟩
theorem FrS.tr {m : Nat} {A B C : gk_M} (h1 : FrS m A B) (h2 : FrS m B C) : FrS m A C := ⟨h2.1.trans h1.1, fun a i p q r => (h2.2 a i p q r).trans (h1.2 a i p q r)⟩
theorem FrS.wr {m : Nat} {M M' : gk_M} (h : FrS m M M') {a i : Nat} {v : Int32} (ha : m + 1 ≤ a ∧ a < m + 22) : FrS m M (gk_wr M' a i v) := ⟨h.1, fun b j p q r => by rw [wr_1, if_neg (by omega)]; exact h.2 b j p q r⟩
section MA
variable {LN : Nat → Nat} {RF : Nat → Nat → Nat} {m : Nat} {W S : zS} {l : List Nat} {kd a b : Nat} {z : Int32}
theorem t_ask (hm : mL LN RF m) {M : gk_M} (h : MR m M W S) (hV : IV W S) {s d : Nat} (hs : s < 256) (hl : odd s = some l) (hn0 : 0 < l.length) (hn13 : l.length ≤ 13) (hD : ∀ i, i < l.length → l.getD i 0 < 5000 ∧ gA (S 20 0) (l.getD i 0)) (hkd : kd < 3) (ha : a < S 20 0) (hz : kd = 1 ∨ (z = nI b ∧ b < S 20 0)) (h3 : d ≤ 3) :
    ∃ M', f_X8_search LN RF m (nI kd) (nI a) z (nI s) (nI d) M = some (nI (jfn W S kd a b s d), M') ∧ MR m M' W S ∧ FrS m M M' ∧ (jfn W S kd a b s d ≠ 0 → ∀ q, q < jfn W S kd a b s d → M'.1 (m + 27) q = nI (pck (tst W (fun i => l.getD i 0) l.length S kd a b) l (jfn W S kd a b s d) q)) := by
  rw [jfn_e hl]
  obtain ⟨M1, p1, p2, p3, p4, p5⟩ := t_search hm h hV hs hl hn0 hn13 hD hkd ha hz h3 (p := tst W (fun i => l.getD i 0) l.length S kd a b) (fun S' V' e' len jj hlen => (tst_any hV V' e'.symm hn0 hD hkd ha (by rcases hz with g | g; exact Or.inl g; exact Or.inr g.2) hlen).symm)
  exact ⟨M1, p1, p2, ⟨p3, p4⟩, p5⟩
theorem lp_mj_s (hm : mL LN RF m) {J : Nat} (hJ : J ≤ 3) {K : gk_M → Option (Int32 × gk_M)} : ∀ (r n k : Nat) (M : gk_M), M.1 m 33 = nI J → k + r = J → r < n → ∃ M', lp_X8_judge_38 LN RF m K n (nI k, M) = K M' ∧ M'.2 = M.2 ∧ (∀ a i, ¬ (a = m + 28 ∧ k ≤ i ∧ i < J) → M'.1 a i = M.1 a i) ∧ ∀ q, k ≤ q → q < J → M'.1 (m + 28) q = M.1 (m + 27) q
  | r, 0, k, M, _, _, g => absurd g (by omega)
  | 0, n + 1, k, M, h33, g1, g2 => by
    rw [lp_X8_judge_38, h33, if_pos (nI_le (by omega) (by omega))]
    exact ⟨M, rfl, rfl, fun _ _ _ => rfl, fun q h1 h2 => by omega⟩
  | r + 1, n + 1, k, M, h33, g1, g2 => by
    rw [lp_X8_judge_38, h33, if_neg (nI_ge (by omega) (by omega)), hm.2.2.1.2.2.2.1, ald_n (by rw [hm.2.2.2.2.2.2.1]; omega) (by omega), hm.2.2.1.2.2.2.2.1, ast_n (by rw [hm.2.2.2.2.2.2.2.1]; omega) (by omega), nI_1]
    obtain ⟨M', q1, q2, q3, q4⟩ := lp_mj_s hm hJ (K := K) r n (k + 1) (gk_wr M (m + 28) k (M.1 (m + 27) k)) (by rw [wr_1, if_neg (by omega)]; exact h33) (by omega) (by omega)
    refine ⟨M', q1, q2, fun y i hy => by rw [q3 y i (by omega), wr_1, if_neg (by omega)], fun q h1 h2 => ?_⟩
    by_cases e : q = k
    · subst e; rw [q3 _ _ (by omega), wr_1, if_pos ⟨rfl, rfl⟩]
    · rw [q4 q (by omega) h2, wr_1, if_neg (by omega)]
theorem t_judge (hm : mL LN RF m) {M : gk_M} (h : MR m M W S) (hV : IV W S) (a1 a2 a3 a4 a5 : Int32) (hj : jok (S 20 0) a1 a2 a3 a4 a5 = true) : ∃ M' l, odd (tN a4) = some l ∧ f_X8_judge LN RF m a1 a2 a3 a4 a5 M = some (nI (jfn W S (tN a1) (tN a2) (tN a3) (tN a4) (tN a5)), M') ∧ MR m M' W S ∧ M'.1 m 33 = nI (jfn W S (tN a1) (tN a2) (tN a3) (tN a4) (tN a5)) ∧ M'.1 m 25 = 0 ∧ (∀ q, q < jfn W S (tN a1) (tN a2) (tN a3) (tN a4) (tN a5) → q < 3 ∧ M'.1 (m + 28) q = nI (pck (tst W (fun i => l.getD i 0) l.length S (tN a1) (tN a2) (tN a3)) l (jfn W S (tN a1) (tN a2) (tN a3) (tN a4) (tN a5)) q)) ∧ M'.2 = M.2 ∧ ∀ a i, (a ≤ m ∨ m + 22 ≤ a) → (a < m + 23 ∨ m + 28 < a) → ¬ (a = m ∧ (i = 25 ∨ i = 28 ∨ i = 32 ∨ i = 33)) → M'.1 a i = M.1 a i := by
  have h8 := hV.2.1.1.1
  obtain ⟨l, ⟨e1, k1⟩, ⟨e2, k2⟩, k3, ⟨e4, k4⟩, ⟨e5, k5⟩, hl, hn0, hn13, hD⟩ := jok_s h8 hj
  obtain ⟨M1, p1, p2, p3, p4⟩ := t_ask hm h hV k4 hl hn0 hn13 hD k1 k2 k3 k5
  rw [← e1, ← e2, ← e4, ← e5] at p1
  unfold f_X8_judge
  rw [t_isAsked hm h hV.2.1, hj]
  simp only [Option.bind_some, bI_0, if_neg tf]
  rw [p1, Option.bind_some]
  simp only [gk_put, gk_jn]
  obtain ⟨J, hJ⟩ : ∃ J, J = jfn W S (tN a1) (tN a2) (tN a3) (tN a4) (tN a5) := ⟨_, rfl⟩
  have hJ3 : J ≤ 3 := by
    rw [hJ, jfn_e hl]
    rcases fnd_le (tst W (fun i => l.getD i 0) l.length S (tN a1) (tN a2) (tN a3)) l.length (tN a5) 1 with g | g <;> omega
  rw [← hJ] at p4 ⊢
  obtain ⟨M2, q1, q2, q3, q4⟩ := lp_mj_s hm hJ3 (K := fun y25 => (f_X8_done LN RF m (y25.1 m 33) y25).bind fun r27 => some (r27.1, r27.2)) J gk_fuel 0 (gk_wr M1 m 33 (nI J)) (by rw [wr_1, if_pos ⟨rfl, rfl⟩]) (by omega) (fuel_gt (by omega))
  rw [show ((0 : Int32), gk_wr M1 m 33 (nI J)) = (nI 0, gk_wr M1 m 33 (nI J)) from rfl, q1]
  have e33 : M2.1 m 33 = nI J := by rw [q3 _ _ (by omega), wr_1, if_pos ⟨rfl, rfl⟩]
  unfold f_X8_done
  simp only [gk_put, Option.bind_some, e33]
  refine ⟨_, l, hl, rfl, ?_, ?_, ?_, fun q hq => ⟨by omega, ?_⟩, ?_, fun y i h1 h2 h3 => ?_⟩
  · refine MR.st (MR_out p2 (fun y h1 h2 => by funext i; rw [q3 _ _ (by omega), wr_1, if_neg (by omega)]))
  · rw [wr_1, if_neg (by omega)]; exact e33
  · rw [wr_1, if_pos ⟨rfl, rfl⟩]
  · rw [wr_1, if_neg (by omega), q4 q (by omega) hq, wr_1, if_neg (by omega)]
    exact p4 (by omega) q hq
  · show M2.2 = M.2
    rw [q2]; exact p3.1
  · rw [wr_1, if_neg (by omega), q3 _ _ (by omega), wr_1, if_neg (by omega), p3.2 y i h1 (by omega) (by omega)]
/-- rows that are the same but for some marks -/
def Lq (W W' : zS) : Prop := (∀ k i, k ≠ 5 → W' k i = W k i) ∧ ∀ i, W 6 0 ≤ i → W' 5 i = W 5 i
theorem t_these (hm : mL LN RF m) {M : gk_M} (h : MR m M W S) {w : Nat} (hw : w < 24) (hk : W 1 w < 8) : f_X8_isOfThese LN RF m (nI w) M = some (bI (ths (W 1 w))) := by
  unfold f_X8_isOfThese
  simp only [mr_1 hm h hw, gk_jn, zz_0, zz_1, nI_e1 (show W 1 w < 2 ^ 31 by omega), nI_e2 (show W 1 w < 2 ^ 31 by omega), nI_e4 (show W 1 w < 2 ^ 31 by omega)]
  unfold ths
  by_cases e1 : W 1 w = 1
  · simp [e1, bI]
  · by_cases e2 : W 1 w = 2
    · simp [e2, bI]
    · by_cases e4 : W 1 w = 4
      · simp [e4, bI]
      · simp [e1, e2, e4, bI]
/-- a row of marks is written anew from the first on -/
def mrk (f : Nat → Nat) (W : zS) (n : Nat) : zS := fun k q => if k = 5 ∧ q < n then f q else W k q
theorem mrk_s {f : Nat → Nat} {n : Nat} : su (mrk f W n) 5 n (f n) = mrk f W (n + 1) := by
  funext k q
  rw [su_eq]
  unfold mrk
  by_cases hk : k = 5
  · by_cases hq : q = n
    · subst hq; simp [hk]
    · by_cases h2 : q < n
      · simp [hk, hq, h2, show q < n + 1 by omega]
      · simp [hk, hq, h2, show ¬ q < n + 1 by omega]
  · simp [hk]
theorem mrk_k {f : Nat → Nat} {n k q : Nat} (hk : k ≠ 5) : mrk f W n k q = W k q := by unfold mrk; rw [if_neg (fun g => hk g.1)]
theorem mrk_0 {f : Nat → Nat} : mrk f W 0 = W := by funext k q; unfold mrk; rw [if_neg (by omega)]
theorem mrk_e {W' : zS} {f : Nat → Nat} (hq : Lq W W') (hf : ∀ i, i < W 6 0 → f i = W 5 i) : mrk f W' (W 6 0) = W := by
  funext k q
  unfold mrk
  by_cases hk : k = 5
  · by_cases h2 : q < W 6 0
    · rw [if_pos ⟨hk, h2⟩, hf q h2, hk]
    · rw [if_neg (fun g => h2 g.2), hk, hq.2 q (by omega)]
  · rw [if_neg (fun g => hk g.1), hq.1 k q hk]
theorem mrk_l {W' : zS} {w : Nat} (hq : Lq W W') : mrk (fun i => lonW W w 5 i) W' (W 6 0) = lonW W w := by
  funext k q
  unfold mrk
  by_cases hk : k = 5
  · by_cases h2 : q < W 6 0
    · rw [if_pos ⟨hk, h2⟩, hk]
    · rw [if_neg (fun g => h2 g.2), hk, hq.2 q (by omega)]
      unfold lonW lonP
      rw [if_neg (fun g => h2 g.2.1)]
  · rw [if_neg (fun g => hk g.1), hq.1 k q hk]
    exact (lonP_k hk).symm
/-- marks that were put aside -/
def OA (m : Nat) (M : gk_M) (W : zS) : Prop := ∀ i, i < W 6 0 → M.1 (m + 29) i = nI (W 5 i)
theorem lp_m87_s (hm : mL LN RF m) (hW : WB W) {w : Nat} (hw : w < 24) {v1 v2 v3 v4 v5 v6 : Int32} {W' : zS} (hq : Lq W W') {K : gk_M → Option (Int32 × gk_M)} : ∀ (r n i : Nat) (M : gk_M), MR m M (mrk (fun i => lonW W w 5 i) W' i) S → OA m M W → i + r = W 6 0 → r < n → ∃ M', lp_X8_alone_87 LN RF m v1 v2 v3 v4 v5 v6 (nI w) K n (nI i, M) = K M' ∧ MR m M' (lonW W w) S ∧ FrS m M M'
  | r, 0, i, M, _, _, _, g => absurd g (by omega)
  | 0, n + 1, i, M, h, ho, g1, g2 => by
    have h24 := hW.1
    rw [lp_X8_alone_87, mr_W hm h, mrk_k (by decide), hq.1 6 0 (by decide), if_pos (nI_le (by omega) (by omega))]
    rw [show i = W 6 0 by omega, mrk_l hq] at h
    exact ⟨M, rfl, h, FrS.rf⟩
  | r + 1, n + 1, i, M, h, ho, g1, g2 => by
    have h24 := hW.1
    have hk1 : mrk (fun i => lonW W w 5 i) W' i 1 i = W 1 i := by rw [mrk_k (by decide), hq.1 1 i (by decide)]
    have hth := t_these hm h (show i < 24 by omega) (by rw [hk1]; exact (hW.2 i (by omega)).2.1)
    rw [hk1] at hth
    rw [lp_X8_alone_87, mr_W hm h, mrk_k (by decide), hq.1 6 0 (by decide), if_neg (nI_ge (by omega) (by omega)), hth]
    simp only [Option.bind_some, gk_jn, bI_0, nI_1, nI_eq (show i < 2 ^ 31 by omega) (show w < 2 ^ 31 by omega)]
    have hst := MR_wrW (k := 5) (i := i) (v := lonW W w 5 i) h (by decide)
    rw [mrk_s (f := fun i => lonW W w 5 i)] at hst
    have key : ∀ v, v = nI (lonW W w 5 i) → ∃ M', (gk_ast LN M (RF m 5) (nI i) v fun M7 => lp_X8_alone_87 LN RF m v1 v2 v3 v4 v5 v6 (nI w) K n (nI (i + 1), M7)) = K M' ∧ MR m M' (lonW W w) S ∧ FrS m M M' := by
      rintro v rfl
      rw [mw_5 hm (by omega)]
      obtain ⟨M', q1, q2, q3⟩ := lp_m87_s hm hW hw (v1 := v1) (v2 := v2) (v3 := v3) (v4 := v4) (v5 := v5) (v6 := v6) hq (K := K) r n (i + 1) (gk_wr M (m + 6) i (nI (lonW W w 5 i))) hst (fun q hqq => by rw [wr_1, if_neg (by omega)]; exact ho q hqq) (by omega) (by omega)
      exact ⟨M', q1, q2, (FrS.rf.wr (by omega)).tr q3⟩
    cases ht : ths (W 1 i) with
    | false =>
      rw [if_pos rfl, hm.2.2.1.2.2.2.2.2.1, ald_n (by rw [hm.2.2.2.2.2.2.2.2.1]; omega) (by omega), ho i (by omega)]
      exact key _ (by unfold lonW lonP; rw [if_neg (fun g => by rw [ht] at g; exact absurd g.2.2 (by decide))])
    | true =>
      rw [if_neg tf]
      have e5 : lonW W w 5 i = if i = w then 1 else 0 := by unfold lonW lonP; rw [if_pos (show 5 = 5 ∧ i < W 6 0 ∧ ths (W 1 i) = true from ⟨rfl, by omega, ht⟩)]
      by_cases e : i = w
      · rw [if_pos e]; exact key _ (by rw [e5, if_pos e]; rfl)
      · rw [if_neg e]; exact key _ (by rw [e5, if_neg e]; rfl)
theorem lp_m19_s (hm : mL LN RF m) (hW : WB W) {v1 v2 v3 v4 v5 : Int32} {K : gk_M → Option (Int32 × gk_M)} : ∀ (r n i : Nat) (M : gk_M), MR m M W S → (∀ q, q < i → M.1 (m + 29) q = nI (W 5 q)) → i + r = W 6 0 → r < n → ∃ M', lp_X8_alone_19 LN RF m v1 v2 v3 v4 v5 K n (nI i, M) = K M' ∧ MR m M' W S ∧ OA m M' W ∧ M'.2 = M.2 ∧ ∀ a, a ≠ m + 29 → M'.1 a = M.1 a
  | r, 0, i, M, _, _, _, g => absurd g (by omega)
  | 0, n + 1, i, M, h, ho, g1, g2 => by
    have h24 := hW.1
    rw [lp_X8_alone_19, mr_W hm h, if_pos (nI_le (by omega) (by omega))]
    exact ⟨M, rfl, h, fun q hq => ho q (by omega), rfl, fun _ _ => rfl⟩
  | r + 1, n + 1, i, M, h, ho, g1, g2 => by
    have h24 := hW.1
    rw [lp_X8_alone_19, mr_W hm h, if_neg (nI_ge (by omega) (by omega)), mr_5 hm h (by omega), hm.2.2.1.2.2.2.2.2.1, ast_n (by rw [hm.2.2.2.2.2.2.2.2.1]; omega) (by omega), nI_1]
    obtain ⟨M', q1, q2, q3, q4, q5⟩ := lp_m19_s hm hW (v1 := v1) (v2 := v2) (v3 := v3) (v4 := v4) (v5 := v5) (K := K) r n (i + 1) (gk_wr M (m + 29) i (nI (W 5 i))) (MR_out h (fun y h1 h2 => by funext q; rw [wr_1, if_neg (by omega)])) (fun q hq => by
      rw [wr_1]
      by_cases e : q = i
      · rw [if_pos ⟨rfl, e⟩, e]
      · rw [if_neg (fun g => e g.2)]; exact ho q (by omega)) (by omega) (by omega)
    exact ⟨M', q1, q2, q3, q4, fun y hy => by rw [q5 y hy]; funext q; rw [wr_1, if_neg (fun g => hy g.1)]⟩
theorem lp_m169_s (hm : mL LN RF m) (hW : WB W) {v6 : Int32} {W' : zS} (hq : Lq W W') {K : gk_M → Option (Int32 × gk_M)} : ∀ (r n i : Nat) (M : gk_M), MR m M (mrk (W 5) W' i) S → OA m M W → i + r = W 6 0 → r < n → ∃ M', lp_X8_alone_169 LN RF m v6 K n (nI i, M) = K M' ∧ MR m M' W S ∧ FrS m M M'
  | r, 0, i, M, _, _, _, g => absurd g (by omega)
  | 0, n + 1, i, M, h, ho, g1, g2 => by
    have h24 := hW.1
    rw [lp_X8_alone_169, mr_W hm h, mrk_k (by decide), hq.1 6 0 (by decide), if_pos (nI_le (by omega) (by omega))]
    rw [show i = W 6 0 by omega, mrk_e hq (fun _ _ => rfl)] at h
    exact ⟨M, rfl, h, FrS.rf⟩
  | r + 1, n + 1, i, M, h, ho, g1, g2 => by
    have h24 := hW.1
    rw [lp_X8_alone_169, mr_W hm h, mrk_k (by decide), hq.1 6 0 (by decide), if_neg (nI_ge (by omega) (by omega)), hm.2.2.1.2.2.2.2.2.1, ald_n (by rw [hm.2.2.2.2.2.2.2.2.1]; omega) (by omega), ho i (by omega), mw_5 hm (by omega), nI_1]
    have hst := MR_wrW (k := 5) (i := i) (v := W 5 i) h (by decide)
    rw [mrk_s (f := W 5)] at hst
    obtain ⟨M', q1, q2, q3⟩ := lp_m169_s hm hW (v6 := v6) hq (K := K) r n (i + 1) (gk_wr M (m + 6) i (nI (W 5 i))) hst (fun q hqq => by rw [wr_1, if_neg (by omega)]; exact ho q hqq) (by omega) (by omega)
    exact ⟨M', q1, q2, (FrS.rf.wr (by omega)).tr q3⟩
theorem OA.fr {M M' : gk_M} (h : OA m M W) (hf : FrS m M M') : OA m M' W := fun i hi => by rw [hf.2 _ _ (by omega) (by omega) (by omega)]; exact h i hi
theorem lp_m56_s (hm : mL LN RF m) (hV : IV W S) (hn0 : 0 < l.length) (hn13 : l.length ≤ 13) (hD : ∀ i, i < l.length → l.getD i 0 < 5000 ∧ gA (S 20 0) (l.getD i 0)) (hkd : kd < 3) (ha : a < S 20 0) (hz : kd = 1 ∨ (z = nI b ∧ b < S 20 0)) {s depth : Nat} (hs : s < 256) (hl : odd s = some l) (h3 : depth ≤ 3) {K : Int32 × gk_M → Option (Int32 × gk_M)} :
    ∀ (r n w : Nat) (M : gk_M) (W' : zS), MR m M W' S → Lq W W' → OA m M W → w + r = W 6 0 → r < n → ∃ M' W'', lp_X8_alone_56 LN RF m (nI kd) (nI a) z (nI s) (nI depth) K n (-1, nI w, M) = K (nN (fsf (fun w => ths (W 1 w) && !(jfn (lonW W w) S kd a b s depth == 0)) r w), M') ∧ MR m M' W'' S ∧ Lq W W'' ∧ FrS m M M'
  | r, 0, w, M, W', _, _, _, _, g => absurd g (by omega)
  | 0, n + 1, w, M, W', h, hq, ho, g1, g2 => by
    have h24 := hV.1.1
    rw [lp_X8_alone_56, mr_W hm h, hq.1 6 0 (by decide), if_pos (nI_le (by omega) (by omega)), fsf, nN_0]
    exact ⟨M, W', rfl, h, hq, FrS.rf⟩
  | r + 1, n + 1, w, M, W', h, hq, ho, g1, g2 => by
    have h24 := hV.1.1
    have hth := t_these hm h (show w < 24 by omega) (by rw [hq.1 1 w (by decide)]; exact (hV.1.2 w (by omega)).2.1)
    rw [hq.1 1 w (by decide)] at hth
    rw [lp_X8_alone_56, mr_W hm h, hq.1 6 0 (by decide), if_neg (nI_ge (by omega) (by omega)), if_neg (show ¬ (0 : Int32) ≤ -1 by decide), hth, fsf]
    simp only [Option.bind_some, gk_jn, bI_0, nI_1]
    cases ht : ths (W 1 w) with
    | false =>
      rw [if_pos rfl, Bool.false_and, if_neg (by decide)]
      exact lp_m56_s hm hV hn0 hn13 hD hkd ha hz hs hl h3 (K := K) r n (w + 1) M W' h hq ho (by omega) (by omega)
    | true =>
      rw [if_neg tf, Bool.true_and]
      have hV' := lon_IV (w := w) hV
      obtain ⟨M1, p1, p2, p3⟩ := lp_m87_s hm hV.1 (show w < 24 by omega) (v1 := nI kd) (v2 := nI a) (v3 := z) (v4 := nI s) (v5 := nI depth) (v6 := -1) hq (K := fun y6 => (f_X8_search LN RF m (nI kd) (nI a) z (nI s) (nI depth) y6).bind fun r8 => if r8.1 ≤ 0 then lp_X8_alone_56 LN RF m (nI kd) (nI a) z (nI s) (nI depth) K n (-1, nI (w + 1), r8.2) else lp_X8_alone_56 LN RF m (nI kd) (nI a) z (nI s) (nI depth) K n (nI w, nI (w + 1), r8.2)) (W 6 0) gk_fuel 0 M (by rw [mrk_0]; exact h) ho (by omega) (fuel_gt (by omega))
      rw [show ((0 : Int32), M) = (nI 0, M) from rfl, p1]
      obtain ⟨M2, q1, q2, q3, -⟩ := t_ask hm p2 hV' hs hl hn0 hn13 hD hkd ha hz h3
      rw [q1, Option.bind_some]
      have hj3 : jfn (lonW W w) S kd a b s depth ≤ 3 := by
        rw [jfn_e hl]
        rcases fnd_le (tst (lonW W w) (fun i => l.getD i 0) l.length S kd a b) l.length depth 1 with g | g <;> omega
      have hqw : Lq W (lonW W w) := ⟨fun k i hk => lonP_k hk, fun i hi => by unfold lonW lonP; rw [if_neg (by omega)]⟩
      simp only
      by_cases ej : jfn (lonW W w) S kd a b s depth = 0
      · rw [if_pos (by rw [ej]; decide), if_neg (by simp [ej])]
        obtain ⟨M3, W3, r1, r2, r3, r4⟩ := lp_m56_s hm hV hn0 hn13 hD hkd ha hz hs hl h3 (K := K) r n (w + 1) M2 (lonW W w) q2 hqw ((ho.fr p3).fr q3) (by omega) (by omega)
        exact ⟨M3, W3, r1, r2, r3, (p3.tr q3).tr r4⟩
      · rw [if_neg (nI_nle (by omega) (by omega)), if_pos (by simp [ej]), nN_s]
        refine ⟨M2, lonW W w, ?_, q2, hqw, p3.tr q3⟩
        obtain ⟨n2, rfl⟩ : ∃ n2, n = n2 + 1 := ⟨n - 1, by omega⟩
        rw [lp_X8_alone_56, mr_W hm q2]
        simp only
        rw [if_pos (nI_pos' (by omega)), ite_self]
theorem t_alone (hm : mL LN RF m) {M : gk_M} (h : MR m M W S) (hV : IV W S) (a1 a2 a3 a4 a5 : Int32) : ∃ M', f_X8_alone LN RF m a1 a2 a3 a4 a5 M = some (if jok (S 20 0) a1 a2 a3 a4 a5 = true then nN (alo W S (tN a1) (tN a2) (tN a3) (tN a4) (tN a5)) else -1, M') ∧ MR m M' W S ∧ M'.2 = M.2 ∧ ∀ a i, (a ≤ m ∨ m + 22 ≤ a) → (a < m + 23 ∨ m + 27 < a) → a ≠ m + 29 → ¬ (a = m ∧ (i = 28 ∨ i = 32)) → M'.1 a i = M.1 a i := by
  have h8 := hV.2.1.1.1
  have h24 := hV.1.1
  unfold f_X8_alone
  rw [t_isAsked hm h hV.2.1]
  simp only [Option.bind_some, bI_0]
  cases hj : jok (S 20 0) a1 a2 a3 a4 a5 with
  | false => exact ⟨M, rfl, h, rfl, fun _ _ _ _ _ _ => rfl⟩
  | true =>
    obtain ⟨l, ⟨e1, k1⟩, ⟨e2, k2⟩, k3, ⟨e4, k4⟩, ⟨e5, k5⟩, hl, hn0, hn13, hD⟩ := jok_s h8 hj
    rw [if_neg tf, if_pos rfl]
    simp only [gk_jn]
    obtain ⟨M1, p1, p2, p3, p4, p5⟩ := lp_m19_s hm hV.1 (v1 := a1) (v2 := a2) (v3 := a3) (v4 := a4) (v5 := a5) (K := fun y22 => lp_X8_alone_56 LN RF m a1 a2 a3 a4 a5 (fun y24 => lp_X8_alone_169 LN RF m y24.1 (fun y26 => some (y24.1, y26)) gk_fuel (0, y24.2)) gk_fuel (-1, 0, y22)) (W 6 0) gk_fuel 0 M h (fun q hq => by omega) (by omega) (fuel_gt (by omega))
    rw [show ((0 : Int32), M) = (nI 0, M) from rfl, p1]
    obtain ⟨M2, W2, q1, q2, q3, q4⟩ := lp_m56_s hm hV hn0 hn13 hD k1 k2 k3 k4 hl k5 (K := fun y24 => lp_X8_alone_169 LN RF m y24.1 (fun y26 => some (y24.1, y26)) gk_fuel (0, y24.2)) (W 6 0) gk_fuel 0 M1 W p2 ⟨fun _ _ _ => rfl, fun _ _ => rfl⟩ p3 (by omega) (fuel_gt (by omega))
    rw [← e1, ← e2, ← e4, ← e5] at q1
    rw [show ((-1 : Int32), (0 : Int32), M1) = ((-1 : Int32), nI 0, M1) from rfl, q1]
    obtain ⟨M3, r1, r2, r3⟩ := lp_m169_s hm hV.1 (v6 := nN (alo W S (tN a1) (tN a2) (tN a3) (tN a4) (tN a5))) q3 (K := fun y26 => some (nN (alo W S (tN a1) (tN a2) (tN a3) (tN a4) (tN a5)), y26)) (W 6 0) gk_fuel 0 M2 (by rw [mrk_0]; exact q2) (p3.fr q4) (by omega) (fuel_gt (by omega))
    have F := q4.tr r3
    exact ⟨M3, r1, r2, F.1.trans p4, fun y i h1 h2 h3 h4 => by rw [F.2 y i h1 h2 h4, p5 y h3]⟩
theorem lp_mp_s (hm : mL LN RF m) (hV : IV W S) (hn0 : 0 < l.length) (hn13 : l.length ≤ 13) (hD : ∀ i, i < l.length → l.getD i 0 < 5000 ∧ gA (S 20 0) (l.getD i 0)) (hkd : kd < 3) (ha : a < S 20 0) (hz : kd = 1 ∨ (z = nI b ∧ b < S 20 0)) {s depth w : Nat} (hs : s < 256) (hl : odd s = some l) (h3 : depth ≤ 3) (hw : w < 24) {v7 : Int32} {K : Int32 × gk_M → Option (Int32 × gk_M)} :
    ∀ (q n r : Nat) (M : gk_M) (W' : zS), MR m M W' S → (∀ t, su W' 2 w t = su W 2 w t) → r + q = 10 → q < n → ∃ M' W'', lp_X8_peace_39 LN RF m (nI w) (nI kd) (nI a) z (nI s) (nI depth) v7 K n (-1, nI r, M) = K (nN (fsf (fun r => jfn (su W 2 w r) S kd a b s depth == 0) q r), M') ∧ MR m M' W'' S ∧ (∀ t, su W'' 2 w t = su W 2 w t) ∧ FrS m M M'
  | q, 0, r, M, W', _, _, _, g => absurd g (by omega)
  | 0, n + 1, r, M, W', h, hs2, g1, g2 => by
    rw [lp_X8_peace_39, show (9 : Int32) = nI 9 from rfl, if_pos (nI_lt (by omega) (by omega)), fsf, nN_0]
    exact ⟨M, W', rfl, h, hs2, FrS.rf⟩
  | q + 1, n + 1, r, M, W', h, hs2, g1, g2 => by
    have hVr := rnk_IV (w := w) (r := r) hV (by omega)
    have hst := MR_wrW (k := 2) (i := w) (v := r) h (by decide)
    rw [hs2 r] at hst
    have hs3 : ∀ t, su (su W 2 w r) 2 w t = su W 2 w t := fun t => by funext k i; simp only [su_eq]; by_cases g : k = 2 ∧ i = w <;> simp [g]
    obtain ⟨M2, q1, q2, q3, -⟩ := t_ask hm hst hVr hs hl hn0 hn13 hD hkd ha hz h3
    rw [lp_X8_peace_39, show (9 : Int32) = nI 9 from rfl, if_neg (nI_nlt (by omega) (by omega)), if_neg (show ¬ (0 : Int32) ≤ -1 by decide), mw_2 hm hw, q1, Option.bind_some, fsf]
    have hj3 : jfn (su W 2 w r) S kd a b s depth ≤ 3 := by
      rw [jfn_e hl]
      rcases fnd_le (tst (su W 2 w r) (fun i => l.getD i 0) l.length S kd a b) l.length depth 1 with g | g <;> omega
    simp only [gk_jn, nI_1, nI_e0 (show jfn (su W 2 w r) S kd a b s depth < 2 ^ 31 by omega)]
    have F : FrS m M M2 := (FrS.rf.wr (by omega)).tr q3
    by_cases ej : jfn (su W 2 w r) S kd a b s depth = 0
    · rw [if_pos ej, if_pos (by simp [ej]), nN_s]
      refine ⟨M2, su W 2 w r, ?_, q2, hs3, F⟩
      obtain ⟨n2, rfl⟩ : ∃ n2, n = n2 + 1 := ⟨n - 1, by omega⟩
      rw [lp_X8_peace_39]
      simp only
      rw [if_pos (nI_pos' (by omega)), ite_self]
    · rw [if_neg ej, if_neg (by simp [ej])]
      obtain ⟨M3, W3, r1, r2, r3, r4⟩ := lp_mp_s hm hV hn0 hn13 hD hkd ha hz hs hl h3 hw (v7 := v7) (K := K) q n (r + 1) M2 (su W 2 w r) q2 hs3 (by omega) (by omega)
      exact ⟨M3, W3, r1, r2, r3, F.tr r4⟩
theorem t_peace (hm : mL LN RF m) {M : gk_M} (h : MR m M W S) (hV : IV W S) (a0 a1 a2 a3 a4 a5 : Int32) : ∃ M', f_X8_peace LN RF m a0 a1 a2 a3 a4 a5 M = some (if isL (W 6 0) a0 = true ∧ jok (S 20 0) a1 a2 a3 a4 a5 = true then nN (pea W S (tN a0) (tN a1) (tN a2) (tN a3) (tN a4) (tN a5)) else -1, M') ∧ MR m M' W S ∧ FrS m M M' := by
  have h8 := hV.2.1.1.1
  have h24 := hV.1.1
  unfold f_X8_peace
  rw [t_isWish hm h]
  simp only [Option.bind_some, bI_0, gk_jn]
  cases hw : isL (W 6 0) a0 with
  | false => rw [if_pos rfl, if_neg (by simp)]; exact ⟨M, rfl, h, FrS.rf⟩
  | true =>
    rw [if_neg tf, t_isAsked hm h hV.2.1]
    simp only [Option.bind_some, bI_0]
    cases hj : jok (S 20 0) a1 a2 a3 a4 a5 with
    | false => rw [if_pos rfl, if_neg (by simp)]; exact ⟨M, rfl, h, FrS.rf⟩
    | true =>
      obtain ⟨w, hw2, rfl⟩ := isL_s (by omega) hw
      obtain ⟨l, ⟨e1, k1⟩, ⟨e2, k2⟩, k3, ⟨e4, k4⟩, ⟨e5, k5⟩, hl, hn0, hn13, hD⟩ := jok_s h8 hj
      rw [if_neg tf, if_pos ⟨trivial, rfl⟩, tN_n (show w < 2 ^ 31 by omega), mr_2 hm h (by omega)]
      obtain ⟨M2, W2, q1, q2, q3, q4⟩ := lp_mp_s hm hV hn0 hn13 hD k1 k2 k3 k4 hl k5 (show w < 24 by omega) (v7 := nI (W 2 w)) (K := fun y27 => gk_ast LN y27.2 (RF m 2) (nI w) (nI (W 2 w)) fun M30 => some (y27.1, M30)) 10 gk_fuel 0 M W h (fun _ => rfl) (by omega) (fuel_gt (by omega))
      rw [← e1, ← e2, ← e4, ← e5] at q1
      rw [show ((-1 : Int32), (0 : Int32), M) = ((-1 : Int32), nI 0, M) from rfl, q1, mw_2 hm (by omega)]
      have hst := MR_wrW (k := 2) (i := w) (v := W 2 w) q2 (by decide)
      rw [q3, show su W 2 w (W 2 w) = W by funext k i; rw [su_eq]; by_cases g : k = 2 ∧ i = w; rw [if_pos g, g.1, g.2]; rw [if_neg g]] at hst
      exact ⟨_, rfl, hst, q4.wr (by omega)⟩
end MA
