/-! The class: judge, alone, peace -/
def ths (k : Nat) : Bool := k == 1 || (k == 2 || k == 4)
def lonP (W : zS) (w n : Nat) : zS := fun k q => if k = 5 ∧ q < n ∧ ths (W 1 q) = true then (if q = w then 1 else 0) else W k q
def lonW (W : zS) (w : Nat) : zS := lonP W w (W 6 0)
/-- what is found alone, what makes peace: 0 none -/
def alo (W S : zS) (kd a b s d : Nat) : Nat := fsf (fun w => ths (W 1 w) && !(jfn (lonW W w) S kd a b s d == 0)) (W 6 0) 0
def pea (W S : zS) (w kd a b s d : Nat) : Nat := fsf (fun r => jfn (su W 2 w r) S kd a b s d == 0) 10 0
theorem jok_s {L : Nat} {a1 a2 a3 a4 a5 : Int32} (hL : L ≤ 8) (h : jok L a1 a2 a3 a4 a5 = true) : ∃ l, (a1 = nI (tN a1) ∧ tN a1 < 3) ∧ (a2 = nI (tN a2) ∧ tN a2 < L) ∧ (tN a1 = 1 ∨ (a3 = nI (tN a3) ∧ tN a3 < L)) ∧ (a4 = nI (tN a4) ∧ tN a4 < 256) ∧ (a5 = nI (tN a5) ∧ tN a5 ≤ 3) ∧ odd (tN a4) = some l ∧ 0 < l.length ∧ l.length ≤ 13 ∧ ∀ i, i < l.length → l.getD i 0 < 5000 ∧ gA L (l.getD i 0) := by
  unfold jok sok at h
  simp only [Bool.and_eq_true, Bool.or_eq_true, decide_eq_true_eq] at h
  obtain ⟨⟨h1, h2, h3⟩, ⟨h4, h4b⟩, h5⟩ := h
  have hp := p2_8 hL
  obtain ⟨k, hk, rfl⟩ := isL_s (by omega) h1
  obtain ⟨a, ha, rfl⟩ := isL_s (by omega) h2
  obtain ⟨s, hs, rfl⟩ := isL_s (by omega) h4
  rw [tN_n (by omega)] at h4b
  obtain ⟨l, o1, o2, o3, o4⟩ := odd_ok hs hL h4b
  have h5' : isL 4 a5 = true := by
    unfold inR at h5
    unfold isL inR
    simp only [Bool.and_eq_true, decide_eq_true_eq] at h5 ⊢
    exact ⟨by omega, by rw [nI_toInt (by omega)]; omega⟩
  obtain ⟨d, hd, rfl⟩ := isL_s (by omega) h5'
  rw [tN_n (show k < 2 ^ 31 by omega), tN_n (show a < 2 ^ 31 by omega), tN_n (show s < 2 ^ 31 by omega), tN_n (show d < 2 ^ 31 by omega)]
  refine ⟨l, ⟨rfl, hk⟩, ⟨rfl, ha⟩, ?_, ⟨rfl, by omega⟩, ⟨rfl, by omega⟩, o1, o3, o2, o4⟩
  rcases h3 with g | g
  · exact Or.inl ((nI_e1 (by omega)).mp g)
  · obtain ⟨b, hb, rfl⟩ := isL_s (by omega) g
    rw [tN_n (by omega)]
    exact Or.inr ⟨rfl, hb⟩
theorem jfn_e {W S : zS} {kd a b s d : Nat} {l : List Nat} (hl : odd s = some l) : jfn W S kd a b s d = fnd (tst W (fun i => l.getD i 0) l.length S kd a b) l.length d 1 := by unfold jfn; rw [hl]; rfl
theorem BR.ext {b : Nat} {M : gk_M} {W W' : zS} (h : BR b M W) (h6 : W' 6 0 = W 6 0) (he : ∀ w k, w < W 6 0 → k < 6 → W' k w = W k w) : BR b M W' := ⟨by rw [h6]; exact h.1, fun w k hw hk => by rw [h6] at hw; rw [he w k hw hk]; exact h.2 w k hw hk⟩
theorem lon_IV {W S : zS} {w : Nat} (h : IV W S) : IV (lonW W w) S := by
  obtain ⟨hW, hI, hR, hD, hN⟩ := h
  have e : ∀ k i, k ≠ 5 → lonW W w k i = W k i := fun k i hk => by unfold lonW lonP; rw [if_neg (fun g => hk g.1)]
  refine ⟨⟨by rw [e 6 0 (by decide)]; exact hW.1, fun i hi => ?_⟩, hI, hR, hD, fun i hi => ?_⟩
  · rw [e 6 0 (by decide)] at hi
    have := hW.2 i hi
    rw [e 0 i (by decide), e 1 i (by decide), e 2 i (by decide), e 3 i (by decide), e 4 i (by decide)]
    refine ⟨this.1, this.2.1, this.2.2.1, this.2.2.2.1, this.2.2.2.2.1, ?_⟩
    unfold lonW lonP
    split
    · split <;> omega
    · exact this.2.2.2.2.2
  · rw [e 6 0 (by decide)] at hi
    rw [e 0 i (by decide), e 3 i (by decide)]
    exact hN i hi
theorem rnk_IV {W S : zS} {w r : Nat} (h : IV W S) (hr : r < 10) : IV (su W 2 w r) S := by
  obtain ⟨hW, hI, hR, hD, hN⟩ := h
  refine ⟨⟨by rw [su_k (by decide)]; exact hW.1, fun i hi => ?_⟩, hI, hR, hD, fun i hi => ?_⟩
  · rw [su_k (by decide)] at hi
    have := hW.2 i hi
    rw [show su W 2 w r 0 i = W 0 i from su_k (by decide), show su W 2 w r 1 i = W 1 i from su_k (by decide), show su W 2 w r 3 i = W 3 i from su_k (by decide), show su W 2 w r 4 i = W 4 i from su_k (by decide), show su W 2 w r 5 i = W 5 i from su_k (by decide), su_i]
    refine ⟨this.1, this.2.1, ?_, this.2.2.2.1, this.2.2.2.2.1, this.2.2.2.2.2⟩
    split
    · exact hr
    · exact this.2.2.1
  · rw [su_k (by decide)] at hi
    rw [su_k (by decide), su_k (by decide)]
    exact hN i hi
def kL (LN : Nat → Nat) (RF : Nat → Nat → Nat) (x : Nat) : Prop := RF x 2 = x + 187 ∧ RF x 5 = x + 283 ∧ LN (x + 283) = 3 ∧ jL LN RF (x + 187)
/-- what a question to the judge may write -/
def QFr (x : Nat) (M M' : gk_M) : Prop := ∀ a, (a < x + 187 ∨ x + 277 ≤ a) → M'.1 a = M.1 a ∧ M'.2 a = M.2 a
theorem QFr.rf {x : Nat} {M : gk_M} : QFr x M M := fun _ _ => ⟨rfl, rfl⟩
theorem QFr.tr {x : Nat} {A B C : gk_M} (h1 : QFr x A B) (h2 : QFr x B C) : QFr x A C := fun a ha => ⟨(h2 a ha).1.trans (h1 a ha).1, (h2 a ha).2.trans (h1 a ha).2⟩
theorem SFr.q {x : Nat} {M M' : gk_M} (h : SFr (x + 187) 0 M M') : QFr x M M' := fun a ha => h.1 a (by omega)
theorem B0.fr {h o : Nat} {M M' : gk_M} (hb : B0 h o M) (hm : ∀ a, (a = h ∨ (h + o ≤ a ∧ a < h + o + 3)) → ∀ i, i ≠ 7 → M'.1 a i = M.1 a i) (hl : ∀ a, h + o ≤ a → a < h + o + 3 → M'.1 a = M.1 a) : B0 h o M' := by
  obtain ⟨⟨b8, b9, b10⟩, bl⟩ := hb
  refine ⟨⟨by rw [hm h (Or.inl rfl) 8 (by decide)]; exact b8, by rw [hm h (Or.inl rfl) 9 (by decide)]; exact b9, by rw [hm h (Or.inl rfl) 10 (by decide)]; exact b10⟩, fun l hl8 => ?_⟩
  rw [hl (h + o) (by omega) (by omega), hl (h + o + 1) (by omega) (by omega), hl (h + o + 2) (by omega) (by omega)]
  exact bl l hl8
section CJ
variable {LN : Nat → Nat} {RF : Nat → Nat → Nat} {x : Nat} {W S : zS} {l : List Nat} {kd a b : Nat} {z : Int32}
/-- the judge is asked, and has been asked -/
def JA (x : Nat) (M : gk_M) (W : zS) (L : Nat) (l : List Nat) (kd a : Nat) (z : Int32) : Prop := JM (x + 187) M W l kd a z ∧ M.1 (x + 217) 7 = nI L ∧ B0 (x + 217) 1 M
theorem JA.fr {L : Nat} {M M' : gk_M} (hW : WB W) (h : JA x M W L l kd a z) (hf : SFr (x + 187) 0 M M') : JA x M' W L l kd a z := by
  refine ⟨h.1.fr hW hf, by rw [(hf.1 (x + 217) (by omega)).1]; exact h.2.1, h.2.2.fr (fun a ha i _ => by rw [(hf.1 a (by omega)).1]) (fun a h1 h2 => (hf.1 a (by omega)).1)⟩
theorem ask_open (hx : xL LN RF x) (hk : kL LN RF x) {M : gk_M} (hH : HR (x + 1) 27 M S) (hB : BR (x + 2) M W) (hW : WB W) (hb : B0 (x + 217) 1 M) {s : Nat} (hs : s < 256) (hl : odd s = some l) : ∃ M', f_X3_open LN RF (RF x 2) (RF x 0) (nI kd) (nI a) z (nI s) M = some M' ∧ JA x M' W (S 20 0) l kd a z ∧ QFr x M M' := by
  obtain ⟨M1, p1, p2, ⟨p3, p4, p5, p6⟩, p7, p8, p9⟩ := c_open hx hk.2.2.2 hB hW hs hl (nI kd) (nI a) z
  rw [hk.1, hx.1]
  refine ⟨M1, p1, ⟨⟨p2, p7, p4, p5, p6⟩, by rw [p3]; exact hH.1.1, hb.fr (fun y hy i hi => p9 y i (by omega) (by omega) (by omega)) (fun y h1 h2 => by funext i; exact p9 y i (by omega) (by omega) (by omega))⟩, fun y hy => ⟨by funext i; exact p9 y i (by omega) (by omega) (by omega), by rw [p8]⟩⟩
theorem ask_find (hk : kL LN RF x) (hV : IV W S) (hn0 : 0 < l.length) (hn13 : l.length ≤ 13) (hD : ∀ i, i < l.length → l.getD i 0 < 5000 ∧ gA (S 20 0) (l.getD i 0)) (hkd : kd < 3) (ha : a < S 20 0) (hz : kd = 1 ∨ (z = nI b ∧ b < S 20 0)) {s depth : Nat} (hl : odd s = some l) (h3 : depth ≤ 3) {M : gk_M} (hJ : JA x M W (S 20 0) l kd a z) : ∃ M', f_X3_find LN RF (RF x 2) (nI depth) M = some (nI (jfn W S kd a b s depth), M') ∧ JA x M' W (S 20 0) l kd a z ∧ QFr x M M' ∧ (jfn W S kd a b s depth ≠ 0 → ∀ q, q < jfn W S kd a b s depth → M'.1 (x + 216) q = nI (pck (tst W (fun i => l.getD i 0) l.length S kd a b) l (jfn W S kd a b s depth) q)) := by
  obtain ⟨M1, p1, p2, p3⟩ := u_find hk.2.2.2 hV hn0 hn13 hD hkd ha hz h3 hJ.1 (hJ.2.2.hr hJ.2.1)
  rw [hk.1, jfn_e hl]
  exact ⟨M1, p1, hJ.fr hV.1 p2, p2.q, p3⟩
theorem c_judge (hx : xL LN RF x) (hk : kL LN RF x) {M : gk_M} (hH : HR (x + 1) 27 M S) (hB : BR (x + 2) M W) (hV : IV W S) (hb : B0 (x + 217) 1 M) (a1 a2 a3 a4 a5 : Int32) (hj : jok (S 20 0) a1 a2 a3 a4 a5 = true) : ∃ M' l, odd (tN a4) = some l ∧ f_X7_judge LN RF x a1 a2 a3 a4 a5 M = some (nI (jfn W S (tN a1) (tN a2) (tN a3) (tN a4) (tN a5)), M') ∧ B0 (x + 217) 1 M' ∧ M'.1 x 6 = nI (jfn W S (tN a1) (tN a2) (tN a3) (tN a4) (tN a5)) ∧ M'.1 x 9 = 0 ∧ (∀ q, q < jfn W S (tN a1) (tN a2) (tN a3) (tN a4) (tN a5) → q < 3 ∧ M'.1 (x + 283) q = nI (pck (tst W (fun i => l.getD i 0) l.length S (tN a1) (tN a2) (tN a3)) l (jfn W S (tN a1) (tN a2) (tN a3) (tN a4) (tN a5)) q)) ∧ ∀ a, (a < x + 187 ∨ x + 277 ≤ a) → a ≠ x + 283 → M'.2 a = M.2 a ∧ ∀ i, ¬ (a = x ∧ (i = 6 ∨ i = 9)) → M'.1 a i = M.1 a i := by
  have h8 := hV.2.1.1.1
  obtain ⟨l, ⟨e1, k1⟩, ⟨e2, k2⟩, k3, ⟨e4, k4⟩, ⟨e5, k5⟩, hl, hn0, hn13, hD⟩ := jok_s h8 hj
  obtain ⟨M1, p1, p2, p3⟩ := ask_open hx hk hH hB hV.1 hb (kd := tN a1) (a := tN a2) (z := a3) k4 hl
  obtain ⟨M2, q1, q2, q3, q4⟩ := ask_find hk hV hn0 hn13 hD k1 k2 k3 hl k5 p2
  rw [← e1, ← e2, ← e4] at p1
  rw [← e5] at q1
  unfold f_X7_judge
  rw [c_isJudged hx hH hV.2.1, hj]
  simp only [Option.bind_some, bI_0, if_neg tf]
  rw [p1, Option.bind_some, q1, Option.bind_some]
  simp only [gk_put, gk_cpy, hk.1, hk.2.1, hk.2.2.1, hk.2.2.2.1.2.2.2, hk.2.2.2.2.1.2.2]
  rw [if_pos (by decide)]
  unfold f_X7_done
  simp only [gk_put, Option.bind_some]
  obtain ⟨J, hJ⟩ : ∃ J, J = jfn W S (tN a1) (tN a2) (tN a3) (tN a4) (tN a5) := ⟨_, rfl⟩
  have hJ3 : J ≤ 3 := by
    rw [hJ, jfn_e hl]
    rcases fnd_le (tst W (fun i => l.getD i 0) l.length S (tN a1) (tN a2) (tN a3)) l.length (tN a5) 1 with g | g <;> omega
  rw [← hJ] at q4 ⊢
  have hc : ∀ (A : gk_M) (b' i : Nat), (gk_cpM A (x + 187 + 29) (Int32.toNatClampNeg 0) (x + 283) (Int32.toNatClampNeg 0) (Int32.toNatClampNeg 3)).1 b' i = if b' = x + 283 then (if i < 3 then A.1 (x + 216) i else A.1 (x + 283) i) else A.1 b' i := fun A b' i => by
    show (if b' = x + 283 then va_cpy _ _ 0 0 3 i else _) = _
    by_cases g : b' = x + 283
    · rw [if_pos g, if_pos g]
      by_cases g3 : i < 3
      · rw [if_pos g3, pk_cpy_in (by omega) (by omega)]; simp
      · rw [if_neg g3, pk_cpy_out (by omega)]
    · rw [if_neg g, if_neg g]
  have r6 : (gk_cpM (gk_wr M2 x 6 (nI J)) (x + 187 + 29) (Int32.toNatClampNeg 0) (x + 283) (Int32.toNatClampNeg 0) (Int32.toNatClampNeg 3)).1 x 6 = nI J := by rw [hc, if_neg (by omega), wr_1, if_pos ⟨rfl, rfl⟩]
  refine ⟨_, l, hl, by rw [r6], ?_, ?_, ?_, fun q hq => ⟨by omega, ?_⟩, fun y hy h283 => ⟨?_, fun i hi => ?_⟩⟩
  · refine q2.2.2.fr (fun y hy i _ => ?_) (fun y h1 h2 => ?_)
    · rw [wr_1, if_neg (by omega), hc, if_neg (by omega), wr_1, if_neg (by omega)]
    · funext i; rw [wr_1, if_neg (by omega), hc, if_neg (by omega), wr_1, if_neg (by omega)]
  · rw [wr_1, if_neg (by omega), r6]
  · rw [wr_1, if_pos ⟨rfl, rfl⟩]
  · rw [wr_1, if_neg (by omega), hc, if_pos rfl, if_pos (by omega), wr_1, if_neg (by omega)]
    exact q4 (by omega) q hq
  · show M2.2 y = M.2 y
    rw [(q3 y hy).2, (p3 y hy).2]
  · rw [wr_1, if_neg (by omega), hc, if_neg h283, wr_1, if_neg (by omega), (q3 y hy).1, (p3 y hy).1]
/-- one alone of those that act -/
def Lk (W W' : zS) : Prop := (∀ k i, k ≠ 5 → W' k i = W k i) ∧ ∀ i, i < W 6 0 → ths (W 1 i) = false → W' 5 i = W 5 i
theorem u_those {M : gk_M} {c k : Nat} (hk : k < 8) (h : M.1 c 1 = nI k) : f_X5_isOfThoseThatAct LN RF c M = some (bI (ths k)) := by
  unfold f_X5_isOfThoseThatAct
  simp only [gk_jn, zz_0, zz_1, h, nI_e1 (show k < 2 ^ 31 by omega), nI_e2 (show k < 2 ^ 31 by omega), nI_e4 (show k < 2 ^ 31 by omega)]
  unfold ths
  by_cases e1 : k = 1
  · simp [e1, bI]
  · by_cases e2 : k = 2
    · simp [e2, bI]
    · by_cases e4 : k = 4
      · simp [e4, bI]
      · simp [e1, e2, e4, bI]
theorem lonP_s {w n : Nat} : lonP W w (n + 1) = if ths (W 1 n) = true then su (lonP W w n) 5 n (if n = w then 1 else 0) else lonP W w n := by
  funext k q
  by_cases ht : ths (W 1 n) = true
  · rw [if_pos ht, su_eq]
    unfold lonP
    by_cases hk : k = 5
    · by_cases hq : q = n
      · subst hq; simp [hk, ht]
      · by_cases h2 : q < n
        · simp [hk, hq, h2, show q < n + 1 by omega]
        · simp [hk, hq, h2, show ¬ q < n + 1 by omega]
    · simp [hk]
  · rw [if_neg ht]
    unfold lonP
    by_cases hq : q = n
    · subst hq; simp [ht]
    · by_cases h2 : q < n
      · simp [h2, show q < n + 1 by omega]
      · simp [h2, show ¬ q < n + 1 by omega]
theorem lonP_k {w n k q : Nat} (hk : k ≠ 5) : lonP W w n k q = W k q := by unfold lonP; rw [if_neg (fun g => hk g.1)]
theorem lp_la_s {h o n b w : Nat} (hl : hL LN RF h o n b) (hW : WB W) (hw : w < 24) {K : gk_M → Option gk_M} : ∀ (r n' i : Nat) (M : gk_M), BR b M (lonP W w i) → i + r = W 6 0 → r < n' → ∃ M', lp_X6_leaveAlone_2 LN RF b (nI w) K n' (nI i, M) = K M' ∧ BR b M' (lonP W w (W 6 0)) ∧ (∀ a, (a < b + 2 ∨ b + 26 ≤ a) → M'.1 a = M.1 a) ∧ M'.2 = M.2
  | r, 0, i, M, _, _, g => absurd g (by omega)
  | 0, n' + 1, i, M, hB, g1, g2 => by
    have h24 := hW.1
    rw [lp_X6_leaveAlone_2, hB.1, lonP_k (by decide), if_pos (nI_le (by omega) (by omega))]
    rw [show i = W 6 0 by omega] at hB
    exact ⟨M, rfl, hB, fun _ _ => rfl, rfl⟩
  | r + 1, n' + 1, i, M, hB, g1, g2 => by
    have h24 := hW.1
    have h6 : lonP W w i 6 0 = W 6 0 := lonP_k (by decide)
    have hc := hB.2 i 1 (by rw [h6]; omega) (by decide)
    rw [lonP_k (by decide)] at hc
    rw [lp_X6_leaveAlone_2, hB.1, h6, if_neg (nI_ge (by omega) (by omega)), ha_w hl (by omega), u_those (hW.2 i (by omega)).2.1 hc]
    simp only [Option.bind_some, gk_jn, bI_0, nI_1]
    cases ht : ths (W 1 i) with
    | false =>
      rw [if_pos rfl]
      exact lp_la_s hl hW hw (K := K) r n' (i + 1) M (by rw [lonP_s, ht]; exact hB) (by omega) (by omega)
    | true =>
      rw [if_neg tf, ha_w hl (by omega)]
      simp only [gk_putz, nI_eq (show i < 2 ^ 31 by omega) (show w < 2 ^ 31 by omega)]
      rw [if_pos (Or.inr trivial), if_pos (Or.inl trivial)]
      have hB1 : ∀ v, BR b (gk_wr M (b + 2 + i) 5 (nI v)) (su (lonP W w i) 5 i v) := fun v => hB.one (by rw [h6]; omega) (by decide)
      by_cases e : i = w
      · rw [if_pos e]
        obtain ⟨M', q1, q2, q3, q4⟩ := lp_la_s hl hW hw (K := K) r n' (i + 1) (gk_wr M (b + 2 + i) 5 (nI 1)) (by rw [lonP_s, ht, if_pos rfl, if_pos e]; exact hB1 1) (by omega) (by omega)
        exact ⟨M', q1, q2, fun a ha => by rw [q3 a ha]; funext j; rw [wr_1, if_neg (by omega)], q4⟩
      · rw [if_neg e]
        obtain ⟨M', q1, q2, q3, q4⟩ := lp_la_s hl hW hw (K := K) r n' (i + 1) (gk_wr M (b + 2 + i) 5 (nI 0)) (by rw [lonP_s, ht, if_pos rfl, if_neg e]; exact hB1 0) (by omega) (by omega)
        exact ⟨M', q1, q2, fun a ha => by rw [q3 a ha]; funext j; rw [wr_1, if_neg (by omega)], q4⟩
theorem u_leaveAlone {h o n b w : Nat} (hl : hL LN RF h o n b) {W' : zS} (hW : WB W) (hW' : WB W') (hk : Lk W W') (hw : w < 24) {M : gk_M} (hB : BR b M W') : ∃ M', f_X6_leaveAlone LN RF b (nI w) M = some M' ∧ BR b M' (lonW W w) ∧ (∀ a, (a < b + 2 ∨ b + 26 ≤ a) → M'.1 a = M.1 a) ∧ M'.2 = M.2 := by
  unfold f_X6_leaveAlone
  simp only [gk_jn]
  have h24 := hW'.1
  have h6 : W' 6 0 = W 6 0 := hk.1 6 0 (by decide)
  obtain ⟨M', q1, q2, q3, q4⟩ := lp_la_s hl hW' hw (K := fun y => some y) (W' 6 0) gk_fuel 0 M (by
    rw [show lonP W' w 0 = W' by funext k q; unfold lonP; rw [if_neg (by omega)]]; exact hB) (by omega) (fuel_gt (by omega))
  refine ⟨M', q1, q2.ext ?_ (fun i k hi hk6 => ?_), q3, q4⟩
  · unfold lonW; rw [lonP_k (by decide), lonP_k (by decide), h6]
  · rw [lonP_k (by decide)] at hi
    by_cases e5 : k = 5
    · subst e5
      unfold lonW lonP
      rw [hk.1 1 i (by decide), h6]
      by_cases ht : ths (W 1 i) = true
      · rw [if_pos (show 5 = 5 ∧ i < W 6 0 ∧ ths (W 1 i) = true from ⟨rfl, by omega, ht⟩), if_pos (show 5 = 5 ∧ i < W 6 0 ∧ ths (W 1 i) = true from ⟨rfl, by omega, ht⟩)]
      · rw [if_neg (fun g => ht g.2.2), if_neg (fun g => ht g.2.2)]
        exact (hk.2 i (by omega) (by simpa using ht)).symm
    · unfold lonW; rw [lonP_k e5, lonP_k e5]; exact (hk.1 k i e5).symm
theorem lon_Lk {w : Nat} : Lk W (lonW W w) := ⟨fun k i hk => lonP_k hk, fun i hi ht => by unfold lonW lonP; rw [if_neg (fun g => by rw [ht] at g; exact absurd g.2.2 (by decide))]⟩
theorem lp_al_s (hx : xL LN RF x) (hk : kL LN RF x) (hV : IV W S) (hn0 : 0 < l.length) (hn13 : l.length ≤ 13) (hD : ∀ i, i < l.length → l.getD i 0 < 5000 ∧ gA (S 20 0) (l.getD i 0)) (hkd : kd < 3) (ha : a < S 20 0) (hz : kd = 1 ∨ (z = nI b ∧ b < S 20 0)) {s depth : Nat} (hl : odd s = some l) (h3 : depth ≤ 3) :
    ∀ (r n w : Nat) (M : gk_M) (W' : zS), BR (x + 2) M W → WB W' → Lk W W' → JA x M W' (S 20 0) l kd a z → w + r = W 6 0 → r < n → ∃ M', lp_X7_alone_35 LN RF x (nI depth) (fun y => some (-1, y)) n (nI w, M) = some (nN (fsf (fun w => ths (W 1 w) && !(jfn (lonW W w) S kd a b s depth == 0)) r w), M') ∧ B0 (x + 217) 1 M' ∧ QFr x M M'
  | r, 0, w, M, W', _, _, _, _, _, g => absurd g (by omega)
  | 0, n + 1, w, M, W', hB, hW', hL, hJ, g1, g2 => by
    have h24 := hV.1.1
    rw [lp_X7_alone_35, hx.1, hx.2.1.1.1, hB.1, if_pos (nI_le (by omega) (by omega)), fsf, nN_0]
    exact ⟨M, rfl, hJ.2.2, QFr.rf⟩
  | r + 1, n + 1, w, M, W', hB, hW', hL, hJ, g1, g2 => by
    have h24 := hV.1.1
    rw [lp_X7_alone_35, hx.1, hx.2.1.1.1, hB.1, if_neg (nI_ge (by omega) (by omega)), ha_w hx.2.1 (by omega), u_those (hV.1.2 w (by omega)).2.1 (hB.2 w 1 (by omega) (by decide)), fsf]
    simp only [Option.bind_some, gk_jn, bI_0, nI_1]
    cases ht : ths (W 1 w) with
    | false =>
      rw [if_pos rfl, Bool.false_and, if_neg (by decide)]
      exact lp_al_s hx hk hV hn0 hn13 hD hkd ha hz hl h3 r n (w + 1) M W' hB hW' hL hJ (by omega) (by omega)
    | true =>
      obtain ⟨M1, p1, p2, p3, p4⟩ := u_leaveAlone (hk.2.2.2.2.2.2 0 (by omega)) hV.1 hW' hL (show w < 24 by omega) hJ.1.1
      have hV' := lon_IV (w := w) hV
      have f1 : ∀ y, (y < x + 190 ∨ x + 214 ≤ y) → M1.1 y = M.1 y := fun y hy => p3 y (by omega)
      have hJ1 : JA x M1 (lonW W w) (S 20 0) l kd a z := by
        obtain ⟨⟨j1, j2, j3, j4, j5⟩, j6, j7⟩ := hJ
        refine ⟨⟨p2, by rw [f1 (x + 187) (by omega), f1 (x + 187 + 28) (by omega)]; exact j2, by rw [f1 (x + 187) (by omega)]; exact j3, by rw [f1 (x + 187) (by omega)]; exact j4, by rw [f1 (x + 187) (by omega)]; exact j5⟩, by rw [f1 (x + 217) (by omega)]; exact j6, j7.fr (fun y hy i _ => by rw [f1 y (by omega)]) (fun y h1 h2 => f1 y (by omega))⟩
      obtain ⟨M2, q1, q2, q3, -⟩ := ask_find hk hV' hn0 hn13 hD hkd ha hz hl h3 hJ1
      have qf : QFr x M M2 := QFr.tr (fun y hy => ⟨f1 y (by omega), by rw [p4]⟩) q3
      rw [if_neg tf, show RF (RF x 2) 0 = x + 187 + 1 by rw [hk.1, hk.2.2.2.1.1], p1, Option.bind_some, q1, Option.bind_some, Bool.true_and]
      have hj3 : jfn (lonW W w) S kd a b s depth ≤ 3 := by
        rw [jfn_e hl]
        rcases fnd_le (tst (lonW W w) (fun i => l.getD i 0) l.length S kd a b) l.length depth 1 with g | g <;> omega
      simp only
      by_cases ej : jfn (lonW W w) S kd a b s depth = 0
      · rw [if_pos (by rw [ej]; decide), if_neg (by simp [ej])]
        obtain ⟨M3, r1, r2, r3⟩ := lp_al_s hx hk hV hn0 hn13 hD hkd ha hz hl h3 r n (w + 1) M2 (lonW W w) (hB.out hV.1 (fun y h1 h2 => (qf y (by omega)).1)) hV'.1 lon_Lk q2 (by omega) (by omega)
        exact ⟨M3, r1, r2, qf.tr r3⟩
      · rw [if_neg (nI_nle (by omega) (by omega)), if_pos (by simp [ej]), nN_s]
        exact ⟨M2, rfl, q2.2.2, qf⟩
theorem c_alone (hx : xL LN RF x) (hk : kL LN RF x) {M : gk_M} (hH : HR (x + 1) 27 M S) (hB : BR (x + 2) M W) (hV : IV W S) (hb : B0 (x + 217) 1 M) (a1 a2 a3 a4 a5 : Int32) : ∃ M', f_X7_alone LN RF x a1 a2 a3 a4 a5 M = some (if jok (S 20 0) a1 a2 a3 a4 a5 = true then nN (alo W S (tN a1) (tN a2) (tN a3) (tN a4) (tN a5)) else -1, M') ∧ B0 (x + 217) 1 M' ∧ QFr x M M' := by
  have h8 := hV.2.1.1.1
  have h24 := hV.1.1
  unfold f_X7_alone
  rw [c_isJudged hx hH hV.2.1]
  simp only [Option.bind_some, bI_0]
  cases hj : jok (S 20 0) a1 a2 a3 a4 a5 with
  | false => exact ⟨M, rfl, hb, QFr.rf⟩
  | true =>
    obtain ⟨l, ⟨e1, k1⟩, ⟨e2, k2⟩, k3, ⟨e4, k4⟩, ⟨e5, k5⟩, hl, hn0, hn13, hD⟩ := jok_s h8 hj
    obtain ⟨M1, p1, p2, p3⟩ := ask_open hx hk hH hB hV.1 hb (kd := tN a1) (a := tN a2) (z := a3) k4 hl
    rw [← e1, ← e2, ← e4] at p1
    rw [if_neg tf, p1, Option.bind_some, if_pos rfl]
    simp only [gk_jn]
    obtain ⟨M2, q1, q2, q3⟩ := lp_al_s hx hk hV hn0 hn13 hD k1 k2 k3 hl k5 (W 6 0) gk_fuel 0 M1 W (hB.out hV.1 (fun y h1 h2 => (p3 y (by omega)).1)) hV.1 ⟨fun _ _ _ => rfl, fun _ _ _ => rfl⟩ p2 (by omega) (fuel_gt (by omega))
    rw [← e5] at q1
    exact ⟨M2, q1, q2, p3.tr q3⟩
theorem lp_pe_s (hx : xL LN RF x) (hk : kL LN RF x) (hV : IV W S) (hn0 : 0 < l.length) (hn13 : l.length ≤ 13) (hD : ∀ i, i < l.length → l.getD i 0 < 5000 ∧ gA (S 20 0) (l.getD i 0)) (hkd : kd < 3) (ha : a < S 20 0) (hz : kd = 1 ∨ (z = nI b ∧ b < S 20 0)) {s depth w : Nat} (hl : odd s = some l) (h3 : depth ≤ 3) (hw : w < W 6 0) :
    ∀ (q n r : Nat) (M : gk_M) (W' : zS) (v : Int32), WB W' → (∀ t, su W' 2 w t = su W 2 w t) → JA x M W' (S 20 0) l kd a z → (r = 0 ∧ v = -1 ∨ ∃ r', r = r' + 1 ∧ v = nI (plc (su W 2 w r') (W 0 w) w) ∧ jfn (su W 2 w r') S kd a b s depth ≠ 0) → r + q = 10 → q < n → ∃ M', lp_X7_peace_54 LN RF x (nI w) (nI depth) (fun y => some (-1, y)) n (v, nI r, M) = some (nN (fsf (fun r => jfn (su W 2 w r) S kd a b s depth == 0) q r), M') ∧ B0 (x + 217) 1 M' ∧ QFr x M M'
  | q, 0, r, M, W', v, _, _, _, _, _, g => absurd g (by omega)
  | 0, n + 1, r, M, W', v, hW', hs2, hJ, hv, g1, g2 => by
    rw [lp_X7_peace_54, show (9 : Int32) = nI 9 from rfl, if_pos (nI_lt (by omega) (by omega)), fsf, nN_0]
    exact ⟨M, rfl, hJ.2.2, QFr.rf⟩
  | q + 1, n + 1, r, M, W', v, hW', hs2, hJ, hv, g1, g2 => by
    have h24 := hV.1.1
    have h6 : W' 6 0 = W 6 0 := by
      have := congrFun (congrFun (hs2 0) 6) 0
      rwa [su_k (by decide), su_k (by decide)] at this
    have hVr := rnk_IV (w := w) (r := r) hV (by omega)
    have h6r : su W 2 w r 6 0 = W 6 0 := su_k (by decide)
    have hlJ := hk.2.2.2.2.2.2 0 (by omega)
    have hBr : BR (x + 187 + 1) (gk_wr M (x + 187 + 1 + 2 + w) 2 (nI r)) (su W 2 w r) := by
      rw [← hs2 r]; exact hJ.1.1.one (by omega) (by decide)
    have f1 : ∀ y, y ≠ x + 187 + 1 + 2 + w → (gk_wr M (x + 187 + 1 + 2 + w) 2 (nI r)).1 y = M.1 y := fun y hy => by funext i; rw [wr_1, if_neg (fun g => hy g.1)]
    have hJ1 : JA x (gk_wr M (x + 187 + 1 + 2 + w) 2 (nI r)) (su W 2 w r) (S 20 0) l kd a z := by
      obtain ⟨⟨j1, j2, j3, j4, j5⟩, j6, j7⟩ := hJ
      refine ⟨⟨hBr, by rw [f1 (x + 187) (by omega), f1 (x + 187 + 28) (by omega)]; exact j2, by rw [f1 (x + 187) (by omega)]; exact j3, by rw [f1 (x + 187) (by omega)]; exact j4, by rw [f1 (x + 187) (by omega)]; exact j5⟩, by rw [f1 (x + 217) (by omega)]; exact j6, j7.fr (fun y hy i _ => by rw [f1 y (by omega)]) (fun y h1 h2 => f1 y (by omega))⟩
    have qf1 : QFr x M (gk_wr M (x + 187 + 1 + 2 + w) 2 (nI r)) := fun y hy => ⟨f1 y (by omega), rfl⟩
    have hpl := u_placeOf hlJ hBr hVr.1 (v := w) (by rw [h6r]; exact hw)
    rw [show su W 2 w r 0 w = W 0 w from su_k (by decide)] at hpl
    have hpb : plc (su W 2 w r) (W 0 w) w ≤ 24 := by
      have := cn_bd (fun j => onOf (su W 2 w r) (W 0 w) j && decide (keyW (su W 2 w r) j < keyW (su W 2 w r) w)) (su W 2 w r 6 0) 0 0
      unfold plc; omega
    rw [lp_X7_peace_54, show (9 : Int32) = nI 9 from rfl, if_neg (nI_nlt (by omega) (by omega)), show RF (RF x 2) 0 = x + 187 + 1 by rw [hk.1, hk.2.2.2.1.1], ha_w hlJ (by omega)]
    simp only [gk_put, gk_jn]
    rw [hpl, Option.bind_some, fsf]
    simp only [nI_1]
    by_cases eq : nI (plc (su W 2 w r) (W 0 w) w) = v
    · rw [if_pos eq]
      rcases hv with ⟨rfl, rfl⟩ | ⟨r', rfl, rfl, hne⟩
      · exact absurd eq (by rw [nI_m1 (by omega)]; exact fun g => g)
      · have hpb' : plc (su W 2 w r') (W 0 w) w ≤ 24 := by
          have := cn_bd (fun j => onOf (su W 2 w r') (W 0 w) j && decide (keyW (su W 2 w r') j < keyW (su W 2 w r') w)) (su W 2 w r' 6 0) 0 0
          rw [show su W 2 w r' 6 0 = W 6 0 from su_k (by decide)] at this
          unfold plc; rw [show su W 2 w r' 6 0 = W 6 0 from su_k (by decide)]; omega
        have eq' := (nI_eq (by omega) (by omega)).mp eq
        have hoq := oq_rank h24 hw eq'.symm
        have hjf := oq_jfn hoq hVr.1 S kd a b s depth
        rw [hjf, if_neg (by simp [hne])]
        obtain ⟨M3, r1, r2, r3⟩ := lp_pe_s hx hk hV hn0 hn13 hD hkd ha hz hl h3 hw q n (r' + 1 + 1) _ (su W 2 w (r' + 1)) (nI (plc (su W 2 w (r' + 1)) (W 0 w) w)) hVr.1 (fun t => by funext k i; simp only [su_eq]; by_cases g : k = 2 ∧ i = w <;> simp [g]) hJ1 (Or.inr ⟨r' + 1, rfl, rfl, by rw [hjf]; exact hne⟩) (by omega) (by omega)
        exact ⟨M3, r1, r2, qf1.tr r3⟩
    · rw [if_neg eq]
      obtain ⟨M2, q1, q2, q3, -⟩ := ask_find hk hVr hn0 hn13 hD hkd ha hz hl h3 hJ1
      rw [q1, Option.bind_some]
      have hj3 : jfn (su W 2 w r) S kd a b s depth ≤ 3 := by
        rw [jfn_e hl]
        rcases fnd_le (tst (su W 2 w r) (fun i => l.getD i 0) l.length S kd a b) l.length depth 1 with g | g <;> omega
      simp only [nI_e0 (show jfn (su W 2 w r) S kd a b s depth < 2 ^ 31 by omega)]
      by_cases ej : jfn (su W 2 w r) S kd a b s depth = 0
      · rw [if_pos ej, if_pos (by simp [ej]), nN_s]
        exact ⟨M2, rfl, q2.2.2, qf1.tr q3⟩
      · rw [if_neg ej, if_neg (by simp [ej])]
        obtain ⟨M3, r1, r2, r3⟩ := lp_pe_s hx hk hV hn0 hn13 hD hkd ha hz hl h3 hw q n (r + 1) M2 (su W 2 w r) (nI (plc (su W 2 w r) (W 0 w) w)) hVr.1 (fun t => by funext k i; simp only [su_eq]; by_cases g : k = 2 ∧ i = w <;> simp [g]) q2 (Or.inr ⟨r, rfl, rfl, ej⟩) (by omega) (by omega)
        exact ⟨M3, r1, r2, (qf1.tr q3).tr r3⟩
theorem c_peace (hx : xL LN RF x) (hk : kL LN RF x) {M : gk_M} (hH : HR (x + 1) 27 M S) (hB : BR (x + 2) M W) (hV : IV W S) (hb : B0 (x + 217) 1 M) (a0 a1 a2 a3 a4 a5 : Int32) : ∃ M', f_X7_peace LN RF x a0 a1 a2 a3 a4 a5 M = some (if isL (W 6 0) a0 = true ∧ jok (S 20 0) a1 a2 a3 a4 a5 = true then nN (pea W S (tN a0) (tN a1) (tN a2) (tN a3) (tN a4) (tN a5)) else -1, M') ∧ B0 (x + 217) 1 M' ∧ QFr x M M' := by
  have h8 := hV.2.1.1.1
  have h24 := hV.1.1
  unfold f_X7_peace
  rw [hx.1, hx.2.1.1.1, u_holds hB]
  simp only [Option.bind_some, bI_0, gk_jn]
  cases hw : isL (W 6 0) a0 with
  | false => rw [if_pos rfl, if_neg (by simp)]; exact ⟨M, rfl, hb, QFr.rf⟩
  | true =>
    rw [if_neg tf, c_isJudged hx hH hV.2.1]
    simp only [Option.bind_some, bI_0]
    cases hj : jok (S 20 0) a1 a2 a3 a4 a5 with
    | false => rw [if_pos rfl, if_neg (by simp)]; exact ⟨M, rfl, hb, QFr.rf⟩
    | true =>
      obtain ⟨w, hw2, rfl⟩ := isL_s (by omega) hw
      obtain ⟨l, ⟨e1, k1⟩, ⟨e2, k2⟩, k3, ⟨e4, k4⟩, ⟨e5, k5⟩, hl, hn0, hn13, hD⟩ := jok_s h8 hj
      obtain ⟨M1, p1, p2, p3⟩ := ask_open hx hk hH hB hV.1 hb (kd := tN a1) (a := tN a2) (z := a3) k4 hl
      rw [← e1, ← e2, ← e4, hx.1] at p1
      rw [if_neg tf, p1, Option.bind_some, if_pos ⟨trivial, rfl⟩, tN_n (show w < 2 ^ 31 by omega)]
      obtain ⟨M2, q1, q2, q3⟩ := lp_pe_s hx hk hV hn0 hn13 hD k1 k2 k3 hl k5 hw2 10 gk_fuel 0 M1 W (-1) hV.1 (fun _ => rfl) p2 (Or.inl ⟨rfl, rfl⟩) (by omega) (fuel_gt (by omega))
      rw [← e5] at q1
      exact ⟨M2, q1, q2, p3.tr q3⟩
end CJ
