/-! What always holds of the abstract state -/
def CI (S : zS) (c : Nat) : Prop := S 6 c < S 20 0 ∧ S 7 c ≤ 3 ∧ S 9 c ≤ 8 ∧ (∀ i, i < S 9 c → S 10 (9 * c + i) < S 20 0 ∧ S 11 (9 * c + i) < S 20 0) ∧ (∀ i j, i < S 9 c → j < S 9 c → S 10 (9 * c + i) = S 10 (9 * c + j) → i = j) ∧ (∀ l, (S 12 c).testBit l = true → l < S 20 0) ∧ S 13 c ≤ S 20 0 ∧ S 14 c ≤ S 20 3 ∧ S 15 c ≤ 2 * S 9 c + 1 ∧ (S 7 c ≠ 0 → S 12 c = 0) ∧ (S 7 c = 0 ∨ S 7 c = 3 → S 13 c = 0) ∧ (S 7 c = 1 ∨ S 7 c = 2 → S 13 c ≠ 0) ∧ (S 12 c).testBit (S 6 c) = false ∧ S 13 c ≠ S 6 c + 1 ∧ ∀ i, i < S 15 c → i < 10 → S 16 (10 * c + i) < 24
def SI (N : Nat) (S : zS) : Prop := (S 20 0 ≤ 8 ∧ S 20 2 ≤ N ∧ S 20 3 ≤ 1000 ∧ S 20 4 ≤ 8) ∧ (∀ c, c < S 20 2 → CI S c) ∧ (∀ l c c', c < S 20 2 → c' < S 20 2 → inn S l c = true → inn S l c' = true → c = c') ∧ (∀ l c c', c < S 20 2 → c' < S 20 2 → knk S l c = true → knk S l c' = true → c = c') ∧ (∀ i, i < S 20 4 → S 17 i < S 20 0 ∧ S 18 i < S 20 0) ∧ (∀ i j, i < S 20 4 → j < S 20 4 → S 17 i = S 17 j → S 18 i = S 18 j → i = j)
/-- at rest: every call has a row, and acts that fit it -/
def R1 (S : zS) : Prop := ∀ c, c < S 20 2 → S 7 c ≠ 3 → 1 ≤ S 9 c ∧ S 15 c ≤ 2 * S 9 c
/-- owners and targets are lines -/
def WN (W S : zS) : Prop := ∀ w, w < W 6 0 → W 0 w < S 20 0 ∧ W 3 w < S 20 0
/-- all but one call stays -/
def Sm (S S' : zS) (c : Nat) : Prop := (∀ i, S' 6 i = S 6 i) ∧ (∀ i, S' 17 i = S 17 i) ∧ (∀ i, S' 18 i = S 18 i) ∧ (∀ i, S' 20 i = S 20 i) ∧ (∀ i, S' 19 i = S 19 i) ∧ (∀ b, b ≠ c → S' 7 b = S 7 b ∧ S' 8 b = S 8 b ∧ S' 9 b = S 9 b ∧ S' 12 b = S 12 b ∧ S' 13 b = S 13 b ∧ S' 14 b = S 14 b ∧ S' 15 b = S 15 b) ∧ (∀ b i, b ≠ c → i < 9 → S' 10 (9 * b + i) = S 10 (9 * b + i) ∧ S' 11 (9 * b + i) = S 11 (9 * b + i)) ∧ ∀ b i, b ≠ c → i < 10 → S' 16 (10 * b + i) = S 16 (10 * b + i)
theorem Sm.rf {S : zS} {c : Nat} : Sm S S c := ⟨fun _ => rfl, fun _ => rfl, fun _ => rfl, fun _ => rfl, fun _ => rfl, fun _ _ => ⟨rfl, rfl, rfl, rfl, rfl, rfl, rfl⟩, fun _ _ _ _ => ⟨rfl, rfl⟩, fun _ _ _ _ => rfl⟩
theorem Sm.tr {S T U : zS} {c : Nat} (h : Sm S T c) (g : Sm T U c) : Sm S U c := by
  obtain ⟨h1, h2, h3, h4, h5, h6, h7, h8⟩ := h
  obtain ⟨g1, g2, g3, g4, g5, g6, g7, g8⟩ := g
  refine ⟨fun i => (g1 i).trans (h1 i), fun i => (g2 i).trans (h2 i), fun i => (g3 i).trans (h3 i), fun i => (g4 i).trans (h4 i), fun i => (g5 i).trans (h5 i), fun b hb => ?_, fun b i hb hi => ?_, fun b i hb hi => (g8 b i hb hi).trans (h8 b i hb hi)⟩
  · obtain ⟨a1, a2, a3, a4, a5, a6, a7⟩ := h6 b hb
    obtain ⟨b1, b2, b3, b4, b5, b6, b7⟩ := g6 b hb
    exact ⟨b1.trans a1, b2.trans a2, b3.trans a3, b4.trans a4, b5.trans a5, b6.trans a6, b7.trans a7⟩
  · exact ⟨(g7 b i hb hi).1.trans (h7 b i hb hi).1, (g7 b i hb hi).2.trans (h7 b i hb hi).2⟩
theorem Sm.fld {S : zS} {c k v : Nat} (hk : k = 7 ∨ k = 8 ∨ k = 9 ∨ k = 12 ∨ k = 13 ∨ k = 14 ∨ k = 15) : Sm S (su S k c v) c := by
  refine ⟨fun i => su_k (by omega), fun i => su_k (by omega), fun i => su_k (by omega), fun i => su_k (by omega), fun i => su_k (by omega), fun b hb => ?_, fun b i hb hi => ⟨su_k (by omega), su_k (by omega)⟩, fun b i hb hi => su_k (by omega)⟩
  refine ⟨?_, ?_, ?_, ?_, ?_, ?_, ?_⟩ <;> (rw [su_eq, if_neg (fun g => hb g.2)])
theorem Sm.row {S : zS} {c k j v : Nat} (hk : k = 10 ∨ k = 11) (hj : j < 9) : Sm S (su S k (9 * c + j) v) c := by
  refine ⟨fun i => su_k (by omega), fun i => su_k (by omega), fun i => su_k (by omega), fun i => su_k (by omega), fun i => su_k (by omega), fun b hb => ?_, fun b i hb hi => ?_, fun b i hb hi => su_k (by omega)⟩
  · exact ⟨su_k (by omega), su_k (by omega), su_k (by omega), su_k (by omega), su_k (by omega), su_k (by omega), su_k (by omega)⟩
  · constructor <;> (rw [su_eq, if_neg (by omega)])
theorem Sm.act {S : zS} {c j v : Nat} (hj : j < 10) : Sm S (su S 16 (10 * c + j) v) c := by
  refine ⟨fun i => su_k (by omega), fun i => su_k (by omega), fun i => su_k (by omega), fun i => su_k (by omega), fun i => su_k (by omega), fun b hb => ?_, fun b i hb hi => ⟨su_k (by omega), su_k (by omega)⟩, fun b i hb hi => ?_⟩
  · exact ⟨su_k (by omega), su_k (by omega), su_k (by omega), su_k (by omega), su_k (by omega), su_k (by omega), su_k (by omega)⟩
  · rw [su_eq, if_neg (by omega)]
theorem Sm.ine {S S' : zS} {c : Nat} (h : Sm S S' c) {l b : Nat} (hb : b ≠ c) : inn S' l b = inn S l b := by
  obtain ⟨h1, -, -, -, -, h6, -⟩ := h
  obtain ⟨a1, a2, a3, a4, a5, a6, a7⟩ := h6 b hb
  unfold inn
  rw [a1, a4, a5, h1]
theorem Sm.kne {S S' : zS} {c : Nat} (h : Sm S S' c) {l b : Nat} (hb : b ≠ c) : knk S' l b = knk S l b := by
  obtain ⟨h1, -, -, -, -, h6, -⟩ := h
  obtain ⟨a1, a2, a3, a4, a5, a6, a7⟩ := h6 b hb
  unfold knk
  rw [a1, a5]
theorem Sm.cie {S S' : zS} {c : Nat} (h : Sm S S' c) {b : Nat} (hb : b ≠ c) (hC : CI S b) : CI S' b := by
  obtain ⟨h1, -, -, h4, -, h6, h7, h8⟩ := h
  obtain ⟨a1, a2, a3, a4, a5, a6, a7⟩ := h6 b hb
  obtain ⟨c1, c2, c3, c4, c5, c6, c7, c8, c9, c10, c11, c12, c13, c14, c15⟩ := hC
  refine ⟨by rw [h1, h4]; exact c1, by rw [a1]; exact c2, by rw [a3]; exact c3, fun i hi => ?_, fun i j hi hj => ?_, by rw [a4, h4]; exact c6, by rw [a5, h4]; exact c7, by rw [a6, h4]; exact c8, by rw [a7, a3]; exact c9, by rw [a1, a4]; exact c10, by rw [a1, a5]; exact c11, by rw [a1, a5]; exact c12, by rw [a4, h1]; exact c13, by rw [a5, h1]; exact c14, fun i hi hi2 => ?_⟩
  · rw [a3] at hi
    rw [(h7 b i hb (by omega)).1, (h7 b i hb (by omega)).2, h4]
    exact c4 i hi
  · rw [a3] at hi hj
    rw [(h7 b i hb (by omega)).1, (h7 b j hb (by omega)).1]
    exact c5 i j hi hj
  · rw [a7] at hi
    rw [h8 b i hb hi2]
    exact c15 i hi hi2
/-- one call changes: what is to be shown -/
theorem SI.one {N : Nat} {S S' : zS} {c : Nat} (h : SI N S) (hs : Sm S S' c) (hC : CI S' c) (hi : ∀ l b, b ≠ c → b < S 20 2 → inn S' l c = true → inn S l b = true → False) (hk : ∀ l b, b ≠ c → b < S 20 2 → knk S' l c = true → knk S l b = true → False) : SI N S' := by
  obtain ⟨g1, g2, g3, g4, g5, g6⟩ := h
  have h4 := hs.2.2.2.1
  refine ⟨by rw [h4, h4, h4, h4]; exact g1, fun b hb => ?_, fun l a b ha hb ia ib => ?_, fun l a b ha hb ia ib => ?_, fun i hi => ?_, fun i j hi hj => ?_⟩
  · by_cases e : b = c
    · rw [e]; exact hC
    · rw [h4] at hb; exact hs.cie e (g2 b hb)
  · rw [h4] at ha hb
    by_cases ea : a = c <;> by_cases eb : b = c
    · omega
    · rw [ea] at ia; rw [hs.ine eb] at ib; exact (hi l b eb hb ia ib).elim
    · rw [eb] at ib; rw [hs.ine ea] at ia; exact (hi l a ea ha ib ia).elim
    · rw [hs.ine ea] at ia; rw [hs.ine eb] at ib; exact g3 l a b ha hb ia ib
  · rw [h4] at ha hb
    by_cases ea : a = c <;> by_cases eb : b = c
    · omega
    · rw [ea] at ia; rw [hs.kne eb] at ib; exact (hk l b eb hb ia ib).elim
    · rw [eb] at ib; rw [hs.kne ea] at ia; exact (hk l a ea ha ib ia).elim
    · rw [hs.kne ea] at ia; rw [hs.kne eb] at ib; exact g4 l a b ha hb ia ib
  · rw [h4] at hi; rw [hs.2.1, hs.2.2.1, h4]; exact g5 i hi
  · rw [h4] at hi hj; rw [hs.2.1, hs.2.1, hs.2.2.1, hs.2.2.1]; exact g6 i j hi hj
theorem sm_end {S : zS} {c why : Nat} : Sm S (endS S c why) c := ((Sm.fld (by omega)).tr (Sm.fld (by omega))).tr ((Sm.fld (by omega)).tr (Sm.fld (by omega)))
theorem sm_rng {S : zS} {c ls : Nat} : Sm S (rngS S c ls) c := ((Sm.fld (by omega)).tr (Sm.fld (by omega))).tr ((Sm.fld (by omega)).tr (Sm.fld (by omega)))
theorem sm_kno {S : zS} {c t : Nat} : Sm S (knoS S c t) c := ((Sm.fld (by omega)).tr (Sm.fld (by omega))).tr (Sm.fld (by omega))
theorem sm_not {S : zS} {c w : Nat} : Sm S (notS S c w) c := by
  unfold notS
  by_cases e : S 15 c < 10
  · rw [if_pos e]; exact (Sm.act e).tr (Sm.fld (by omega))
  · rw [if_neg e]; exact Sm.fld (by omega)
theorem sm_com {W S : zS} {c t s : Nat} (h : S 9 c < 9) : Sm S (comS W S c t s) c := ((Sm.row (Or.inl rfl) h).tr (Sm.row (Or.inr rfl) h)).tr (Sm.fld (by omega))
theorem e_v (S : zS) (c why : Nat) : endS S c why 7 c = 3 ∧ endS S c why 8 c = why ∧ endS S c why 12 c = 0 ∧ endS S c why 13 c = 0 := by
  unfold endS; simp [su_eq]
theorem e_o (S : zS) (c why k i : Nat) (h7 : k ≠ 7) (h8 : k ≠ 8) (h12 : k ≠ 12) (h13 : k ≠ 13) : endS S c why k i = S k i := by
  unfold endS; simp [su_eq, h7, h8, h12, h13]
theorem r_v (S : zS) (c ls : Nat) : rngS S c ls 7 c = 0 ∧ rngS S c ls 12 c = ls ∧ rngS S c ls 13 c = 0 ∧ rngS S c ls 14 c = 0 := by
  unfold rngS; simp [su_eq]
theorem r_o (S : zS) (c ls k i : Nat) (h7 : k ≠ 7) (h14 : k ≠ 14) (h12 : k ≠ 12) (h13 : k ≠ 13) : rngS S c ls k i = S k i := by
  unfold rngS; simp [su_eq, h7, h14, h12, h13]
theorem k_v (S : zS) (c t : Nat) : knoS S c t 7 c = 2 ∧ knoS S c t 12 c = 0 ∧ knoS S c t 13 c = t + 1 := by
  unfold knoS; simp [su_eq]
theorem k_o (S : zS) (c t k i : Nat) (h7 : k ≠ 7) (h12 : k ≠ 12) (h13 : k ≠ 13) : knoS S c t k i = S k i := by
  unfold knoS; simp [su_eq, h7, h12, h13]
theorem n_v (S : zS) (c w : Nat) : notS S c w 15 c = S 15 c + 1 := by unfold notS; rw [su_s]
theorem n_o (S : zS) (c w k i : Nat) (h15 : k ≠ 15) (h16 : k ≠ 16) : notS S c w k i = S k i := by
  unfold notS; rw [su_k h15]; split
  · rw [su_k h16]
  · rfl
theorem n_16 (S : zS) (c w i : Nat) : notS S c w 16 i = if S 15 c < 10 ∧ i = 10 * c + S 15 c then w else S 16 i := by
  unfold notS; rw [su_k (by decide)]
  by_cases e : S 15 c < 10
  · rw [if_pos e, su_i]; simp [e]
  · rw [if_neg e]; simp [e]
theorem c_9 (W S : zS) (c t s : Nat) : comS W S c t s 9 c = S 9 c + 1 := by unfold comS; rw [su_s]
theorem c_10 (W S : zS) (c t s i : Nat) : comS W S c t s 10 i = if i = 9 * c + S 9 c then t else S 10 i := by unfold comS; rw [su_k (by decide), su_k (by decide), su_i]
theorem c_11 (W S : zS) (c t s i : Nat) : comS W S c t s 11 i = if i = 9 * c + S 9 c then (if S 9 c = 0 ∧ hasW W t 7 = true then t else s) else S 11 i := by unfold comS; rw [su_k (by decide), su_i, su_k (by decide)]
theorem c_o (W S : zS) (c t s k i : Nat) (h9 : k ≠ 9) (h10 : k ≠ 10) (h11 : k ≠ 11) : comS W S c t s k i = S k i := by unfold comS; rw [su_k h9, su_k h11, su_k h10]
theorem SI.fin {N : Nat} {S : zS} {c why : Nat} (h : SI N S) (hc : c < S 20 2) : SI N (endS S c why) := by
  have hC := h.2.1 c hc
  obtain ⟨v1, v2, v3, v4⟩ := e_v S c why
  refine h.one sm_end ?_ (fun l b hb hbn h1 h2 => ?_) (fun l b hb hbn h1 h2 => ?_)
  · obtain ⟨c1, c2, c3, c4, c5, c6, c7, c8, c9, c10, c11, c12, c13, c14, c15⟩ := hC
    unfold CI
    rw [v1, v3, v4]
    simp only [e_o S c why 6 _ (by decide) (by decide) (by decide) (by decide), e_o S c why 9 _ (by decide) (by decide) (by decide) (by decide), e_o S c why 10 _ (by decide) (by decide) (by decide) (by decide), e_o S c why 11 _ (by decide) (by decide) (by decide) (by decide), e_o S c why 14 _ (by decide) (by decide) (by decide) (by decide), e_o S c why 15 _ (by decide) (by decide) (by decide) (by decide), e_o S c why 16 _ (by decide) (by decide) (by decide) (by decide), e_o S c why 20 _ (by decide) (by decide) (by decide) (by decide)]
    exact ⟨c1, by omega, c3, c4, c5, by simp, by omega, c8, c9, fun _ => trivial, fun _ => trivial, by omega, by simp, by omega, c15⟩
  · unfold inn at h1; rw [v1] at h1; simp at h1
  · unfold knk at h1; rw [v1] at h1; simp at h1
theorem SI.rng {N : Nat} {S : zS} {c ls : Nat} (h : SI N S) (hc : c < S 20 2) (hl : ∀ l, ls.testBit l = true → l < S 20 0 ∧ l ≠ S 6 c ∧ ∀ b, b ≠ c → b < S 20 2 → inn S l b = false) (hs : S 7 c ≠ 3) : SI N (rngS S c ls) := by
  have hC := h.2.1 c hc
  obtain ⟨v1, v2, v3, v4⟩ := r_v S c ls
  refine h.one sm_rng ?_ (fun l b hb hbn h1 h2 => ?_) (fun l b hb hbn h1 h2 => ?_)
  · obtain ⟨c1, c2, c3, c4, c5, c6, c7, c8, c9, c10, c11, c12, c13, c14, c15⟩ := hC
    unfold CI
    rw [v1, v2, v3, v4]
    simp only [r_o S c ls 6 _ (by decide) (by decide) (by decide) (by decide), r_o S c ls 9 _ (by decide) (by decide) (by decide) (by decide), r_o S c ls 10 _ (by decide) (by decide) (by decide) (by decide), r_o S c ls 11 _ (by decide) (by decide) (by decide) (by decide), r_o S c ls 15 _ (by decide) (by decide) (by decide) (by decide), r_o S c ls 16 _ (by decide) (by decide) (by decide) (by decide), r_o S c ls 20 _ (by decide) (by decide) (by decide) (by decide)]
    refine ⟨c1, by omega, c3, c4, c5, fun l g => (hl l g).1, by omega, by omega, c9, by omega, fun _ => trivial, by omega, ?_, by omega, c15⟩
    cases e : ls.testBit (S 6 c) with
    | false => rfl
    | true => exact absurd rfl (hl _ e).2.1
  · unfold inn at h1
    rw [v1, v2, v3, r_o S c ls 6 _ (by decide) (by decide) (by decide) (by decide)] at h1
    simp at h1
    rcases h1 with h1 | h1
    · have h7 : inn S l c = true := by unfold inn; simp [h1, hs]
      exact hb ((h.2.2.1 l b c hbn hc h2 h7))
    · rw [(hl l h1).2.2 b hb hbn] at h2; cases h2
  · unfold knk at h1; rw [v1] at h1; simp at h1
theorem SI.nte {N : Nat} {S : zS} {c w : Nat} (h : SI N S) (hc : c < S 20 2) (hw : w < 24) (ha : S 15 c ≤ 2 * S 9 c) : SI N (notS S c w) := by
  have hC := h.2.1 c hc
  refine h.one sm_not ?_ (fun l b hb hbn h1 h2 => ?_) (fun l b hb hbn h1 h2 => ?_)
  · obtain ⟨c1, c2, c3, c4, c5, c6, c7, c8, c9, c10, c11, c12, c13, c14, c15⟩ := hC
    unfold CI
    rw [n_v]
    simp only [n_o S c w 6 _ (by decide) (by decide), n_o S c w 7 _ (by decide) (by decide), n_o S c w 9 _ (by decide) (by decide), n_o S c w 10 _ (by decide) (by decide), n_o S c w 11 _ (by decide) (by decide), n_o S c w 12 _ (by decide) (by decide), n_o S c w 13 _ (by decide) (by decide), n_o S c w 14 _ (by decide) (by decide), n_o S c w 20 _ (by decide) (by decide), n_16]
    refine ⟨c1, c2, c3, c4, c5, c6, c7, c8, by omega, c10, c11, c12, c13, c14, fun i hi hi2 => ?_⟩
    by_cases e : S 15 c < 10 ∧ 10 * c + i = 10 * c + S 15 c
    · rw [if_pos e]; exact hw
    · rw [if_neg e]; exact c15 i (by omega) hi2
  · have : inn (notS S c w) l c = inn S l c := by
      unfold inn; rw [n_o S c w 6 _ (by decide) (by decide), n_o S c w 7 _ (by decide) (by decide), n_o S c w 12 _ (by decide) (by decide), n_o S c w 13 _ (by decide) (by decide)]
    rw [this] at h1
    exact hb (h.2.2.1 l b c hbn hc h2 h1)
  · have : knk (notS S c w) l c = knk S l c := by
      unfold knk; rw [n_o S c w 7 _ (by decide) (by decide), n_o S c w 13 _ (by decide) (by decide)]
    rw [this] at h1
    exact hb (h.2.2.2.1 l b c hbn hc h2 h1)
theorem SI.com {N : Nat} {W S : zS} {c t s : Nat} (h : SI N S) (hc : c < S 20 2) (ht : t < S 20 0) (hs : s < S 20 0) (hr : inRow S c t = false) : S 9 c < 8 ∧ SI N (comS W S c t s) := by
  have hC := h.2.1 c hc
  have hnr : ∀ i, i < S 9 c → S 10 (9 * c + i) ≠ t := by
    intro i hi e
    have : inRow S c t = true := (anf_iff _ _ _ _).mpr (Or.inr ⟨i, by omega, by omega, by simp [e]⟩)
    rw [hr] at this; cases this
  obtain ⟨c1, c2, c3, c4, c5, c6, c7, c8, c9, c10, c11, c12, c13, c14, c15⟩ := hC
  have h8 : S 9 c + 1 ≤ S 20 0 := pigeon (S 20 0) (S 9 c + 1) (fun i => if i = S 9 c then t else S 10 (9 * c + i)) (fun i hi => by
      by_cases e : i = S 9 c
      · simp only [e, if_true]; exact ht
      · simp only [e, if_false]; exact (c4 i (by omega)).1) (fun i j hi hj e => by
      by_cases ei : i = S 9 c <;> by_cases ej : j = S 9 c
      · omega
      · simp only [ei, if_true, ej, if_false] at e; exact absurd e.symm (hnr j (by omega))
      · simp only [ei, if_false, ej, if_true] at e; exact absurd e (hnr i (by omega))
      · simp only [ei, if_false, ej, if_false] at e; exact c5 i j (by omega) (by omega) e)
  have hL := h.1.1
  refine ⟨by omega, h.one (sm_com (by omega)) ?_ (fun l b hb hbn h1 h2 => ?_) (fun l b hb hbn h1 h2 => ?_)⟩
  · unfold CI
    rw [c_9]
    simp only [c_10, c_11, c_o W S c t s 6 _ (by decide) (by decide) (by decide), c_o W S c t s 7 _ (by decide) (by decide) (by decide), c_o W S c t s 12 _ (by decide) (by decide) (by decide), c_o W S c t s 13 _ (by decide) (by decide) (by decide), c_o W S c t s 14 _ (by decide) (by decide) (by decide), c_o W S c t s 15 _ (by decide) (by decide) (by decide), c_o W S c t s 16 _ (by decide) (by decide) (by decide), c_o W S c t s 20 _ (by decide) (by decide) (by decide)]
    refine ⟨c1, c2, by omega, fun i hi => ?_, fun i j hi hj e => ?_, c6, c7, c8, by omega, c10, c11, c12, c13, c14, c15⟩
    · by_cases e : i = S 9 c
      · simp only [e, if_true]; exact ⟨ht, by split <;> assumption⟩
      · rw [if_neg (by omega), if_neg (by omega)]; exact c4 i (by omega)
    · by_cases ei : i = S 9 c <;> by_cases ej : j = S 9 c
      · omega
      · rw [if_pos (by omega), if_neg (by omega)] at e; exact absurd e.symm (hnr j (by omega))
      · rw [if_neg (by omega), if_pos (by omega)] at e; exact absurd e (hnr i (by omega))
      · rw [if_neg (by omega), if_neg (by omega)] at e; exact c5 i j (by omega) (by omega) e
  · have : inn (comS W S c t s) l c = inn S l c := by
      unfold inn; rw [c_o W S c t s 6 _ (by decide) (by decide) (by decide), c_o W S c t s 7 _ (by decide) (by decide) (by decide), c_o W S c t s 12 _ (by decide) (by decide) (by decide), c_o W S c t s 13 _ (by decide) (by decide) (by decide)]
    rw [this] at h1
    exact hb (h.2.2.1 l b c hbn hc h2 h1)
  · have : knk (comS W S c t s) l c = knk S l c := by
      unfold knk; rw [c_o W S c t s 7 _ (by decide) (by decide) (by decide), c_o W S c t s 13 _ (by decide) (by decide) (by decide)]
    rw [this] at h1
    exact hb (h.2.2.2.1 l b c hbn hc h2 h1)
theorem SI.kno {N : Nat} {S : zS} {c t : Nat} (h : SI N S) (hc : c < S 20 2) (ht : t < S 20 0) (htc : t ≠ S 6 c) (hk : kAt S t = 0) (hs : S 7 c ≠ 3) : SI N (knoS S c t) := by
  have hC := h.2.1 c hc
  obtain ⟨v1, v2, v3⟩ := k_v S c t
  refine h.one sm_kno ?_ (fun l b hb hbn h1 h2 => ?_) (fun l b hb hbn h1 h2 => ?_)
  · obtain ⟨c1, c2, c3, c4, c5, c6, c7, c8, c9, c10, c11, c12, c13, c14, c15⟩ := hC
    unfold CI
    rw [v1, v2, v3]
    simp only [k_o S c t 6 _ (by decide) (by decide) (by decide), k_o S c t 9 _ (by decide) (by decide) (by decide), k_o S c t 10 _ (by decide) (by decide) (by decide), k_o S c t 11 _ (by decide) (by decide) (by decide), k_o S c t 14 _ (by decide) (by decide) (by decide), k_o S c t 15 _ (by decide) (by decide) (by decide), k_o S c t 16 _ (by decide) (by decide) (by decide), k_o S c t 20 _ (by decide) (by decide) (by decide)]
    exact ⟨c1, by omega, c3, c4, c5, by simp, by omega, c8, c9, fun _ => trivial, by omega, by omega, by simp, by omega, c15⟩
  · unfold inn at h1
    rw [v1, v2, v3, k_o S c t 6 _ (by decide) (by decide) (by decide)] at h1
    simp at h1
    have h7 : inn S l c = true := by unfold inn; simp [h1, hs]
    exact hb (h.2.2.1 l b c hbn hc h2 h7)
  · unfold knk at h1 h2
    rw [v1, v3] at h1
    simp at h1 h2
    have : lsf (knk S t) (S 20 2) 0 0 ≠ 0 := by
      intro g
      rcases lsf_spec (knk S t) (S 20 2) 0 0 with ⟨-, g2⟩ | ⟨x, g2, _⟩
      · have := g2 b (by omega) (by omega); unfold knk at this; simp [h2, h1] at this
      · omega
    exact this hk
