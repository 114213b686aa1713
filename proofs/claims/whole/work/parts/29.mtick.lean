/-! Settled states, backs that stay, the tick's parts -/
def Sd (S : zS) : Prop := ∀ l, l < S 20 0 → kAt S l ≠ 0 → cOf S l ≠ 0
def Bk (S S' : zS) : Prop := S 20 4 ≤ S' 20 4 ∧ ∀ i, i < S 20 4 → S' 17 i = S 17 i ∧ S' 18 i = S 18 i
theorem Bk.rf {S : zS} : Bk S S := ⟨Nat.le_refl _, fun _ _ => ⟨rfl, rfl⟩⟩
theorem Bk.tr {S T U : zS} (h : Bk S T) (g : Bk T U) : Bk S U := ⟨Nat.le_trans h.1 g.1, fun i hi => ⟨(g.2 i (by have := h.1; omega)).1.trans (h.2 i hi).1, (g.2 i (by have := h.1; omega)).2.trans (h.2 i hi).2⟩⟩
theorem Sm.bk {S S' : zS} {c : Nat} (h : Sm S S' c) : Bk S S' := ⟨by rw [h.2.2.2.1]; exact Nat.le_refl _, fun i _ => ⟨h.2.1 i, h.2.2.1 i⟩⟩
theorem bk_bck {S : zS} {f t : Nat} : Bk S (bckS S f t) := by
  unfold bckS
  split
  · exact Bk.rf
  · refine ⟨by rw [su_s]; omega, fun i hi => ?_⟩
    rw [su_k (by decide), su_k (by decide), su_i, su_k (by decide), su_i, su_k (by decide), if_neg (by omega), if_neg (by omega)]
    exact ⟨rfl, rfl⟩
theorem bk_arr {W S : zS} {c t : Nat} : Bk S (arrS W S c t) := by
  unfold arrS
  split
  · exact sm_rng.bk
  · split
    · exact sm_end.bk.tr bk_bck
    · exact sm_end.bk
/-- rung of the others stays -/
def Ru (S S' : zS) (c : Nat) : Prop := ∀ b, b ≠ c → S' 14 b = S 14 b
theorem Ru.tr {S T U : zS} {c : Nat} (h : Ru S T c) (g : Ru T U c) : Ru S U c := fun b hb => (g b hb).trans (h b hb)
theorem Sm.ru {S S' : zS} {c : Nat} (h : Sm S S' c) : Ru S S' c := fun b hb => (h.2.2.2.2.2.1 b hb).2.2.2.2.2.1
theorem ru_arr {W S : zS} {c t : Nat} : Ru S (arrS W S c t) c := by
  unfold arrS
  split
  · exact sm_rng.ru
  · split
    · exact sm_end.ru.tr (fun b _ => bck_o (by decide) (by decide) (by decide))
    · exact sm_end.ru
theorem go_bk {N : Nat} {W : zS} : ∀ (n : Nat) (S : zS) (c t s : Nat), SI N S → c < S 20 2 → WB W → WN W S → t < S 20 0 → s < S 20 0 → Bk S (goS W n S c t s) ∧ Ru S (goS W n S c t s) c
  | 0, S, c, t, s, _, _, _, _, _, _ => ⟨Bk.rf, fun _ _ => rfl⟩
  | n + 1, S, c, t, s, h, hc, hWB, hW, ht, hs => by
    rw [goS]
    by_cases e1 : inRow S c t = true ∨ (t = S 6 c ∧ 0 < S 9 c)
    · rw [if_pos e1]; exact ⟨sm_end.bk, sm_end.ru⟩
    · rw [if_neg e1]
      have hr : inRow S c t = false := by
        cases e : inRow S c t with
        | false => rfl
        | true => exact absurd (Or.inl e) e1
      obtain ⟨h9, hcom⟩ := h.com (W := W) hc ht hs hr
      have k20 : ∀ i, comS W S c t s 20 i = S 20 i := fun i => c_o W S c t s 20 i (by decide) (by decide) (by decide)
      have hcs : Sm S (comS W S c t s) c := sm_com (by omega)
      have k15 : comS W S c t s 15 c ≤ 2 * comS W S c t s 9 c := by
        have := (h.2.1 c hc).2.2.2.2.2.2.2.2.1
        rw [c_o W S c t s 15 c (by decide) (by decide) (by decide), c_9]; omega
      have hWc : WN W (comS W S c t s) := hW.cn (k20 0)
      have k2 := k20 2
      have k0 := k20 0
      generalize comS W S c t s = T at *
      cases ea : actsS W T c t s with
      | zero => rw [if_pos rfl]; exact ⟨hcs.bk.tr bk_arr, hcs.ru.tr ru_arr⟩
      | succ w =>
        obtain ⟨w1, w2, w3, w4⟩ := acts_lt ea
        rw [if_neg (by omega)]
        simp only [Nat.add_sub_cancel]
        have hN := hcom.nte (c := c) (by omega) (w := w) (by have := hWB.1; omega) k15
        have q20 : ∀ i, notS T c w 20 i = T 20 i := fun i => n_o T c w 20 i (by decide) (by decide)
        split
        · exact ⟨hcs.bk.tr (sm_not.bk.tr sm_end.bk), hcs.ru.tr (sm_not.ru.tr sm_end.ru)⟩
        · split
          · exact ⟨hcs.bk.tr (sm_not.bk.tr sm_kno.bk), hcs.ru.tr (sm_not.ru.tr sm_kno.ru)⟩
          · obtain ⟨a1, a2⟩ := go_bk n (notS T c w) c (W 3 w) t hN (by rw [q20]; omega) hWB (hWc.cn (q20 0)) (by rw [q20]; exact (hWc w w1).2) (by rw [q20]; omega)
            exact ⟨hcs.bk.tr (sm_not.bk.tr a1), hcs.ru.tr (sm_not.ru.tr a2)⟩
theorem bk_set1 {S : zS} {l : Nat} : Bk S (set1 S l) := by unfold set1; split; exact sm_rng.bk; exact Bk.rf
theorem bk_sets : ∀ (r l : Nat) (S : zS), Bk S (setS r l S)
  | 0, _, _ => Bk.rf
  | r + 1, l, S => by rw [setS]; exact bk_set1.tr (bk_sets r (l + 1) _)
/-- rung only falls in a settling -/
theorem ru_set1 {S : zS} {l b : Nat} : set1 S l 14 b ≤ S 14 b := by
  unfold set1
  split
  · by_cases e : b = kAt S l - 1
    · subst e; rw [(r_v _ _ _).2.2.2]; omega
    · rw [(sm_rng.2.2.2.2.2.1 b e).2.2.2.2.2.1]; exact Nat.le_refl _
  · exact Nat.le_refl _
theorem ru_sets : ∀ (r l : Nat) (S : zS) (b : Nat), setS r l S 14 b ≤ S 14 b
  | 0, _, _, _ => Nat.le_refl _
  | r + 1, l, S, b => by rw [setS]; exact Nat.le_trans (ru_sets r (l + 1) _ b) ru_set1
theorem cOf_ne {S : zS} {l : Nat} : cOf S l ≠ 0 ↔ ∃ c, c < S 20 2 ∧ inn S l c = true := by
  constructor
  · intro h
    cases e : cOf S l with
    | zero => exact absurd e h
    | succ c => exact ⟨c, cOf_s e⟩
  · rintro ⟨c, h1, h2⟩ h
    rw [cOf_0.mp h c h1] at h2; cases h2
theorem kAt_ne {S : zS} {l : Nat} : kAt S l ≠ 0 ↔ ∃ c, c < S 20 2 ∧ knk S l c = true := by
  constructor
  · intro h
    cases e : kAt S l with
    | zero => exact absurd e h
    | succ c => exact ⟨c, kAt_s e⟩
  · rintro ⟨c, h1, h2⟩ h
    rw [kAt_0.mp h c h1] at h2; cases h2
theorem set1_sd {N : Nat} {S : zS} {l : Nat} (h : SI N S) (hl : l < S 20 0) (hp : ∀ x, x < l → kAt S x ≠ 0 → cOf S x ≠ 0) : ∀ x, x < l + 1 → kAt (set1 S l) x ≠ 0 → cOf (set1 S l) x ≠ 0 := by
  intro x hx hk
  by_cases e : kAt S l ≠ 0 ∧ cOf S l = 0
  · have hset : set1 S l = rngS S (kAt S l - 1) (2 ^ l) := by unfold set1; rw [if_pos e]
    rw [hset] at hk ⊢
    have hc : kAt S l = (kAt S l - 1) + 1 := by omega
    obtain ⟨k1, k2⟩ := kAt_s hc
    generalize kAt S l - 1 = c at *
    have sm : Sm S (rngS S c (2 ^ l)) c := sm_rng
    obtain ⟨v1, v2, v3, v4⟩ := r_v S c (2 ^ l)
    have e20 : rngS S c (2 ^ l) 20 2 = S 20 2 := r_o _ _ _ _ _ (by decide) (by decide) (by decide) (by decide)
    rw [cOf_ne, e20]
    by_cases ex : x = l
    · subst ex
      refine ⟨c, k1, ?_⟩
      unfold inn; rw [v1, v2]; simp [Nat.testBit_two_pow]
    · rw [kAt_ne, e20] at hk
      obtain ⟨b, b1, b2⟩ := hk
      have hbc : b ≠ c := by intro g; subst g; unfold knk at b2; rw [v1] at b2; simp at b2
      rw [sm.kne hbc] at b2
      obtain ⟨d, d1, d2⟩ := cOf_ne.mp (hp x (by omega) (kAt_ne.mpr ⟨b, b1, b2⟩))
      refine ⟨d, d1, ?_⟩
      by_cases ed : d = c
      · subst ed
        have h7 : S 7 d = 2 := by unfold knk at k2; simp at k2; exact k2.1
        have h12 := (h.2.1 d d1).2.2.2.2.2.2.2.2.2.1 (by omega)
        unfold inn at d2 ⊢
        rw [v1, r_o _ _ _ 6 _ (by decide) (by decide) (by decide) (by decide)]
        rw [h7, h12] at d2
        simp at d2
        simp [d2]
      · rw [sm.ine ed]; exact d2
  · have hset : set1 S l = S := by unfold set1; rw [if_neg e]
    rw [hset] at hk ⊢
    by_cases ex : x = l
    · subst ex; exact fun g => e ⟨hk, g⟩
    · exact hp x (by omega) hk
theorem sets_sd {N : Nat} : ∀ (r l : Nat) (S : zS), SI N S → l + r = S 20 0 → (∀ x, x < l → kAt S x ≠ 0 → cOf S x ≠ 0) → ∀ x, x < l + r → kAt (setS r l S) x ≠ 0 → cOf (setS r l S) x ≠ 0
  | 0, l, S, _, _, hp => hp
  | r + 1, l, S, h, hr, hp => by
    rw [setS]
    have hc := set1_cn (S := S) (l := l)
    intro x hx
    exact sets_sd r (l + 1) (set1 S l) (h.st1 (by omega)) (by rw [hc.1]; omega) (set1_sd h (by omega) hp) x (by omega)
theorem sett_sd {N : Nat} {S : zS} (h : SI N S) : Sd (settS S) := by
  intro l hl
  obtain ⟨-, c2⟩ := SI.sts (S 20 0) 0 S h (by omega)
  unfold settS at hl ⊢
  rw [c2.1] at hl
  exact sets_sd (S 20 0) 0 S h (by omega) (fun x hx => by omega) l (by omega)
/-- a settled state is left as it is -/
theorem sets_id : ∀ (r l : Nat) (S : zS), Sd S → l + r = S 20 0 → setS r l S = S
  | 0, l, S, _, _ => rfl
  | r + 1, l, S, h, hr => by
    rw [setS]
    have : set1 S l = S := by
      unfold set1
      rw [if_neg (fun g => h l (by omega) g.1 g.2)]
    rw [this]
    exact sets_id r (l + 1) S h (by omega)
theorem sett_id {S : zS} (h : Sd S) : settS S = S := sets_id _ _ _ h (by omega)
theorem SI.rung {N : Nat} {S : zS} {c v : Nat} (h : SI N S) (hc : c < S 20 2) (hv : v ≤ S 20 3) : SI N (su S 14 c v) := by
  refine h.one (Sm.fld (by omega)) ?_ (fun l b hb hbn h1 h2 => ?_) (fun l b hb hbn h1 h2 => ?_)
  · have := h.2.1 c hc
    unfold CI at this ⊢
    rw [su_s]
    simp only [su_k (S := S) (i := c) (v := v) (show 6 ≠ 14 by decide), su_k (S := S) (i := c) (v := v) (show 7 ≠ 14 by decide), su_k (S := S) (i := c) (v := v) (show 9 ≠ 14 by decide), su_k (S := S) (i := c) (v := v) (show 10 ≠ 14 by decide), su_k (S := S) (i := c) (v := v) (show 11 ≠ 14 by decide), su_k (S := S) (i := c) (v := v) (show 12 ≠ 14 by decide), su_k (S := S) (i := c) (v := v) (show 13 ≠ 14 by decide), su_k (S := S) (i := c) (v := v) (show 15 ≠ 14 by decide), su_k (S := S) (i := c) (v := v) (show 16 ≠ 14 by decide), su_k (S := S) (i := c) (v := v) (show 20 ≠ 14 by decide)]
    obtain ⟨c1, c2, c3, c4, c5, c6, c7, c8, c9⟩ := this
    exact ⟨c1, c2, c3, c4, c5, c6, c7, hv, c9⟩
  · have : inn (su S 14 c v) l c = inn S l c := by unfold inn; simp [su_eq]
    rw [this] at h1
    exact hb (h.2.2.1 l b c hbn hc h2 h1)
  · have : knk (su S 14 c v) l c = knk S l c := by unfold knk; simp [su_eq]
    rw [this] at h1
    exact hb (h.2.2.2.1 l b c hbn hc h2 h1)
theorem SI.sil {N : Nat} {S : zS} {c : Nat} (h : SI N S) (hc : c < S 20 2) : SI N (su S 12 c 0) := by
  refine h.one (Sm.fld (by omega)) ?_ (fun l b hb hbn h1 h2 => ?_) (fun l b hb hbn h1 h2 => ?_)
  · have := h.2.1 c hc
    unfold CI at this ⊢
    rw [su_s]
    simp only [su_k (S := S) (i := c) (v := 0) (show 6 ≠ 12 by decide), su_k (S := S) (i := c) (v := 0) (show 7 ≠ 12 by decide), su_k (S := S) (i := c) (v := 0) (show 9 ≠ 12 by decide), su_k (S := S) (i := c) (v := 0) (show 10 ≠ 12 by decide), su_k (S := S) (i := c) (v := 0) (show 11 ≠ 12 by decide), su_k (S := S) (i := c) (v := 0) (show 13 ≠ 12 by decide), su_k (S := S) (i := c) (v := 0) (show 14 ≠ 12 by decide), su_k (S := S) (i := c) (v := 0) (show 15 ≠ 12 by decide), su_k (S := S) (i := c) (v := 0) (show 16 ≠ 12 by decide), su_k (S := S) (i := c) (v := 0) (show 20 ≠ 12 by decide)]
    obtain ⟨c1, c2, c3, c4, c5, c6, c7, c8, c9, c10, c11, c12, c13, c14, c15⟩ := this
    exact ⟨c1, c2, c3, c4, c5, by simp, c7, c8, c9, fun _ => trivial, c11, c12, by simp, c14, c15⟩
  · have : inn S l c = true := by
      unfold inn at h1 ⊢
      simp [su_eq] at h1
      simp [h1.1]
      rcases h1.2 with g | g
      · exact Or.inl (Or.inl g)
      · exact Or.inr g
    exact hb (h.2.2.1 l b c hbn hc h2 this)
  · have : knk (su S 12 c 0) l c = knk S l c := by unfold knk; simp [su_eq]
    rw [this] at h1
    exact hb (h.2.2.2.1 l b c hbn hc h2 h1)
theorem onw_lt {W S : zS} {c w : Nat} (h : onwS W S c = w + 1) : w < W 6 0 := (amin_s h).1
theorem rgo_ok {N : Nat} {W S : zS} {c : Nat} (hWB : WB W) (h : SI N S) (hR : R1 S) (hW : WN W S) (hc : c < S 20 2) (h7 : S 7 c = 0) (hr : S 14 c + 1 ≤ S 20 3) : SI N (rgoS W S c) ∧ R1 (rgoS W S c) ∧ Cn S (rgoS W S c) ∧ Bk S (rgoS W S c) ∧ Ru S (rgoS W S c) c := by
  have h1 := h.rung hc hr
  obtain ⟨r1, r2⟩ := hR c hc (by omega)
  have sm : Sm S (su S 14 c (S 14 c + 1)) c := Sm.fld (by omega)
  have hR' : R1 (su S 14 c (S 14 c + 1)) := by
    intro b hb hb7
    rw [su_k (by decide)] at hb hb7
    rw [su_k (by decide), su_k (by decide)]
    exact hR b hb hb7
  unfold rgoS
  cases eo : onwS W S c with
  | zero => rw [if_pos rfl]; exact ⟨h1, hR', sm.cn, sm.bk, sm.ru⟩
  | succ w =>
    rw [if_neg (by omega), Nat.add_sub_cancel]
    have hw := onw_lt eo
    have h15 : su S 14 c (S 14 c + 1) 15 c ≤ 2 * su S 14 c (S 14 c + 1) 9 c := by rw [su_k (by decide), su_k (by decide)]; exact r2
    have e20 : ∀ i, su S 14 c (S 14 c + 1) 20 i = S 20 i := fun i => su_k (by decide)
    have h2 := h1.nte (c := c) (w := w) (by rw [e20]; exact hc) (by have := hWB.1; omega) h15
    have n20 : ∀ i, notS (su S 14 c (S 14 c + 1)) c w 20 i = S 20 i := fun i => by rw [n_o _ _ _ _ _ (by decide) (by decide), e20]
    have h3 := h2.sil (c := c) (by rw [n20]; exact hc)
    have u20 : ∀ i, su (notS (su S 14 c (S 14 c + 1)) c w) 12 c 0 20 i = S 20 i := fun i => by rw [su_k (by decide), n20]
    have sm3 : Sm S (su (notS (su S 14 c (S 14 c + 1)) c w) 12 c 0) c := sm.tr (sm_not.tr (Sm.fld (by omega)))
    have hlast : lastS S c < S 20 0 := ((h.2.1 c hc).2.2.2.1 (S 9 c - 1) (by omega)).1
    have x7 : su (notS (su S 14 c (S 14 c + 1)) c w) 12 c 0 7 c = 0 := by rw [su_k (by decide), n_o _ _ _ _ _ (by decide) (by decide), su_k (by decide)]; exact h7
    have x9 : su (notS (su S 14 c (S 14 c + 1)) c w) 12 c 0 9 c = S 9 c := by rw [su_k (by decide), n_o _ _ _ _ _ (by decide) (by decide), su_k (by decide)]
    have x12 : su (notS (su S 14 c (S 14 c + 1)) c w) 12 c 0 12 c = 0 := su_s
    generalize su (notS (su S 14 c (S 14 c + 1)) c w) 12 c 0 = T at *
    have hWT : WN W T := hW.cn (u20 0)
    obtain ⟨a1, a2⟩ := SI.go hWB 9 T c (W 3 w) (lastS S c) h3 hWT (by rw [u20]; exact hc) x7 x12 (by rw [u20]; exact (hW w hw).2) (by rw [u20]; exact hlast)
    obtain ⟨b1, b2⟩ := go_R1 hWB 9 T c (W 3 w) (lastS S c) h3 hWT (by rw [u20]; exact hc) x7 x12 (by rw [u20]; exact (hW w hw).2) (by rw [u20]; exact hlast) (by omega)
    obtain ⟨d1, d2⟩ := go_bk 9 T c (W 3 w) (lastS S c) h3 (by rw [u20]; exact hc) hWB hWT (by rw [u20]; exact (hW w hw).2) (by rw [u20]; exact hlast)
    refine ⟨a1, ?_, sm3.cn.tr a2, sm3.bk.tr d1, sm3.ru.tr d2⟩
    intro b hb hb7
    by_cases e : b = c
    · subst e; exact b2 hb7
    · obtain ⟨c1, c2, c3⟩ := (sm3.ot.tr b1) b e
      rw [a2.2.1, u20] at hb
      rw [c1] at hb7
      rw [c2, c3]
      exact hR b hb hb7
/-- calls from c on have not rung this tick yet -/
def Rg (S : zS) (c : Nat) : Prop := ∀ b, c ≤ b → b < S 20 2 → S 14 b + 1 ≤ S 20 3
theorem rg1_ok {N : Nat} {W S : zS} {c : Nat} (hWB : WB W) (h : SI N S) (hR : R1 S) (hD : Sd S) (hW : WN W S) (hc : c < S 20 2) (hr : Rg S c) : SI N (rg1 W S c) ∧ R1 (rg1 W S c) ∧ Sd (rg1 W S c) ∧ Cn S (rg1 W S c) ∧ Bk S (rg1 W S c) ∧ Rg (rg1 W S c) (c + 1) := by
  unfold rg1
  by_cases e : S 7 c = 0
  · rw [if_pos e]
    obtain ⟨a1, a2, a3, a4, a5⟩ := rgo_ok hWB h hR hW hc e (hr c (by omega) hc)
    obtain ⟨b1, b2⟩ := SI.sts (rgoS W S c 20 0) 0 _ a1 (by omega)
    refine ⟨b1, R1.sts _ _ _ a2, sett_sd a1, a3.tr b2, a4.tr (bk_sets _ _ _), fun b hb hbn => ?_⟩
    have := (a3.tr b2).2.1
    have h3 := (a3.tr b2).2.2.1
    unfold settS at hbn ⊢
    rw [this] at hbn
    rw [h3]
    have q := ru_sets (rgoS W S c 20 0) 0 (rgoS W S c) b
    rw [a5 b (by omega)] at q
    have := hr b (by omega) hbn
    omega
  · rw [if_neg e]
    exact ⟨h, hR, hD, Cn.rf, Bk.rf, fun b hb hbn => hr b (by omega) hbn⟩
theorem rga_ok {N : Nat} {W : zS} (hWB : WB W) : ∀ (r c : Nat) (S : zS), SI N S → R1 S → Sd S → WN W S → c + r = S 20 2 → Rg S c → SI N (rgaS W r c S) ∧ R1 (rgaS W r c S) ∧ Sd (rgaS W r c S) ∧ Cn S (rgaS W r c S) ∧ Bk S (rgaS W r c S)
  | 0, c, S, h, hR, hD, hW, hr, hg => ⟨h, hR, hD, Cn.rf, Bk.rf⟩
  | r + 1, c, S, h, hR, hD, hW, hr, hg => by
    rw [rgaS]
    obtain ⟨a1, a2, a3, a4, a5, a6⟩ := rg1_ok hWB h hR hD hW (show c < S 20 2 by omega) hg
    obtain ⟨b1, b2, b3, b4, b5⟩ := rga_ok hWB r (c + 1) (rg1 W S c) a1 a2 a3 (hW.cn a4.1) (by rw [a4.2.1]; omega) a6
    exact ⟨b1, b2, b3, a4.tr b4, a5.tr b5⟩
