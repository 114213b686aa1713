/-! Who is in which call behind each step -/
theorem cOf_chr {N : Nat} {S : zS} (h : SI N S) {l v : Nat} : cOf S l = v ↔ (v = 0 ∧ ∀ c, c < S 20 2 → inn S l c = false) ∨ ∃ c, c < S 20 2 ∧ v = c + 1 ∧ inn S l c = true := by
  constructor
  · rintro rfl
    cases e : cOf S l with
    | zero => exact Or.inl ⟨rfl, cOf_0.mp e⟩
    | succ c => exact Or.inr ⟨c, (cOf_s e).1, rfl, (cOf_s e).2⟩
  · rintro (⟨rfl, g⟩ | ⟨c, g1, rfl, g2⟩)
    · exact cOf_0.mpr g
    · exact cOf_at h g1 g2
theorem kAt_chr {N : Nat} {S : zS} (h : SI N S) {l v : Nat} : kAt S l = v ↔ (v = 0 ∧ ∀ c, c < S 20 2 → knk S l c = false) ∨ ∃ c, c < S 20 2 ∧ v = c + 1 ∧ knk S l c = true := by
  constructor
  · rintro rfl
    cases e : kAt S l with
    | zero => exact Or.inl ⟨rfl, kAt_0.mp e⟩
    | succ c => exact Or.inr ⟨c, (kAt_s e).1, rfl, (kAt_s e).2⟩
  · rintro (⟨rfl, g⟩ | ⟨c, g1, rfl, g2⟩)
    · exact kAt_0.mpr g
    · exact kAt_at h g1 g2
/-- one call changes: the others' share -/
theorem cOf_one {N : Nat} {S S' : zS} {c : Nat} (h : SI N S) (h' : SI N S') (sm : Sm S S' c) (hc : c < S 20 2) (l : Nat) : cOf S' l = if inn S' l c = true then c + 1 else if cOf S l = c + 1 then 0 else cOf S l := by
  have e20 : S' 20 2 = S 20 2 := sm.2.2.2.1 2
  by_cases e : inn S' l c = true
  · rw [if_pos e]; exact cOf_at h' (by omega) e
  · rw [if_neg e, cOf_chr h', e20]
    have e' : inn S' l c = false := by simpa using e
    by_cases g : cOf S l = c + 1
    · rw [if_pos g]
      refine Or.inl ⟨rfl, fun b hb => ?_⟩
      by_cases eb : b = c
      · rw [eb]; exact e'
      · rw [sm.ine eb]
        cases i : inn S l b with
        | false => rfl
        | true => have := cOf_at h hb i; omega
    · rw [if_neg g]
      cases v : cOf S l with
      | zero =>
        refine Or.inl ⟨rfl, fun b hb => ?_⟩
        by_cases eb : b = c
        · rw [eb]; exact e'
        · rw [sm.ine eb]; exact cOf_0.mp v b hb
      | succ d =>
        obtain ⟨d1, d2⟩ := cOf_s v
        have hd : d ≠ c := by omega
        exact Or.inr ⟨d, d1, rfl, by rw [sm.ine hd]; exact d2⟩
theorem kAt_one {N : Nat} {S S' : zS} {c : Nat} (h : SI N S) (h' : SI N S') (sm : Sm S S' c) (hc : c < S 20 2) (l : Nat) : kAt S' l = if knk S' l c = true then c + 1 else if kAt S l = c + 1 then 0 else kAt S l := by
  have e20 : S' 20 2 = S 20 2 := sm.2.2.2.1 2
  by_cases e : knk S' l c = true
  · rw [if_pos e]; exact kAt_at h' (by omega) e
  · rw [if_neg e, kAt_chr h', e20]
    have e' : knk S' l c = false := by simpa using e
    by_cases g : kAt S l = c + 1
    · rw [if_pos g]
      refine Or.inl ⟨rfl, fun b hb => ?_⟩
      by_cases eb : b = c
      · rw [eb]; exact e'
      · rw [sm.kne eb]
        cases i : knk S l b with
        | false => rfl
        | true => have := kAt_at h hb i; omega
    · rw [if_neg g]
      cases v : kAt S l with
      | zero =>
        refine Or.inl ⟨rfl, fun b hb => ?_⟩
        by_cases eb : b = c
        · rw [eb]; exact e'
        · rw [sm.kne eb]; exact kAt_0.mp v b hb
      | succ d =>
        obtain ⟨d1, d2⟩ := kAt_s v
        have hd : d ≠ c := by omega
        exact Or.inr ⟨d, d1, rfl, by rw [sm.kne hd]; exact d2⟩
theorem cOf_iff {N : Nat} {S : zS} (h : SI N S) {l c : Nat} (hc : c < S 20 2) : cOf S l = c + 1 ↔ inn S l c = true :=
  ⟨fun e => (cOf_s e).2, fun e => cOf_at h hc e⟩
theorem kAt_iff {N : Nat} {S : zS} (h : SI N S) {l c : Nat} (hc : c < S 20 2) : kAt S l = c + 1 ↔ knk S l c = true :=
  ⟨fun e => (kAt_s e).2, fun e => kAt_at h hc e⟩
/-- same rows of who is where: the same answers -/
theorem cOf_same {N : Nat} {S S' : zS} {c : Nat} (h : SI N S) (h' : SI N S') (sm : Sm S S' c) (hc : c < S 20 2) (e7 : S' 7 c = S 7 c) (e12 : S' 12 c = S 12 c) (e13 : S' 13 c = S 13 c) (l : Nat) : cOf S' l = cOf S l ∧ kAt S' l = kAt S l := by
  have i : inn S' l c = inn S l c := by unfold inn; rw [e7, e12, e13, sm.1]
  have k : knk S' l c = knk S l c := by unfold knk; rw [e7, e13]
  rw [cOf_one h h' sm hc, kAt_one h h' sm hc, i, k]
  constructor
  · by_cases e : inn S l c = true
    · rw [if_pos e, (cOf_iff h hc).mpr e]
    · rw [if_neg e, if_neg (fun g => e ((cOf_iff h hc).mp g))]
  · by_cases e : knk S l c = true
    · rw [if_pos e, (kAt_iff h hc).mpr e]
    · rw [if_neg e, if_neg (fun g => e ((kAt_iff h hc).mp g))]
theorem cOf_end {N : Nat} {S : zS} {c why : Nat} (h : SI N S) (hc : c < S 20 2) (l : Nat) : cOf (endS S c why) l = (if cOf S l = c + 1 then 0 else cOf S l) ∧ kAt (endS S c why) l = if kAt S l = c + 1 then 0 else kAt S l := by
  rw [cOf_one h (h.fin hc) sm_end hc, kAt_one h (h.fin hc) sm_end hc]
  have i : inn (endS S c why) l c = false := by unfold inn; rw [(e_v S c why).1]; rfl
  have k : knk (endS S c why) l c = false := by unfold knk; rw [(e_v S c why).1]; rfl
  rw [i, k]
  exact ⟨rfl, rfl⟩
theorem inn_0 {S : zS} {l c : Nat} (h7 : S 7 c = 0 ∨ S 7 c = 2) (h12 : S 12 c = 0) : inn S l c = (S 6 c == l) := by
  unfold inn; rcases h7 with h | h <;> simp [h, h12]
theorem cOf_rng {N : Nat} {S : zS} {c ls : Nat} (h : SI N S) (h' : SI N (rngS S c ls)) (hc : c < S 20 2) (h7 : S 7 c = 0 ∨ S 7 c = 2) (h12 : S 12 c = 0) (l : Nat) : cOf (rngS S c ls) l = (if ls.testBit l = true then c + 1 else cOf S l) ∧ kAt (rngS S c ls) l = if kAt S l = c + 1 then 0 else kAt S l := by
  obtain ⟨v1, v2, v3, v4⟩ := r_v S c ls
  have i : inn (rngS S c ls) l c = (S 6 c == l || ls.testBit l) := by
    unfold inn; rw [v1, v2, v3, r_o _ _ _ _ _ (by decide) (by decide) (by decide) (by decide)]; simp
  have k : knk (rngS S c ls) l c = false := by unfold knk; rw [v1]; rfl
  rw [cOf_one h h' sm_rng hc, kAt_one h h' sm_rng hc, i, k]
  refine ⟨?_, rfl⟩
  by_cases e : ls.testBit l = true
  · rw [e]; simp
  · have e' : ls.testBit l = false := by simpa using e
    rw [e', Bool.or_false]
    by_cases g : S 6 c = l
    · have : cOf S l = c + 1 := (cOf_iff h hc).mpr (by rw [inn_0 h7 h12]; simp [g])
      simp [g, this]
    · have : cOf S l ≠ c + 1 := fun x => by have := (cOf_iff h hc).mp x; rw [inn_0 h7 h12] at this; simp [g] at this
      simp [g, this]
theorem cOf_kno {N : Nat} {S : zS} {c t : Nat} (h : SI N S) (h' : SI N (knoS S c t)) (hc : c < S 20 2) (h7 : S 7 c = 0) (h12 : S 12 c = 0) (l : Nat) : cOf (knoS S c t) l = cOf S l ∧ kAt (knoS S c t) l = if l = t then c + 1 else kAt S l := by
  obtain ⟨v1, v2, v3⟩ := k_v S c t
  have i : inn (knoS S c t) l c = inn S l c := by
    rw [inn_0 (Or.inl h7) h12, inn_0 (Or.inr v1) v2, k_o _ _ _ _ _ (by decide) (by decide) (by decide)]
  have k : knk (knoS S c t) l c = (t == l) := by
    unfold knk; rw [v1, v3]; simp
  rw [cOf_one h h' sm_kno hc, kAt_one h h' sm_kno hc, i, k]
  constructor
  · by_cases e : inn S l c = true
    · rw [if_pos e, (cOf_iff h hc).mpr e]
    · rw [if_neg e, if_neg (fun g => e ((cOf_iff h hc).mp g))]
  · by_cases e : t = l
    · subst e; simp
    · have : kAt S l ≠ c + 1 := fun x => by have := (kAt_iff h hc).mp x; unfold knk at this; simp [h7] at this
      simp [e, this, show ¬ l = t from fun g => e g.symm]
theorem cOf_sil {N : Nat} {S : zS} {c : Nat} (h : SI N S) (hc : c < S 20 2) (l : Nat) : cOf (su S 12 c 0) l = (if (S 12 c).testBit l = true then 0 else cOf S l) ∧ kAt (su S 12 c 0) l = kAt S l := by
  have h' := h.sil hc
  have sm : Sm S (su S 12 c 0) c := Sm.fld (by omega)
  obtain ⟨c1, c2, c3, c4, c5, c6, c7, c8, c9, c10, c11, c12, c13, c14, c15⟩ := h.2.1 c hc
  have k : knk (su S 12 c 0) l c = knk S l c := by unfold knk; simp [su_eq]
  have i : inn (su S 12 c 0) l c = (inn S l c && !(S 12 c).testBit l) := by
    unfold inn
    rw [su_s, su_k (by decide), su_k (by decide), su_k (by decide)]
    by_cases e : (S 12 c).testBit l = true
    · have hz : S 7 c = 0 := by
        rcases Nat.eq_zero_or_pos (S 7 c) with g | g
        · exact g
        · have := c10 (by omega); rw [this] at e; simp at e
      have h6 : S 6 c ≠ l := fun g => by rw [g, e] at c13; cases c13
      simp [e, hz, h6]
    · have e' : (S 12 c).testBit l = false := by simpa using e
      simp [e']
  rw [cOf_one h h' sm hc, kAt_one h h' sm hc, i, k]
  constructor
  · by_cases e : (S 12 c).testBit l = true
    · have hin : inn S l c = true := by
        have hz : S 7 c = 0 := by
          rcases Nat.eq_zero_or_pos (S 7 c) with g | g
          · exact g
          · have := c10 (by omega); rw [this] at e; simp at e
        unfold inn; simp [e, hz]
      rw [e, (cOf_iff h hc).mpr hin]; simp
    · have e' : (S 12 c).testBit l = false := by simpa using e
      rw [e']
      by_cases g : inn S l c = true
      · simp [g, (cOf_iff h hc).mpr g]
      · simp [g, show cOf S l ≠ c + 1 from fun x => g ((cOf_iff h hc).mp x)]
  · by_cases e : knk S l c = true
    · rw [if_pos e, (kAt_iff h hc).mpr e]
    · rw [if_neg e, if_neg (fun g => e ((kAt_iff h hc).mp g))]
theorem cOf_new {N : Nat} {S : zS} {l : Nat} (h : SI N S) (h' : SI N (newS S l)) (hf : cOf S l = 0) (x : Nat) : cOf (newS S l) x = (if x = l then S 20 2 + 1 else cOf S x) ∧ kAt (newS S l) x = kAt S x := by
  have ho : ∀ b, b < S 20 2 → inn (newS S l) x b = inn S x b ∧ knk (newS S l) x b = knk S x b := by
    intro b hb
    unfold inn knk
    rw [nw_i (by omega) (by decide), nw_i (by omega) (by decide), nw_i (by omega) (by decide), nw_i (by omega) (by decide)]
    exact ⟨rfl, rfl⟩
  have i : inn (newS S l) x (S 20 2) = (l == x) := by
    unfold inn; rw [nw_0 (k := 7) (by omega), nw_0 (k := 12) (by omega), nw_6]; simp
  have k : knk (newS S l) x (S 20 2) = false := by unfold knk; rw [nw_0 (k := 7) (by omega)]; rfl
  constructor
  · by_cases e : x = l
    · rw [if_pos e]; exact cOf_at h' (by rw [nw_c]; omega) (by rw [i]; simp [e])
    · rw [if_neg e, cOf_chr h', nw_c]
      cases v : cOf S x with
      | zero =>
        refine Or.inl ⟨rfl, fun b hb => ?_⟩
        by_cases eb : b = S 20 2
        · rw [eb, i]; simp [show ¬ l = x from fun g => e g.symm]
        · rw [(ho b (by omega)).1]; exact cOf_0.mp v b (by omega)
      | succ d =>
        obtain ⟨d1, d2⟩ := cOf_s v
        exact Or.inr ⟨d, by omega, rfl, by rw [(ho d d1).1]; exact d2⟩
  · rw [kAt_chr h', nw_c]
    cases v : kAt S x with
    | zero =>
      refine Or.inl ⟨rfl, fun b hb => ?_⟩
      by_cases eb : b = S 20 2
      · rw [eb, k]
      · rw [(ho b (by omega)).2]; exact kAt_0.mp v b (by omega)
    | succ d =>
      obtain ⟨d1, d2⟩ := kAt_s v
      exact Or.inr ⟨d, by omega, rfl, by rw [(ho d d1).2]; exact d2⟩
