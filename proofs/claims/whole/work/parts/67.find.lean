/-! The class's find; a trial does not depend on what lies behind the counts -/
def fnd (p : Nat → Nat → Bool) (n : Nat) : Nat → Nat → Nat
  | 0, _ => 0
  | r + 1, len => if fsf (p len) (n ^ len) 0 = 0 then fnd p n r (len + 1) else len
theorem fnd_le (p : Nat → Nat → Bool) (n : Nat) : ∀ r len, fnd p n r len = 0 ∨ (len ≤ fnd p n r len ∧ fnd p n r len < len + r)
  | 0, len => Or.inl rfl
  | r + 1, len => by
    rw [fnd]
    split
    · rcases fnd_le p n r (len + 1) with h | h
      · exact Or.inl h
      · exact Or.inr (by omega)
    · exact Or.inr (by omega)
/-- the acts of the case of a length -/
def pck (p : Nat → Nat → Bool) (l : List Nat) (len q : Nat) : Nat := l.getD ((fsf (p len) (l.length ^ len) 0 - 1) / l.length ^ (len - 1 - q) % l.length) 0
/-- a house in which nothing has been done -/
def B0 (h o : Nat) (M : gk_M) : Prop := (M.1 h 8 = 0 ∧ M.1 h 9 = 0 ∧ M.1 h 10 = 0) ∧ ∀ l, l < 8 → M.1 (h + o) l = -1 ∧ M.1 (h + o + 1) l = -1 ∧ M.1 (h + o + 2) l = 0
theorem B0.hr {h o : Nat} {M : gk_M} (hb : B0 h o M) {S : zS} (h7 : M.1 h 7 = nI (S 20 0)) : HR h o M (empS S) := by
  obtain ⟨e2, e3, e4⟩ := @emp_c S
  obtain ⟨⟨b8, b9, b10⟩, bl⟩ := hb
  refine ⟨⟨by rw [emp_0]; exact h7, by rw [e2]; exact b8, by rw [e4]; exact b9, by rw [e3]; exact b10⟩, fun c hc => by omega, fun l hl => ?_, fun i hi => by omega⟩
  have c0 : cOf (empS S) l = 0 := cOf_0.mpr (fun c hc => by omega)
  have k0 : kAt (empS S) l = 0 := kAt_0.mpr (fun c hc => by omega)
  rw [c0, k0, nN_0, show empS S 19 l = 0 by unfold empS; simp [hl]]
  exact bl l hl
section FI
variable {LN : Nat → Nat} {RF : Nat → Nat → Nat} {j : Nat} {W S : zS} {l : List Nat} {kd a b : Nat} {z : Int32}
theorem lp_fi_s (hj : jL LN RF j) (hV : IV W S) (hn0 : 0 < l.length) (hn13 : l.length ≤ 13) (hD : ∀ i, i < l.length → l.getD i 0 < 5000 ∧ gA (S 20 0) (l.getD i 0)) (hkd : kd < 3) (ha : a < S 20 0) (hz : kd = 1 ∨ (z = nI b ∧ b < S 20 0)) {depth : Nat} (h3 : depth ≤ 3) :
    ∀ (r n len : Nat) (M : gk_M), len + r = depth + 1 → 1 ≤ len → r < n → JM j M W l kd a z → HR (j + 30) 1 M (empS S) → ∃ M', lp_X3_find_2 LN RF j (nI depth) (fun y => some (0, y)) n (nI len, M) = some (nI (fnd (tst W (fun i => l.getD i 0) l.length S kd a b) l.length r len), M') ∧ SFr j 0 M M' ∧ (fnd (tst W (fun i => l.getD i 0) l.length S kd a b) l.length r len ≠ 0 → ∀ q, q < fnd (tst W (fun i => l.getD i 0) l.length S kd a b) l.length r len → M'.1 (j + 29) q = nI (pck (tst W (fun i => l.getD i 0) l.length S kd a b) l (fnd (tst W (fun i => l.getD i 0) l.length S kd a b) l.length r len) q))
  | r, 0, len, M, _, _, g, _, _ => absurd g (by omega)
  | 0, n + 1, len, M, g1, g2, g3, hM, hH => by
    rw [lp_X3_find_2, if_pos (nI_lt (by omega) (by omega))]
    exact ⟨M, rfl, SFr.rf, fun h => absurd rfl h⟩
  | r + 1, n + 1, len, M, g1, g2, g3, hM, hH => by
    have e0 := @emp_c S
    obtain ⟨M1, p1, p2, p3⟩ := u_search hj hV hn0 hn13 hD (len := len) (by omega) hkd ha hz (len - 1) 0 0 4 (empS S) M (by omega) (by omega) (by rw [trS]) hM (by simpa using hH)
    rw [show len - 1 + 1 = len by omega, Nat.zero_mul] at p1 p3
    rw [lp_X3_find_2, if_neg (nI_nlt (by omega) (by omega)), show (0 : Int32) = nI 0 from rfl, p1, Option.bind_some, fnd]
    simp only [nI_0, bI_0, nI_1]
    cases e : fsf (tst W (fun i => l.getD i 0) l.length S kd a b len) (l.length ^ len) 0 with
    | zero =>
      rw [if_pos (show (!((0 : Nat) == 0)) = false from rfl), if_pos rfl]
      obtain ⟨M2, q1, q2, q3⟩ := lp_fi_s hj hV hn0 hn13 hD hkd ha hz h3 r n (len + 1) M1 (by omega) (by omega) (by omega) (hM.fr hV.1 p2) (hH.out2 (n := 8) (by omega) (fun a ha => p2.1 a (by omega)))
      exact ⟨M2, q1, p2.tr q2, q3⟩
    | succ u =>
      rw [if_neg (by simp), if_neg (by omega)]
      refine ⟨M1, rfl, p2, fun _ q hq => ?_⟩
      rw [p3 u e q (by omega) hq]
      unfold pck
      rw [e, Nat.add_sub_cancel]
theorem u_find (hj : jL LN RF j) (hV : IV W S) (hn0 : 0 < l.length) (hn13 : l.length ≤ 13) (hD : ∀ i, i < l.length → l.getD i 0 < 5000 ∧ gA (S 20 0) (l.getD i 0)) (hkd : kd < 3) (ha : a < S 20 0) (hz : kd = 1 ∨ (z = nI b ∧ b < S 20 0)) {depth : Nat} (h3 : depth ≤ 3) {M : gk_M} (hM : JM j M W l kd a z) (hH : HR (j + 30) 1 M (empS S)) : ∃ M', f_X3_find LN RF j (nI depth) M = some (nI (fnd (tst W (fun i => l.getD i 0) l.length S kd a b) l.length depth 1), M') ∧ SFr j 0 M M' ∧ (fnd (tst W (fun i => l.getD i 0) l.length S kd a b) l.length depth 1 ≠ 0 → ∀ q, q < fnd (tst W (fun i => l.getD i 0) l.length S kd a b) l.length depth 1 → M'.1 (j + 29) q = nI (pck (tst W (fun i => l.getD i 0) l.length S kd a b) l (fnd (tst W (fun i => l.getD i 0) l.length S kd a b) l.length depth 1) q)) := by
  unfold f_X3_find
  simp only [gk_jn]
  exact lp_fi_s hj hV hn0 hn13 hD hkd ha hz h3 depth gk_fuel 1 M (by omega) (by omega) (fuel_gt (by omega)) hM hH
/-- two states that one house tells: the same trials -/
theorem tr_ind {h o b' : Nat} (hl : hL LN RF h o 8 b') {M : gk_M} (hB : BR b' M W) {S1 S2 : zS} (V1 : IV W S1) (V2 : IV W S2) (h1 : HR h o M (empS S1)) (h2 : HR h o M (empS S2)) (e12 : S1 20 0 = S2 20 0) (hn0 : 0 < l.length) (hD : ∀ i, i < l.length → l.getD i 0 < 5000 ∧ gA (S1 20 0) (l.getD i 0)) :
    ∀ (k v : Nat), k ≤ 3 → (trS W (fun i => l.getD i 0) l.length S1 k v = none ∧ trS W (fun i => l.getD i 0) l.length S2 k v = none) ∨ ∃ T1 T2 M', trS W (fun i => l.getD i 0) l.length S1 k v = some T1 ∧ trS W (fun i => l.getD i 0) l.length S2 k v = some T2 ∧ HR h o M' T1 ∧ HR h o M' T2 ∧ BR b' M' W
  | 0, v, _ => Or.inr ⟨_, _, M, by rw [trS], by rw [trS], h1, h2, hB⟩
  | k + 1, v, hk => by
    have hlt := Nat.mod_lt v hn0
    obtain ⟨hD1, hD2⟩ := hD (v % l.length) hlt
    rcases tr_ind hl hB V1 V2 h1 h2 e12 hn0 hD k (v / l.length) (by omega) with ⟨g1, g2⟩ | ⟨T1, T2, M', g1, g2, g3, g4, g5⟩
    · exact Or.inl ⟨by rw [trS, g1]; rfl, by rw [trS, g2]; rfl⟩
    · obtain ⟨tV1, tL1, tC1⟩ := tr_ok V1 hn0 (fun i hi => (hD i hi).2) k _ T1 (by omega) g1
      obtain ⟨tV2, tL2, tC2⟩ := tr_ok V2 hn0 (fun i hi => by rw [← e12]; exact (hD i hi).2) k _ T2 (by omega) g2
      have s1 : SI 8 T1 := tV1.2.1.le tC1.le
      have s2 : SI 8 T2 := tV2.2.1.le tC2.le
      have a1 := u_allows hl g3 s1 hD1 (by rw [tL1]; exact hD2)
      have a2 := u_allows hl g4 s2 hD1 (by rw [tL2, ← e12]; exact hD2)
      rw [(stp_8 (W := W) (by omega) tC1).2] at a1
      rw [(stp_8 (W := W) (by omega) tC2).2] at a2
      have ea : ali 60 T1 (l.getD (v % l.length) 0) = ali 60 T2 (l.getD (v % l.length) 0) := by
        have := a1.symm.trans a2
        have := Option.some.inj this
        cases x1 : ali 60 T1 (l.getD (v % l.length) 0) <;> cases x2 : ali 60 T2 (l.getD (v % l.length) 0) <;> rw [x1, x2] at this <;> first | rfl | exact absurd this (by decide)
      rw [trS, trS, g1, g2]
      simp only [Option.bind_some]
      cases e1 : ali 60 T1 (l.getD (v % l.length) 0) with
      | false => rw [← ea, e1]; exact Or.inl ⟨rfl, rfl⟩
      | true =>
        rw [← ea, e1, if_pos rfl, if_pos rfl]
        obtain ⟨N1, p1, p2, p3⟩ := u_perform hl g3 g5 tV1 s1 hD1 (by rw [tL1]; exact hD2) (by rw [(stp_8 (W := W) (by omega) tC1).2]; exact e1)
        obtain ⟨N2, q1, q2, q3⟩ := u_perform hl g4 g5 tV2 s2 hD1 (by rw [tL2, ← e12]; exact hD2) (by rw [(stp_8 (W := W) (by omega) tC2).2, ← ea]; exact e1)
        have : N1 = N2 := Option.some.inj (p1.symm.trans q1)
        subst this
        rw [(stp_8 (by omega) tC1).1] at p2
        rw [(stp_8 (by omega) tC2).1] at q2
        exact Or.inr ⟨_, _, N1, rfl, rfl, p2, q2, BR.fr hl V1.1 g5 p3⟩
theorem tst_ind {h o b' : Nat} (hl : hL LN RF h o 8 b') {M : gk_M} (hB : BR b' M W) {S1 S2 : zS} (V1 : IV W S1) (V2 : IV W S2) (h1 : HR h o M (empS S1)) (h2 : HR h o M (empS S2)) (e12 : S1 20 0 = S2 20 0) (hn0 : 0 < l.length) (hD : ∀ i, i < l.length → l.getD i 0 < 5000 ∧ gA (S1 20 0) (l.getD i 0)) (hkd : kd < 3) (ha : a < S1 20 0) (hb : kd = 1 ∨ b < S1 20 0) {k v : Nat} (hk : k ≤ 3) : tst W (fun i => l.getD i 0) l.length S1 kd a b k v = tst W (fun i => l.getD i 0) l.length S2 kd a b k v := by
  unfold tst
  rcases tr_ind hl hB V1 V2 h1 h2 e12 hn0 hD k v hk with ⟨g1, g2⟩ | ⟨T1, T2, M', g1, g2, g3, g4, g5⟩
  · rw [g1, g2]
  · rw [g1, g2]
    obtain ⟨tV1, tL1, tC1⟩ := tr_ok V1 hn0 (fun i hi => (hD i hi).2) k _ T1 hk g1
    obtain ⟨tV2, tL2, tC2⟩ := tr_ok V2 hn0 (fun i hi => by rw [← e12]; exact (hD i hi).2) k _ T2 hk g2
    have b1 := u_breaks (z := nI b) hl g3 g5 V1.1 (tV1.2.1.le tC1.le) hkd (by rw [tL1]; exact ha) (y := b) (by rw [tL1]; rcases hb with g | g; exact Or.inl g; exact Or.inr ⟨rfl, g⟩)
    have b2 := u_breaks (z := nI b) hl g4 g5 V1.1 (tV2.2.1.le tC2.le) hkd (by rw [tL2, ← e12]; exact ha) (y := b) (by rw [tL2, ← e12]; rcases hb with g | g; exact Or.inl g; exact Or.inr ⟨rfl, g⟩)
    have := Option.some.inj (b1.symm.trans b2)
    show brk W T1 kd a b = brk W T2 kd a b
    cases x1 : brk W T1 kd a b <;> cases x2 : brk W T2 kd a b <;> rw [x1, x2] at this <;> first | rfl | exact absurd this (by decide)
end FI
