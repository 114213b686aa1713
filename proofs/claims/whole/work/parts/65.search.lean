/-! The class's judge: going through all acts, the least case first -/
theorem fsf_add (p : Nat → Bool) : ∀ r1 r2 i, fsf p (r1 + r2) i = if fsf p r1 i = 0 then fsf p r2 (i + r1) else fsf p r1 i
  | 0, r2, i => by simp [fsf]
  | r1 + 1, r2, i => by
    rw [show r1 + 1 + r2 = (r1 + r2) + 1 by omega, fsf, fsf]
    by_cases h : p i = true
    · simp [h]
    · rw [if_neg h, if_neg h, fsf_add p r1 r2 (i + 1), show i + 1 + r1 = i + (r1 + 1) by omega]
theorem dv_1 {n v i : Nat} (hi : i < n) : (v * n + i) / n = v ∧ (v * n + i) % n = i := by
  rw [Nat.add_comm, Nat.add_mul_div_right _ _ (by omega), Nat.div_eq_of_lt hi, Nat.zero_add, Nat.add_mul_mod_self_right, Nat.mod_eq_of_lt hi]
  exact ⟨rfl, rfl⟩
theorem dv_b {B v q : Nat} (h1 : v * B ≤ q) (h2 : q < v * B + B) : q / B = v := Nat.div_eq_of_lt_le h1 (by rw [Nat.add_mul, Nat.one_mul]; exact h2)
theorem tr_s {W : zS} {D : Nat → Nat} {n : Nat} {S T : zS} {k v i : Nat} (hi : i < n) (ht : trS W D n S k v = some T) : trS W D n S (k + 1) (v * n + i) = if ali 60 T (D i) = true then some (stp W 60 T (D i)) else none := by
  rw [trS, (dv_1 hi).1, (dv_1 hi).2, ht]; rfl
theorem tst_blk {W : zS} {D : Nat → Nat} {n : Nat} {S : zS} {kd a b k d v : Nat} (h : trS W D n S k v = none) : fsf (tst W D n S kd a b (k + d)) (n ^ d) (v * n ^ d) = 0 := by
  rw [fsf_0]
  intro q h1 h2
  unfold tst
  rw [tr_none k d q (by rw [dv_b h1 h2]; exact h)]
theorem HR.out2 {h o : Nat} {M M' : gk_M} {S : zS} (hH : HR h o M S) {n : Nat} (hn : S 20 2 ≤ n) (hm : ∀ a, (a = h ∨ (h + o ≤ a ∧ a < h + o + 6 + n)) → M'.1 a = M.1 a ∧ M'.2 a = M.2 a) : HR h o M' S := by
  obtain ⟨g1, g2, g3, g4⟩ := hH
  refine ⟨by rw [(hm h (Or.inl rfl)).1]; exact g1, fun c hc => (g2 c hc).mv (hm _ (by omega)).1 (hm _ (by omega)).2, fun l hl => by rw [(hm _ (by omega)).1, (hm (h + o + 1) (by omega)).1, (hm (h + o + 2) (by omega)).1]; exact g3 l hl, fun i hi => by rw [(hm (h + o + 3) (by omega)).1, (hm (h + o + 4) (by omega)).1]; exact g4 i hi⟩
theorem SI.le {N N' : Nat} {S : zS} (h : SI N S) (hc : S 20 2 ≤ N') : SI N' S := ⟨⟨h.1.1, hc, h.1.2.2⟩, h.2⟩
/-- what the judge has been asked -/
def JM (j : Nat) (M : gk_M) (W : zS) (l : List Nat) (kd a : Nat) (z : Int32) : Prop := BR (j + 1) M W ∧ LR (M.1 j 4) (M.1 (j + 28)) l ∧ M.1 j 5 = nI kd ∧ M.1 j 6 = nI a ∧ M.1 j 7 = z
/-- what a search from level k on may write -/
def SFr (j k : Nat) (M M' : gk_M) : Prop := (∀ a, (a < j + 29 ∨ (j + 30 ≤ a ∧ a < j + 45 + 15 * k) ∨ j + 90 ≤ a) → M'.1 a = M.1 a ∧ M'.2 a = M.2 a) ∧ ∀ q, q < k → M'.1 (j + 29) q = M.1 (j + 29) q
theorem SFr.rf {j k : Nat} {M : gk_M} : SFr j k M M := ⟨fun _ _ => ⟨rfl, rfl⟩, fun _ _ => rfl⟩
theorem SFr.tr {j k : Nat} {A B C : gk_M} (h1 : SFr j k A B) (h2 : SFr j k B C) : SFr j k A C := ⟨fun a ha => ⟨(h2.1 a ha).1.trans (h1.1 a ha).1, (h2.1 a ha).2.trans (h1.1 a ha).2⟩, fun q hq => (h2.2 q hq).trans (h1.2 q hq)⟩
theorem SFr.dn {j k : Nat} {A B : gk_M} (h1 : SFr j (k + 1) A B) : SFr j k A B := ⟨fun a ha => h1.1 a (by omega), fun q hq => h1.2 q (by omega)⟩
theorem JM.fr {j k : Nat} {M M' : gk_M} {W : zS} {l : List Nat} {kd a : Nat} {z : Int32} (hW : WB W) (h : JM j M W l kd a z) (hf : SFr j k M M') : JM j M' W l kd a z := by
  obtain ⟨h1, h2, h3, h4, h5⟩ := h
  have e0 := (hf.1 j (by omega)).1
  have e1 := (hf.1 (j + 28) (by omega)).1
  exact ⟨h1.out hW (fun a p q => (hf.1 a (by omega)).1), by rw [e0, e1]; exact h2, by rw [e0]; exact h3, by rw [e0]; exact h4, by rw [e0]; exact h5⟩
section SE
variable {LN : Nat → Nat} {RF : Nat → Nat → Nat} {j : Nat} {W S : zS} {l : List Nat} {kd a b : Nat} {z : Int32}
theorem lp_se_s (hj : jL LN RF j) (hV : IV W S) (hn13 : l.length ≤ 13) (hD : ∀ i, i < l.length → l.getD i 0 < 5000 ∧ gA (S 20 0) (l.getD i 0)) {d k v len : Nat} {T : zS} (hk : k + (d + 1) = len) (h3 : len ≤ 3) (ht : trS W (fun i => l.getD i 0) l.length S k v = some T) (rec : Nat → Int32 → Int32 → gk_M → Option (Int32 × gk_M))
    (hst : ∀ (i : Nat) (M1 : gk_M) (T1 : zS) (K2 : Int32 × gk_M → Option (Int32 × gk_M)), i < l.length → trS W (fun i => l.getD i 0) l.length S (k + 1) (v * l.length + i) = some T1 → JM j M1 W l kd a z → HR (j + 30 + 15 * (k + 1)) 1 M1 T1 → ∃ M2, (if nI k + 1 = nI len then (f_X2_breaks LN RF (j + 30 + 15 * (k + 1)) (M1.1 j 5) (M1.1 j 6) (M1.1 j 7) M1).bind fun r12 => K2 (r12, M1) else (rec j (nI k + 1) (nI len) M1).bind fun r13 => K2 (r13.1, r13.2)) = K2 (bI (!(fsf (tst W (fun i => l.getD i 0) l.length S kd a b len) (l.length ^ d) ((v * l.length + i) * l.length ^ d) == 0)), M2) ∧ SFr j (k + 1) M1 M2 ∧ ∀ r, fsf (tst W (fun i => l.getD i 0) l.length S kd a b len) (l.length ^ d) ((v * l.length + i) * l.length ^ d) = r + 1 → ∀ q, k + 1 ≤ q → q < len → M2.1 (j + 29) q = nI (l.getD (r / l.length ^ (len - 1 - q) % l.length) 0)) :
    ∀ (r n i : Nat) (M : gk_M), JM j M W l kd a z → HR (j + 30 + 15 * k) 1 M T → i + r = l.length → r < n → ∃ M', lp_X3_search_32 LN RF rec j (nI k) (nI len) (j + 30 + 15 * k) (j + 30 + 15 * (k + 1)) (fun y29 => some (0, y29)) n (nI i, M) = some (bI (!(fsf (tst W (fun i => l.getD i 0) l.length S kd a b len) (r * l.length ^ d) ((v * l.length + i) * l.length ^ d) == 0)), M') ∧ SFr j k M M' ∧ ∀ u, fsf (tst W (fun i => l.getD i 0) l.length S kd a b len) (r * l.length ^ d) ((v * l.length + i) * l.length ^ d) = u + 1 → ∀ q, k ≤ q → q < len → M'.1 (j + 29) q = nI (l.getD (u / l.length ^ (len - 1 - q) % l.length) 0)
  | r, 0, i, M, _, _, _, g => absurd g (by omega)
  | 0, n + 1, i, M, hM, hH, g1, g2 => by
    rw [lp_X3_search_32, hM.2.1.1, if_pos (nI_le (by omega) (by omega)), Nat.zero_mul]
    exact ⟨M, rfl, SFr.rf, fun u hu => by rw [fsf] at hu; omega⟩
  | r + 1, n + 1, i, M, hM, hH, g1, g2 => by
    have hn0 : 0 < l.length := by omega
    have hi : i < l.length := by omega
    obtain ⟨hDi1, hDi2⟩ := hD i hi
    obtain ⟨tV, tL, tC⟩ := tr_ok hV hn0 (fun i hi => (hD i hi).2) k v T (by omega) ht
    have t8 : SI 8 T := tV.2.1.le tC.le
    have hsp : (r + 1) * l.length ^ d = l.length ^ d + r * l.length ^ d := by rw [Nat.add_mul, Nat.one_mul, Nat.add_comm]
    have hnx : (v * l.length + i) * l.length ^ d + l.length ^ d = (v * l.length + (i + 1)) * l.length ^ d := by rw [← Nat.add_assoc, Nat.add_mul _ 1, Nat.one_mul]
    have ih := fun M' => lp_se_s hj hV hn13 hD hk h3 ht rec hst r n (i + 1) M'
    rw [hsp, fsf_add, hnx]
    rw [lp_X3_search_32, hM.2.1.1, if_neg (nI_ge (by omega) (by omega)), hj.1.2.2.1, ald_n (by rw [hj.2.1.2.1]; omega) (by omega), hM.2.1.2 i hi, u_allows (hj.2.2.2 k (by omega)) hH t8 hDi1 (by rw [tL]; exact hDi2)]
    simp only [Option.bind_some, gk_jn, bI_0, nI_1 i]
    rw [(stp_8 (W := W) (by omega) tC).2]
    cases ea : ali 60 T (l.getD i 0) with
    | false =>
      have hb : fsf (tst W (fun i => l.getD i 0) l.length S kd a b len) (l.length ^ d) ((v * l.length + i) * l.length ^ d) = 0 := by
        rw [show len = (k + 1) + d by omega]
        exact tst_blk (by rw [tr_s hi ht, ea]; rfl)
      rw [if_pos rfl, hb, if_pos rfl]
      exact ih M hM hH (by omega) (by omega)
    | true =>
      rw [if_neg tf, hj.1.2.2.2, ast_n (by rw [hj.2.1.2.2]; omega) (by omega)]
      have f1 : SFr j k M (gk_wr M (j + 29) k (nI (l.getD i 0))) := ⟨fun a ha => ⟨by funext q; rw [wr_1, if_neg (by omega)], rfl⟩, fun q hq => by rw [wr_1, if_neg (by omega)]⟩
      have H1 : HR (j + 30 + 15 * k) 1 (gk_wr M (j + 29) k (nI (l.getD i 0))) T := hH.out2 (n := 8) tC.le (fun a ha => f1.1 a (by omega))
      obtain ⟨M2, p1, p2, p3⟩ := u_copyH (hj.2.2.2 (k + 1) (by omega)) (hj.2.2.2 k (by omega)) (fun a ha => by omega) H1 tC.le tC.le t8.1.2.2.2
      rw [p1, Option.bind_some]
      have f2 : SFr j k (gk_wr M (j + 29) k (nI (l.getD i 0))) M2 := ⟨fun a ha => p3 a (by omega) (by omega), fun q hq => by rw [(p3 (j + 29) (by omega) (by omega)).1]⟩
      have M2J := (hM.fr hV.1 f1).fr hV.1 f2
      obtain ⟨M3, q1, q2, q3⟩ := u_perform (hj.2.2.2 (k + 1) (by omega)) p2 M2J.1 tV t8 hDi1 (by rw [tL]; exact hDi2) (by rw [(stp_8 (W := W) (by omega) tC).2]; exact ea)
      rw [(stp_8 (by omega) tC).1] at q2
      rw [q1, Option.bind_some]
      have f3 : SFr j k M2 M3 := ⟨fun a ha => q3 a (by omega) (by omega), fun q hq => by rw [(q3 (j + 29) (by omega) (by omega)).1]⟩
      have M3J := M2J.fr hV.1 f3
      have pk3 : M3.1 (j + 29) k = nI (l.getD i 0) := by rw [(q3 (j + 29) (by omega) (by omega)).1, (p3 (j + 29) (by omega) (by omega)).1, wr_1, if_pos ⟨rfl, rfl⟩]
      obtain ⟨M4, r1, r2, r3⟩ := hst i M3 _ (fun y10 => if y10.1 = 0 then lp_X3_search_32 LN RF rec j (nI k) (nI len) (j + 30 + 15 * k) (j + 30 + 15 * (k + 1)) (fun y29 => some (0, y29)) n (nI (i + 1), y10.2) else some (1, y10.2)) hi (by rw [tr_s hi ht, ea, if_pos rfl]) M3J q2
      rw [r1]
      have f4 : SFr j k M M4 := ((f1.tr f2).tr f3).tr r2.dn
      simp only [bI_0]
      cases eb : fsf (tst W (fun i => l.getD i 0) l.length S kd a b len) (l.length ^ d) ((v * l.length + i) * l.length ^ d) with
      | zero =>
        rw [if_pos (show (!((0 : Nat) == 0)) = false from rfl), if_pos rfl]
        obtain ⟨M5, s1, s2, s3⟩ := ih M4 (hM.fr hV.1 f4) (hH.out2 (n := 8) tC.le (fun a ha => f4.1 a (by omega))) (by omega) (by omega)
        exact ⟨M5, s1, f4.tr s2, s3⟩
      | succ u =>
        rw [if_neg (by simp), if_neg (by omega)]
        refine ⟨M4, rfl, f4, fun u' hu q hq1 hq2 => ?_⟩
        have hu' : u' = u := by omega
        subst hu'
        by_cases hqk : q = k
        · subst hqk
          rw [r2.2 q (by omega), pk3]
          obtain ⟨w1, w2, -⟩ := fsf_s _ _ _ _ eb
          rw [show len - 1 - q = d by omega, dv_b w1 w2, (dv_1 hi).2]
        · exact r3 u' eb q (by omega) hq2
theorem u_search (hj : jL LN RF j) (hV : IV W S) (hn0 : 0 < l.length) (hn13 : l.length ≤ 13) (hD : ∀ i, i < l.length → l.getD i 0 < 5000 ∧ gA (S 20 0) (l.getD i 0)) {len : Nat} (h3 : len ≤ 3) (hkd : kd < 3) (ha : a < S 20 0) (hz : kd = 1 ∨ (z = nI b ∧ b < S 20 0)) :
    ∀ (d k v g : Nat) (T : zS) (M : gk_M), k + (d + 1) = len → d < g → trS W (fun i => l.getD i 0) l.length S k v = some T → JM j M W l kd a z → HR (j + 30 + 15 * k) 1 M T → ∃ M', rc_S LN RF g 0 j (nI k) (nI len) M = some (bI (!(fsf (tst W (fun i => l.getD i 0) l.length S kd a b len) (l.length ^ (d + 1)) (v * l.length ^ (d + 1)) == 0)), M') ∧ SFr j k M M' ∧ ∀ u, fsf (tst W (fun i => l.getD i 0) l.length S kd a b len) (l.length ^ (d + 1)) (v * l.length ^ (d + 1)) = u + 1 → ∀ q, k ≤ q → q < len → M'.1 (j + 29) q = nI (l.getD (u / l.length ^ (len - 1 - q) % l.length) 0)
  | d, k, v, 0, T, M, _, g, _, _, _ => absurd g (by omega)
  | d, k, v, g + 1, T, M, hk, hg, ht, hM, hH => by
    have hgo := lp_se_s (d := d) (kd := kd) (a := a) (b := b) (z := z) hj hV hn13 hD hk h3 ht (rc_S LN RF g 0) ?hst l.length gk_fuel 0 M hM hH (by omega) (fuel_gt (by omega))
    case hst =>
      intro i M1 T1 K2 hi ht1 hM1 hH1
      obtain ⟨tV, tL, tC⟩ := tr_ok hV hn0 (fun i hi => (hD i hi).2) (k + 1) _ T1 (by omega) ht1
      have t8 : SI 8 T1 := tV.2.1.le tC.le
      cases d with
      | zero =>
        rw [nI_1, if_pos (by rw [show k + 1 = len by omega]), hM1.2.2.1, hM1.2.2.2.1, hM1.2.2.2.2, u_breaks (hj.2.2.2 (k + 1) (by omega)) hH1 hM1.1 hV.1 t8 hkd (by rw [tL]; exact ha) (by rw [tL]; exact hz), Option.bind_some]
        have e1 : fsf (tst W (fun i => l.getD i 0) l.length S kd a b len) (l.length ^ 0) ((v * l.length + i) * l.length ^ 0) = if brk W T1 kd a b = true then v * l.length + i + 1 else 0 := by
          rw [Nat.pow_zero, Nat.mul_one, fsf, fsf, show tst W (fun i => l.getD i 0) l.length S kd a b len (v * l.length + i) = brk W T1 kd a b by unfold tst; rw [show len = k + 1 by omega, ht1]]
        rw [e1]
        refine ⟨M1, ?_, SFr.rf, fun u hu q q1 q2 => by omega⟩
        cases brk W T1 kd a b <;> rfl
      | succ d =>
        rw [nI_1, if_neg (by rw [nI_eq (by omega) (by omega)]; omega)]
        obtain ⟨M2, p1, p2, p3⟩ := u_search hj hV hn0 hn13 hD h3 hkd ha hz d (k + 1) (v * l.length + i) g T1 M1 (by omega) (by omega) ht1 hM1 hH1
        rw [p1, Option.bind_some]
        exact ⟨M2, rfl, p2, p3⟩
    rw [rc_S]
    unfold f_X3_search
    simp only [gk_jn]
    rw [if_neg (nI_ge (by omega) (by omega)), show (3 : Int32) = nI 3 from rfl, if_pos (nI_lt (by omega) (by omega)), hj.1.2.1, aldr_n (by rw [hj.2.1.1]; omega) (by omega), nI_1, aldr_n (by rw [hj.2.1.1]; omega) (by omega), hj.2.2.1 k (by omega), hj.2.2.1 (k + 1) (by omega)]
    rw [show (v * l.length + 0) * l.length ^ d = v * l.length ^ (d + 1) by rw [Nat.add_zero, Nat.pow_succ, Nat.mul_assoc, Nat.mul_comm l.length], show l.length * l.length ^ d = l.length ^ (d + 1) by rw [Nat.pow_succ, Nat.mul_comm]] at hgo
    exact hgo
end SE
