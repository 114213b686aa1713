/-! What people on a set of lines can do: both sides list the same acts -/
def oy (s x : Nat) : Nat → Nat → List Nat → Option (List Nat)
  | 0, _, l => some l
  | r + 1, y, l => if x = y ∨ s.testBit x = false ∨ s.testBit y = false then oy s x r (y + 1) l else if l.length < 13 then oy s x r (y + 1) (l ++ [1000 + 10 * x + y]) else none
def ox (s : Nat) : Nat → Nat → List Nat → Option (List Nat)
  | 0, _, l => some l
  | r + 1, x, l => (oy s x 8 0 l).bind (ox s r (x + 1))
def okk (s base : Nat) : Nat → Nat → List Nat → Option (List Nat)
  | 0, _, l => some l
  | r + 1, x, l => if s.testBit x = false then okk s base r (x + 1) l else if l.length < 13 then okk s base r (x + 1) (l ++ [base + 10 * x]) else none
def odd (s : Nat) : Option (List Nat) := (ox s 8 0 []).bind fun l => (okk s 2000 8 0 l).bind fun l => (okk s 3000 8 0 l).bind fun l => if l.length < 13 then some (l ++ [4000]) else none
def oddC (s : Nat) : Bool := match odd s with
  | none => false
  | some l => decide (l.length ≤ 13) && (decide (0 < l.length) && l.all (fun e => decide (e < 5000) && ((e / 1000 == 1 && (s.testBit (actX e) && s.testBit (e % 10))) || (((e / 1000 == 2 || e / 1000 == 3) && s.testBit (actX e)) || e / 1000 == 4))))
theorem odd_dec : ∀ s, s < 256 → bc s ≤ 3 → oddC s = true := by decide +kernel
theorem bit_L {s L l : Nat} (hs : s < 2 ^ L) (h : s.testBit l = true) : l < L := by
  rcases Nat.lt_or_ge l L with g | g
  · exact g
  · rw [Nat.testBit_lt_two_pow (Nat.lt_of_lt_of_le hs (Nat.pow_le_pow_right (by decide) g))] at h; cases h
theorem odd_ok {s L : Nat} (hs : s < 2 ^ L) (hL : L ≤ 8) (hb : bc s ≤ 3) : ∃ l, odd s = some l ∧ l.length ≤ 13 ∧ 0 < l.length ∧ ∀ i, i < l.length → l.getD i 0 < 5000 ∧ gA L (l.getD i 0) := by
  have h := odd_dec s (by have := p2_8 hL; omega) hb
  unfold oddC at h
  cases e : odd s with
  | none => rw [e] at h; cases h
  | some l =>
    rw [e] at h
    simp only [Bool.and_eq_true, decide_eq_true_eq, List.all_eq_true] at h
    obtain ⟨h1, h2, h3⟩ := h
    refine ⟨l, rfl, h1, h2, fun i hi => ?_⟩
    have hm : l.getD i 0 ∈ l := by rw [List.getD_eq_getElem?_getD, List.getElem?_eq_getElem hi]; exact List.getElem_mem hi
    obtain ⟨g1, g2⟩ := h3 _ hm
    refine ⟨g1, ?_⟩
    simp only [Bool.or_eq_true, Bool.and_eq_true, beq_iff_eq] at g2
    rcases g2 with ⟨p, q, r⟩ | ⟨p, q⟩ | p
    · exact Or.inl ⟨p, bit_L hs q, bit_L hs r⟩
    · exact Or.inr (Or.inl ⟨p, bit_L hs q⟩)
    · exact Or.inr (Or.inr p)
/-- a row that holds a list -/
def LR (c : Int32) (row : Nat → Int32) (l : List Nat) : Prop := c = nI l.length ∧ ∀ i, i < l.length → row i = nI (l.getD i 0)
theorem LR.push {c : Int32} {row row' : Nat → Int32} {l : List Nat} {e : Nat} (h : LR c row l) (hr : ∀ i, row' i = if i = l.length then nI e else row i) : LR (c + 1) row' (l ++ [e]) := by
  obtain ⟨h1, h2⟩ := h
  refine ⟨by rw [h1, nI_1, List.length_append]; rfl, fun i hi => ?_⟩
  rw [List.length_append, List.length_cons, List.length_nil] at hi
  rw [hr i]
  by_cases g : i = l.length
  · rw [if_pos g, g]; simp
  · rw [if_neg g, h2 i (by omega), List.getD_eq_getElem?_getD, List.getD_eq_getElem?_getD, List.getElem?_append_left (by omega)]
/-- where the judge has its things -/
def jL (LN : Nat → Nat) (RF : Nat → Nat → Nat) (j : Nat) : Prop := (RF j 0 = j + 1 ∧ RF j 1 = j + 27 ∧ RF j 2 = j + 28 ∧ RF j 3 = j + 29) ∧ (LN (j + 27) = 4 ∧ LN (j + 28) = 13 ∧ LN (j + 29) = 3) ∧ (∀ k, k < 4 → RF (j + 27) k = j + 30 + 15 * k) ∧ ∀ k, k < 4 → hL LN RF (j + 30 + 15 * k) 1 8 (j + 1)
def JFd (j : Nat) (M M' : gk_M) : Prop := M'.2 = M.2 ∧ ∀ a i, a ≠ j + 28 → ¬ (a = j ∧ i = 4) → M'.1 a i = M.1 a i
theorem JFd.rf {j : Nat} {M : gk_M} : JFd j M M := ⟨rfl, fun _ _ _ _ => rfl⟩
theorem JFd.tr {j : Nat} {A B C : gk_M} (h1 : JFd j A B) (h2 : JFd j B C) : JFd j A C := ⟨h2.1.trans h1.1, fun a i p q => (h2.2 a i p q).trans (h1.2 a i p q)⟩
def MFd (m : Nat) (M M' : gk_M) : Prop := M'.2 = M.2 ∧ ∀ a i, a ≠ m + 26 → ¬ (a = m ∧ i = 32) → M'.1 a i = M.1 a i
theorem MFd.rf {m : Nat} {M : gk_M} : MFd m M M := ⟨rfl, fun _ _ _ _ => rfl⟩
theorem MFd.tr {m : Nat} {A B C : gk_M} (h1 : MFd m A B) (h2 : MFd m B C) : MFd m A C := ⟨h2.1.trans h1.1, fun a i p q => (h2.2 a i p q).trans (h1.2 a i p q)⟩
theorem n1k (x y : Nat) : (1000 : Int32) + 10 * nI x + nI y = nI (1000 + 10 * x + y) := by
  rw [show (10 : Int32) = nI 10 from rfl, show (1000 : Int32) = nI 1000 from rfl, pk_mul, nI_add, nI_add]
theorem nbk (b x : Nat) : nI b + 10 * nI x = nI (b + 10 * x) := by
  rw [show (10 : Int32) = nI 10 from rfl, pk_mul, nI_add]
section DD
variable {LN : Nat → Nat} {RF : Nat → Nat → Nat} {x m j : Nat} {W S : zS}
theorem u_list (hj : jL LN RF j) {M : gk_M} {l : List Nat} {e : Nat} (h : LR (M.1 j 4) (M.1 (j + 28)) l) (hl : l.length < 13) : ∃ M', f_X3_list LN RF j (nI e) M = some M' ∧ LR (M'.1 j 4) (M'.1 (j + 28)) (l ++ [e]) ∧ JFd j M M' := by
  unfold f_X3_list
  simp only [gk_jn]
  rw [h.1, show (13 : Int32) = nI 13 from rfl, if_neg (nI_ge (by omega) (by omega)), hj.1.2.2.1, ast_n (by rw [hj.2.1.2.1]; omega) (by omega)]
  unfold gk_put
  have e4 : (gk_wr M (j + 28) l.length (nI e)).1 j 4 = M.1 j 4 := by rw [wr_1, if_neg (by omega)]
  refine ⟨_, rfl, ?_, rfl, fun a i p q => ?_⟩
  · have : (gk_wr (gk_wr M (j + 28) l.length (nI e)) j 4 ((gk_wr M (j + 28) l.length (nI e)).1 j 4 + 1)).1 j 4 = M.1 j 4 + 1 := by rw [wr_1, if_pos ⟨rfl, rfl⟩, e4]
    rw [this]
    refine h.push (fun i => ?_)
    rw [wr_1, if_neg (by omega), wr_1]
    by_cases g : i = l.length
    · rw [if_pos ⟨rfl, g⟩, if_pos g]
    · rw [if_neg (fun q => g q.2), if_neg g]
  · rw [wr_1, if_neg q, wr_1, if_neg (fun g => p g.1)]
theorem lp_58_s (hj : jL LN RF j) {s x : Nat} (hs : s < 256) (hx : x < 8) {K : gk_M → Option gk_M} : ∀ (r n y : Nat) (M : gk_M) (l l' : List Nat), LR (M.1 j 4) (M.1 (j + 28)) l → oy s x r y l = some l' → y + r = 8 → r < n → ∃ M', lp_X3_open_58 LN RF j (nI s) (nI x) K n (nI y, M) = K M' ∧ LR (M'.1 j 4) (M'.1 (j + 28)) l' ∧ JFd j M M'
  | r, 0, y, M, l, l', _, _, _, g => absurd g (by omega)
  | 0, n + 1, y, M, l, l', h, ho, g1, g2 => by
    rw [oy] at ho
    cases ho
    rw [lp_X3_open_58, show (8 : Int32) = nI 8 from rfl, if_pos (nI_le (by omega) (by omega))]
    exact ⟨M, rfl, h, JFd.rf⟩
  | r + 1, n + 1, y, M, l, l', h, ho, g1, g2 => by
    rw [oy] at ho
    rw [lp_X3_open_58, show (8 : Int32) = nI 8 from rfl, if_neg (nI_ge (by omega) (by omega))]
    simp only [gk_jn, nI_1, n1k, bit_ge s hs x hx, bit_ge s hs y (show y < 8 by omega), bI_0, nI_eq (show x < 2 ^ 31 by omega) (show y < 2 ^ 31 by omega)]
    by_cases c : x = y ∨ s.testBit x = false ∨ s.testBit y = false
    · rw [if_pos c] at ho
      obtain ⟨M', q1, q2⟩ := lp_58_s hj hs hx (K := K) r n (y + 1) M l l' h ho (by omega) (by omega)
      refine ⟨M', ?_, q2⟩
      rw [q1]
      by_cases c1 : x = y
      · rw [if_pos c1]
      · rw [if_neg c1]
        by_cases c2 : s.testBit x = false
        · rw [if_pos c2]
        · rw [if_neg c2, if_pos (by rcases c with c | c | c; exact absurd c c1; exact absurd c c2; exact c)]
    · rw [if_neg c] at ho
      by_cases hl : l.length < 13
      · rw [if_pos hl] at ho
        rw [if_neg (fun g => c (Or.inl g)), if_neg (fun g => c (Or.inr (Or.inl g))), if_neg (fun g => c (Or.inr (Or.inr g)))]
        obtain ⟨M1, p1, p2, p3⟩ := u_list hj (e := 1000 + 10 * x + y) h hl
        rw [p1, Option.bind_some]
        obtain ⟨M', q1, q2, q3⟩ := lp_58_s hj hs hx (K := K) r n (y + 1) M1 _ l' p2 ho (by omega) (by omega)
        exact ⟨M', q1, q2, p3.tr q3⟩
      · rw [if_neg hl] at ho; cases ho
theorem lp_48_s (hj : jL LN RF j) {s : Nat} (hs : s < 256) {K : gk_M → Option gk_M} : ∀ (r n x : Nat) (M : gk_M) (l l' : List Nat), LR (M.1 j 4) (M.1 (j + 28)) l → ox s r x l = some l' → x + r = 8 → r < n → ∃ M', lp_X3_open_48 LN RF j (nI s) K n (nI x, M) = K M' ∧ LR (M'.1 j 4) (M'.1 (j + 28)) l' ∧ JFd j M M'
  | r, 0, x, M, l, l', _, _, _, g => absurd g (by omega)
  | 0, n + 1, x, M, l, l', h, ho, g1, g2 => by
    rw [ox] at ho
    cases ho
    rw [lp_X3_open_48, show (8 : Int32) = nI 8 from rfl, if_pos (nI_le (by omega) (by omega))]
    exact ⟨M, rfl, h, JFd.rf⟩
  | r + 1, n + 1, x, M, l, l', h, ho, g1, g2 => by
    rw [ox] at ho
    cases e : oy s x 8 0 l with
    | none => rw [e] at ho; cases ho
    | some l1 =>
      rw [e] at ho
      simp only [Option.bind_some] at ho
      rw [lp_X3_open_48, show (8 : Int32) = nI 8 from rfl, if_neg (nI_ge (by omega) (by omega))]
      simp only [gk_jn, nI_1]
      obtain ⟨M1, p1, p2, p3⟩ := lp_58_s hj hs (show x < 8 by omega) (K := fun y1 => lp_X3_open_48 LN RF j (nI s) K n (nI (x + 1), y1)) 8 gk_fuel 0 M l l1 h e (by omega) (fuel_gt (by omega))
      obtain ⟨M', q1, q2, q3⟩ := lp_48_s hj hs (K := K) r n (x + 1) M1 _ l' p2 ho (by omega) (by omega)
      exact ⟨M', by rw [show ((0 : Int32), M) = (nI 0, M) from rfl, p1, q1], q2, p3.tr q3⟩
theorem lp_loe_s (hj : jL LN RF j) {s b : Nat} (hs : s < 256) {K : gk_M → Option gk_M} : ∀ (r n x : Nat) (M : gk_M) (l l' : List Nat), LR (M.1 j 4) (M.1 (j + 28)) l → okk s b r x l = some l' → x + r = 8 → r < n → ∃ M', lp_X3_listOfEach_2 LN RF j (nI b) (nI s) K n (nI x, M) = K M' ∧ LR (M'.1 j 4) (M'.1 (j + 28)) l' ∧ JFd j M M'
  | r, 0, x, M, l, l', _, _, _, g => absurd g (by omega)
  | 0, n + 1, x, M, l, l', h, ho, g1, g2 => by
    rw [okk] at ho
    cases ho
    rw [lp_X3_listOfEach_2, show (8 : Int32) = nI 8 from rfl, if_pos (nI_le (by omega) (by omega))]
    exact ⟨M, rfl, h, JFd.rf⟩
  | r + 1, n + 1, x, M, l, l', h, ho, g1, g2 => by
    rw [okk] at ho
    rw [lp_X3_listOfEach_2, show (8 : Int32) = nI 8 from rfl, if_neg (nI_ge (by omega) (by omega))]
    simp only [gk_jn, nI_1, nbk, bit_ge s hs x (show x < 8 by omega), bI_0]
    by_cases c : s.testBit x = false
    · rw [if_pos c] at ho
      rw [if_pos c]
      exact lp_loe_s hj hs (K := K) r n (x + 1) M l l' h ho (by omega) (by omega)
    · rw [if_neg c] at ho
      by_cases hl : l.length < 13
      · rw [if_pos hl] at ho
        rw [if_neg c]
        obtain ⟨M1, p1, p2, p3⟩ := u_list hj (e := b + 10 * x) h hl
        rw [p1, Option.bind_some]
        obtain ⟨M', q1, q2, q3⟩ := lp_loe_s hj hs (K := K) r n (x + 1) M1 _ l' p2 ho (by omega) (by omega)
        exact ⟨M', q1, q2, p3.tr q3⟩
      · rw [if_neg hl] at ho; cases ho
theorem u_loe (hj : jL LN RF j) {s b : Nat} (hs : s < 256) {M : gk_M} {l l' : List Nat} (h : LR (M.1 j 4) (M.1 (j + 28)) l) (ho : okk s b 8 0 l = some l') : ∃ M', f_X3_listOfEach LN RF j (nI b) (nI s) M = some M' ∧ LR (M'.1 j 4) (M'.1 (j + 28)) l' ∧ JFd j M M' := by
  unfold f_X3_listOfEach
  simp only [gk_jn]
  rw [show ((0 : Int32), M) = (nI 0, M) from rfl]
  exact lp_loe_s hj hs 8 gk_fuel 0 M l l' h ho (by omega) (fuel_gt (by omega))
theorem c_open (hx : xL LN RF x) (hj : jL LN RF (x + 187)) {M : gk_M} (hB : BR (x + 2) M W) (hW : WB W) {s : Nat} (hs : s < 256) {l : List Nat} (hl : odd s = some l) (a1 a2 a3 : Int32) : ∃ M', f_X3_open LN RF (x + 187) (x + 1) a1 a2 a3 (nI s) M = some M' ∧ BR (x + 188) M' W ∧ (M'.1 (x + 217) 7 = M.1 (x + 1) 7 ∧ M'.1 (x + 187) 5 = a1 ∧ M'.1 (x + 187) 6 = a2 ∧ M'.1 (x + 187) 7 = a3) ∧ LR (M'.1 (x + 187) 4) (M'.1 (x + 215)) l ∧ M'.2 = M.2 ∧ ∀ a i, (a < x + 187 ∨ x + 214 ≤ a) → a ≠ x + 215 → ¬ (a = x + 217 ∧ i = 7) → M'.1 a i = M.1 a i := by
  unfold odd at hl
  cases e1 : ox s 8 0 [] with
  | none => rw [e1] at hl; cases hl
  | some l1 =>
    rw [e1] at hl
    simp only [Option.bind_some] at hl
    cases e2 : okk s 2000 8 0 l1 with
    | none => rw [e2] at hl; cases hl
    | some l2 =>
      rw [e2] at hl
      simp only [Option.bind_some] at hl
      cases e3 : okk s 3000 8 0 l2 with
      | none => rw [e3] at hl; cases hl
      | some l3 =>
        rw [e3] at hl
        simp only [Option.bind_some] at hl
        by_cases e4 : l3.length < 13
        · rw [if_pos e4] at hl
          cases hl
          unfold f_X3_open
          obtain ⟨M1, p1, p2, p3, p4⟩ := u_copyB (hj.2.2.2 0 (by omega)) hx.2.1 (Or.inr (by omega)) hW hB
          rw [hj.1.1, hx.2.1.1.1, p1, Option.bind_some, hj.1.2.1, show (0 : Int32) = nI 0 from rfl, aldr_n (by rw [hj.2.1.1]; omega) (by omega), hj.2.2.1 0 (by omega)]
          simp only [gk_put, gk_jn]
          obtain ⟨M2, hM2⟩ : ∃ M2, M2 = gk_wr (gk_wr (gk_wr (gk_wr (gk_wr M1 (x + 187 + 30 + 15 * 0) 7 (M1.1 (x + 1) 7)) (x + 187) 5 a1) (x + 187) 6 a2) (x + 187) 7 a3) (x + 187) 4 (nI 0) := ⟨_, rfl⟩
          rw [← hM2]
          have f2 : ∀ a i, ¬ (a = x + 217 ∧ i = 7) → ¬ (a = x + 187) → M2.1 a i = M1.1 a i := fun a i u v => by
            rw [hM2]; simp only [wr_1, v, false_and, if_false]; rw [if_neg (by omega)]
          have v2 : M2.1 (x + 217) 7 = M1.1 (x + 1) 7 ∧ M2.1 (x + 187) 5 = a1 ∧ M2.1 (x + 187) 6 = a2 ∧ M2.1 (x + 187) 7 = a3 ∧ M2.1 (x + 187) 4 = nI 0 := by
            rw [hM2]; simp [wr_1]
          have l2 : LR (M2.1 (x + 187) 4) (M2.1 (x + 187 + 28)) [] := ⟨v2.2.2.2.2, fun i hi => absurd hi (by simp)⟩
          obtain ⟨M3, q1, q2, q3⟩ := lp_48_s hj hs (K := fun y32 => (f_X3_listOfEach LN RF (x + 187) 2000 (nI s) y32).bind fun r34 => (f_X3_listOfEach LN RF (x + 187) 3000 (nI s) r34).bind fun r35 => (f_X3_list LN RF (x + 187) 4000 r35).bind fun r36 => some r36) 8 gk_fuel 0 M2 _ l1 l2 e1 (by omega) (fuel_gt (by omega))
          obtain ⟨M4, r1, r2, r3⟩ := u_loe hj (b := 2000) hs q2 e2
          obtain ⟨M5, s1, s2, s3⟩ := u_loe hj (b := 3000) hs r2 e3
          obtain ⟨M6, t1, t2, t3⟩ := u_list hj (e := 4000) s2 e4
          rw [q1, show (2000 : Int32) = nI 2000 from rfl, r1, Option.bind_some, show (3000 : Int32) = nI 3000 from rfl, s1, Option.bind_some, show (4000 : Int32) = nI 4000 from rfl, t1, Option.bind_some]
          have F := ((q3.tr r3).tr s3).tr t3
          refine ⟨M6, rfl, ?_, ⟨?_, ?_, ?_, ?_⟩, t2, ?_, fun a i u v w => ?_⟩
          · refine BR.out p2 hW (fun a a1 a2 => ?_)
            funext i
            rw [F.2 a i (by omega) (by omega), f2 a i (by omega) (by omega)]
          · rw [F.2 _ _ (by omega) (by omega), v2.1, p3 _ (by omega)]
          · rw [F.2 _ _ (by omega) (by omega), v2.2.1]
          · rw [F.2 _ _ (by omega) (by omega), v2.2.2.1]
          · rw [F.2 _ _ (by omega) (by omega), v2.2.2.2.1]
          · rw [F.1, hM2]; exact p4
          · rw [F.2 a i (by omega) (by omega), f2 a i w (by omega), p3 a (by omega)]
        · rw [if_neg e4] at hl; cases hl
/-- the reference's list -/
theorem m_push (hm : mL LN RF m) {M : gk_M} {l : List Nat} {e : Nat} (h : LR (M.1 m 32) (M.1 (m + 26)) l) (hl : l.length < 13) {K : gk_M → Option gk_M} : ∃ M', (gk_ast LN M (RF m 29) (M.1 m 32) (nI e) fun M4 => gk_put M4 m 32 ((M4.1 m 32) + 1) fun M5 => K M5) = K M' ∧ LR (M'.1 m 32) (M'.1 (m + 26)) (l ++ [e]) ∧ MFd m M M' := by
  rw [h.1, hm.2.2.1.2.2.1, ast_n (by rw [hm.2.2.2.2.2.1]; omega) (by omega)]
  unfold gk_put
  have e4 : (gk_wr M (m + 26) l.length (nI e)).1 m 32 = M.1 m 32 := by rw [wr_1, if_neg (by omega)]
  refine ⟨_, rfl, ?_, rfl, fun a i p q => ?_⟩
  · have : (gk_wr (gk_wr M (m + 26) l.length (nI e)) m 32 ((gk_wr M (m + 26) l.length (nI e)).1 m 32 + 1)).1 m 32 = M.1 m 32 + 1 := by rw [wr_1, if_pos ⟨rfl, rfl⟩, e4]
    rw [this]
    refine h.push (fun i => ?_)
    rw [wr_1, if_neg (by omega), wr_1]
    by_cases g : i = l.length
    · rw [if_pos ⟨rfl, g⟩, if_pos g]
    · rw [if_neg (fun q => g q.2), if_neg g]
  · rw [wr_1, if_neg q, wr_1, if_neg (fun g => p g.1)]
theorem lp_15_s (hm : mL LN RF m) {s x : Nat} (hs : s < 256) (hx : x < 8) {K : gk_M → Option gk_M} : ∀ (r n y : Nat) (M : gk_M) (l l' : List Nat), LR (M.1 m 32) (M.1 (m + 26)) l → oy s x r y l = some l' → y + r = 8 → r < n → ∃ M', lp_X8_findDeeds_15 LN RF m (nI s) (nI x) K n (nI y, M) = K M' ∧ LR (M'.1 m 32) (M'.1 (m + 26)) l' ∧ MFd m M M'
  | r, 0, y, M, l, l', _, _, _, g => absurd g (by omega)
  | 0, n + 1, y, M, l, l', h, ho, g1, g2 => by
    rw [oy] at ho
    cases ho
    rw [lp_X8_findDeeds_15, show (8 : Int32) = nI 8 from rfl, if_pos (nI_le (by omega) (by omega))]
    exact ⟨M, rfl, h, MFd.rf⟩
  | r + 1, n + 1, y, M, l, l', h, ho, g1, g2 => by
    rw [oy] at ho
    rw [lp_X8_findDeeds_15, show (8 : Int32) = nI 8 from rfl, if_neg (nI_ge (by omega) (by omega))]
    simp only [gk_jn, nI_1 y, n1k, bit_ge s hs x hx, bit_ge s hs y (show y < 8 by omega), bI_0, nI_eq (show x < 2 ^ 31 by omega) (show y < 2 ^ 31 by omega)]
    by_cases c : x = y ∨ s.testBit x = false ∨ s.testBit y = false
    · rw [if_pos c] at ho
      obtain ⟨M', q1, q2⟩ := lp_15_s hm hs hx (K := K) r n (y + 1) M l l' h ho (by omega) (by omega)
      refine ⟨M', ?_, q2⟩
      rw [q1]
      by_cases c1 : x = y
      · rw [if_pos c1]
      · rw [if_neg c1]
        by_cases c2 : s.testBit x = false
        · rw [if_pos c2]
        · rw [if_neg c2, if_pos (by rcases c with c | c | c; exact absurd c c1; exact absurd c c2; exact c)]
    · rw [if_neg c] at ho
      by_cases hl : l.length < 13
      · rw [if_pos hl] at ho
        rw [if_neg (fun g => c (Or.inl g)), if_neg (fun g => c (Or.inr (Or.inl g))), if_neg (fun g => c (Or.inr (Or.inr g)))]
        obtain ⟨M1, p1, p2, p3⟩ := m_push hm (e := 1000 + 10 * x + y) h hl (K := fun M5 => lp_X8_findDeeds_15 LN RF m (nI s) (nI x) K n (nI (y + 1), M5))
        rw [p1]
        obtain ⟨M', q1, q2, q3⟩ := lp_15_s hm hs hx (K := K) r n (y + 1) M1 _ l' p2 ho (by omega) (by omega)
        exact ⟨M', q1, q2, p3.tr q3⟩
      · rw [if_neg hl] at ho; cases ho
theorem lp_7_s (hm : mL LN RF m) {s : Nat} (hs : s < 256) {K : gk_M → Option gk_M} : ∀ (r n x : Nat) (M : gk_M) (l l' : List Nat), LR (M.1 m 32) (M.1 (m + 26)) l → ox s r x l = some l' → x + r = 8 → r < n → ∃ M', lp_X8_findDeeds_7 LN RF m (nI s) K n (nI x, M) = K M' ∧ LR (M'.1 m 32) (M'.1 (m + 26)) l' ∧ MFd m M M'
  | r, 0, x, M, l, l', _, _, _, g => absurd g (by omega)
  | 0, n + 1, x, M, l, l', h, ho, g1, g2 => by
    rw [ox] at ho
    cases ho
    rw [lp_X8_findDeeds_7, show (8 : Int32) = nI 8 from rfl, if_pos (nI_le (by omega) (by omega))]
    exact ⟨M, rfl, h, MFd.rf⟩
  | r + 1, n + 1, x, M, l, l', h, ho, g1, g2 => by
    rw [ox] at ho
    cases e : oy s x 8 0 l with
    | none => rw [e] at ho; cases ho
    | some l1 =>
      rw [e] at ho
      simp only [Option.bind_some] at ho
      rw [lp_X8_findDeeds_7, show (8 : Int32) = nI 8 from rfl, if_neg (nI_ge (by omega) (by omega))]
      simp only [gk_jn, nI_1]
      obtain ⟨M1, p1, p2, p3⟩ := lp_15_s hm hs (show x < 8 by omega) (K := fun y1 => lp_X8_findDeeds_7 LN RF m (nI s) K n (nI (x + 1), y1)) 8 gk_fuel 0 M l l1 h e (by omega) (fuel_gt (by omega))
      obtain ⟨M', q1, q2, q3⟩ := lp_7_s hm hs (K := K) r n (x + 1) M1 _ l' p2 ho (by omega) (by omega)
      exact ⟨M', by rw [show ((0 : Int32), M) = (nI 0, M) from rfl, p1, q1], q2, p3.tr q3⟩
theorem lp_95_s (hm : mL LN RF m) {s b : Nat} {v : Int32} (hv : 1000 * v = nI b) (hs : s < 256) {K : gk_M → Option gk_M} : ∀ (r n x : Nat) (M : gk_M) (l l' : List Nat), LR (M.1 m 32) (M.1 (m + 26)) l → okk s b r x l = some l' → x + r = 8 → r < n → ∃ M', lp_X8_findDeeds_95 LN RF m (nI s) v K n (nI x, M) = K M' ∧ LR (M'.1 m 32) (M'.1 (m + 26)) l' ∧ MFd m M M'
  | r, 0, x, M, l, l', _, _, _, g => absurd g (by omega)
  | 0, n + 1, x, M, l, l', h, ho, g1, g2 => by
    rw [okk] at ho
    cases ho
    rw [lp_X8_findDeeds_95, show (8 : Int32) = nI 8 from rfl, if_pos (nI_le (by omega) (by omega))]
    exact ⟨M, rfl, h, MFd.rf⟩
  | r + 1, n + 1, x, M, l, l', h, ho, g1, g2 => by
    rw [okk] at ho
    rw [lp_X8_findDeeds_95, show (8 : Int32) = nI 8 from rfl, if_neg (nI_ge (by omega) (by omega))]
    simp only [gk_jn, nI_1 x, hv, nbk, bit_ge s hs x (show x < 8 by omega), bI_0]
    by_cases c : s.testBit x = false
    · rw [if_pos c] at ho
      rw [if_pos c]
      exact lp_95_s hm hv hs (K := K) r n (x + 1) M l l' h ho (by omega) (by omega)
    · rw [if_neg c] at ho
      by_cases hl : l.length < 13
      · rw [if_pos hl] at ho
        rw [if_neg c]
        obtain ⟨M1, p1, p2, p3⟩ := m_push hm (e := b + 10 * x) h hl (K := fun M5 => lp_X8_findDeeds_95 LN RF m (nI s) v K n (nI (x + 1), M5))
        rw [p1]
        obtain ⟨M', q1, q2, q3⟩ := lp_95_s hm hv hs (K := K) r n (x + 1) M1 _ l' p2 ho (by omega) (by omega)
        exact ⟨M', q1, q2, p3.tr q3⟩
      · rw [if_neg hl] at ho; cases ho
theorem t_findDeeds (hm : mL LN RF m) {M : gk_M} {s : Nat} (hs : s < 256) {l : List Nat} (hl : odd s = some l) : ∃ M', f_X8_findDeeds LN RF m (nI s) M = some M' ∧ LR (M'.1 m 32) (M'.1 (m + 26)) l ∧ MFd m M M' := by
  unfold odd at hl
  cases e1 : ox s 8 0 [] with
  | none => rw [e1] at hl; cases hl
  | some l1 =>
    rw [e1] at hl
    simp only [Option.bind_some] at hl
    cases e2 : okk s 2000 8 0 l1 with
    | none => rw [e2] at hl; cases hl
    | some l2 =>
      rw [e2] at hl
      simp only [Option.bind_some] at hl
      cases e3 : okk s 3000 8 0 l2 with
      | none => rw [e3] at hl; cases hl
      | some l3 =>
        rw [e3] at hl
        simp only [Option.bind_some] at hl
        by_cases e4 : l3.length < 13
        · rw [if_pos e4] at hl
          cases hl
          unfold f_X8_findDeeds
          simp only [gk_put, gk_jn]
          have l0 : LR ((gk_wr M m 32 0).1 m 32) ((gk_wr M m 32 0).1 (m + 26)) [] := ⟨by rw [wr_1, if_pos ⟨rfl, rfl⟩]; rfl, fun i hi => absurd hi (by simp)⟩
          have f0 : MFd m M (gk_wr M m 32 0) := ⟨rfl, fun a i p q => by rw [wr_1, if_neg q]⟩
          obtain ⟨M3, q1, q2, q3⟩ := lp_7_s hm hs (K := fun y22 => lp_X8_findDeeds_88 LN RF m (nI s) (fun y24 => gk_ast LN y24 (RF m 29) (y24.1 m 32) 4000 fun M27 => some (gk_wr M27 m 32 (M27.1 m 32 + 1))) gk_fuel (2, y22)) 8 gk_fuel 0 (gk_wr M m 32 0) _ l1 l0 e1 (by omega) (fuel_gt (by omega))
          rw [show ((0 : Int32), gk_wr M m 32 0) = (nI 0, gk_wr M m 32 0) from rfl, q1]
          obtain ⟨n, hn⟩ : ∃ n, gk_fuel = n + 3 := ⟨2997, by rw [gk_fuel_eq]⟩
          obtain ⟨M4, r1, r2, r3⟩ := lp_95_s hm (v := 2) (b := 2000) rfl hs (K := fun y1 => lp_X8_findDeeds_88 LN RF m (nI s) (fun y24 => gk_ast LN y24 (RF m 29) (y24.1 m 32) 4000 fun M27 => some (gk_wr M27 m 32 (M27.1 m 32 + 1))) (n + 2) (2 + 1, y1)) 8 gk_fuel 0 M3 _ l2 q2 e2 (by omega) (fuel_gt (by omega))
          obtain ⟨M5, s1, s2, s3⟩ := lp_95_s hm (v := 2 + 1) (b := 3000) rfl hs (K := fun y1 => lp_X8_findDeeds_88 LN RF m (nI s) (fun y24 => gk_ast LN y24 (RF m 29) (y24.1 m 32) 4000 fun M27 => some (gk_wr M27 m 32 (M27.1 m 32 + 1))) (n + 1) (2 + 1 + 1, y1)) 8 gk_fuel 0 M4 _ l3 r2 e3 (by omega) (fuel_gt (by omega))
          obtain ⟨M6, t1, t2, t3⟩ := m_push hm (e := 4000) s2 e4 (K := fun M => some M)
          have t1' : (gk_ast LN M5 (RF m 29) (M5.1 m 32) 4000 fun M27 => some (gk_wr M27 m 32 (M27.1 m 32 + 1))) = some M6 := t1
          refine ⟨M6, ?_, t2, (((f0.tr q3).tr r3).tr s3).tr t3⟩
          rw [hn, lp_X8_findDeeds_88, if_neg (show ¬ (4 : Int32) ≤ 2 by decide)]
          simp only [gk_jn]
          rw [show ((0 : Int32), M3) = (nI 0, M3) from rfl, r1, lp_X8_findDeeds_88, if_neg (show ¬ (4 : Int32) ≤ 2 + 1 by decide)]
          simp only [gk_jn]
          rw [show ((0 : Int32), M4) = (nI 0, M4) from rfl, s1, lp_X8_findDeeds_88, if_pos (show (4 : Int32) ≤ 2 + 1 + 1 by decide), t1']
        · rw [if_neg e4] at hl; cases hl
end DD
