/-! What a search finds depends on lines, wishes and their order alone -/
def RF0 (a k : Nat) : Nat := if a = 26 then (if k = 0 then 0 else if k = 1 then 32 else 25 + k) else if a = 32 then 33 + k else if a = 0 then 1 else 2 + k
def LN0 (a : Nat) : Nat := if a = 1 then 24 else 8
def M00 (W : zS) (L : Nat) : gk_M := (fun a k => if a = 0 then nI (W 6 0) else if a < 26 then nI (W k (a - 2)) else if a = 26 then (if k = 7 then nI L else 0) else if a < 29 then -1 else 0, fun _ => 0)
theorem L00 : hL LN0 RF0 26 1 8 0 := by
  refine ⟨by decide, fun c hc => ?_, by decide, by decide, by decide, by decide, fun w hw => ?_⟩
  · unfold RF0; simp only [show (26 + 1 + 5 = 26) = False by decide, if_false, if_true]
  · unfold RF0; simp only [show (0 + 1 = 26) = False by decide, show (0 + 1 = 32) = False by decide, show (0 + 1 = 0) = False by decide, if_false]
theorem B00 {W : zS} (hW : WB W) (L : Nat) : BR 0 (M00 W L) W := by
  refine ⟨rfl, fun w k hw hk => ?_⟩
  have := hW.1
  unfold M00
  simp only
  rw [if_neg (by omega), if_pos (by omega), show 0 + 2 + w - 2 = w by omega]
theorem E00 {W : zS} {S : zS} : HR 26 1 (M00 W (S 20 0)) (empS S) := by
  refine B0.hr ⟨⟨rfl, rfl, rfl⟩, fun l hl => ⟨rfl, rfl, rfl⟩⟩ rfl
theorem tst_any {W S1 S2 : zS} {l : List Nat} {kd a b k v : Nat} (V1 : IV W S1) (V2 : IV W S2) (e12 : S1 20 0 = S2 20 0) (hn0 : 0 < l.length) (hD : ∀ i, i < l.length → l.getD i 0 < 5000 ∧ gA (S1 20 0) (l.getD i 0)) (hkd : kd < 3) (ha : a < S1 20 0) (hb : kd = 1 ∨ b < S1 20 0) (hk : k ≤ 3) : tst W (fun i => l.getD i 0) l.length S1 kd a b k v = tst W (fun i => l.getD i 0) l.length S2 kd a b k v :=
  tst_ind L00 (B00 V1.1 (S1 20 0)) V1 V2 E00 (by rw [e12]; exact E00) e12 hn0 hD hkd ha hb hk
/-- what the judge finds -/
def jfn (W S : zS) (kd a b s depth : Nat) : Nat := fnd (tst W (fun i => ((odd s).getD []).getD i 0) ((odd s).getD []).length S kd a b) ((odd s).getD []).length depth 1
theorem fnd_cg {p q : Nat → Nat → Bool} {n : Nat} : ∀ r len, (∀ k v, k < len + r → p k v = q k v) → fnd p n r len = fnd q n r len
  | 0, _, _ => rfl
  | r + 1, len, h => by
    have e : p len = q len := by funext v; exact h len v (by omega)
    rw [fnd, fnd, e, fnd_cg r (len + 1) (fun k v hk => h k v (by omega))]
/-- two books with one order -/
def Oq (W1 W2 : zS) : Prop := (∀ k i, k ≠ 2 → W2 k i = W1 k i) ∧ ∀ t i j, i < W1 6 0 → j < W1 6 0 → onOf W1 t i = true → onOf W1 t j = true → (keyW W1 i < keyW W1 j ↔ keyW W2 i < keyW W2 j)
section OQ
variable {W1 W2 : zS}
theorem oq_on (h : Oq W1 W2) (t w : Nat) : onOf W2 t w = onOf W1 t w := by unfold onOf; rw [h.1 5 w (by decide), h.1 0 w (by decide)]
theorem oq_amin (h : Oq W1 W2) (hW2 : WB W2) {t : Nat} {q : Nat → Bool} : amin (keyW W2) (fun w => onOf W1 t w && q w) (W1 6 0) = amin (keyW W1) (fun w => onOf W1 t w && q w) (W1 6 0) := by
  have h6 : W2 6 0 = W1 6 0 := h.1 6 0 (by decide)
  cases e : amin (keyW W1) (fun w => onOf W1 t w && q w) (W1 6 0) with
  | zero => exact amin_0.mpr (amin_0.mp e)
  | succ c =>
    obtain ⟨h1, h2, h3⟩ := amin_s e
    refine amin_eq (by rw [← h6]; exact key_inj hW2) h1 h2 (fun j hj hp => ?_)
    simp only [Bool.and_eq_true] at h2 hp
    have := h3 j hj (by simp only [Bool.and_eq_true]; exact hp)
    have g := h.2 t j c hj h1 hp.1 h2.1
    omega
theorem oq_act (h : Oq W1 W2) (S : zS) (c t s w : Nat) : act1 W2 S c t s w = act1 W1 S c t s w := by
  unfold act1; rw [h.1 1 w (by decide), h.1 3 w (by decide), h.1 4 w (by decide)]
theorem oq_acts (h : Oq W1 W2) (hW2 : WB W2) (S : zS) (c t s : Nat) : actsS W2 S c t s = actsS W1 S c t s := by
  unfold actsS
  rw [show (fun w => onOf W2 t w && act1 W2 S c t s w) = (fun w => onOf W1 t w && act1 W1 S c t s w) by funext w; rw [oq_on h, oq_act h], h.1 6 0 (by decide)]
  exact oq_amin h hW2
theorem oq_has (h : Oq W1 W2) (l k : Nat) : hasW W2 l k = hasW W1 l k := by
  unfold hasW
  rw [show (fun w => W2 0 w == l && W2 1 w == k && W2 5 w == 1) = (fun w => W1 0 w == l && W1 1 w == k && W1 5 w == 1) by funext w; rw [h.1 0 w (by decide), h.1 1 w (by decide), h.1 5 w (by decide)], h.1 6 0 (by decide)]
theorem oq_com (h : Oq W1 W2) (S : zS) (c t s : Nat) : comS W2 S c t s = comS W1 S c t s := by unfold comS; rw [oq_has h]
theorem oq_lns (h : Oq W1 W2) (S : zS) (c t : Nat) : lnsS W2 S c t = lnsS W1 S c t := by
  unfold lnsS
  rw [h.1 6 0 (by decide)]
  congr 1
  · funext w; rw [h.1 0 w (by decide), h.1 1 w (by decide), h.1 5 w (by decide), h.1 3 w (by decide)]
  · funext w; rw [h.1 3 w (by decide)]
theorem oq_arr (h : Oq W1 W2) (S : zS) (c t : Nat) : arrS W2 S c t = arrS W1 S c t := by unfold arrS; rw [oq_has h, oq_lns h]
theorem oq_go (h : Oq W1 W2) (hW2 : WB W2) : ∀ (n : Nat) (S : zS) (c t s : Nat), goS W2 n S c t s = goS W1 n S c t s
  | 0, S, c, t, s => rfl
  | n + 1, S, c, t, s => by
    rw [goS, goS, oq_com h, oq_acts h hW2, oq_arr h, h.1 1 _ (by decide), h.1 3 _ (by decide), oq_go h hW2 n]
theorem oq_dia (h : Oq W1 W2) (hW2 : WB W2) (S : zS) (l t : Nat) : diaS W2 S l t = diaS W1 S l t := by unfold diaS; rw [oq_go h hW2]
theorem oq_onw (h : Oq W1 W2) (hW2 : WB W2) (S : zS) (c : Nat) : onwS W2 S c = onwS W1 S c := by
  unfold onwS
  rw [show (fun w => onOf W2 (lastS S c) w && (W2 1 w == 1 && W2 4 w == 2 + (S 14 c + 1))) = (fun w => onOf W1 (lastS S c) w && (W1 1 w == 1 && W1 4 w == 2 + (S 14 c + 1))) by funext w; rw [oq_on h, h.1 1 w (by decide), h.1 4 w (by decide)], h.1 6 0 (by decide)]
  exact oq_amin h hW2 (q := fun w => W1 1 w == 1 && W1 4 w == 2 + (S 14 c + 1))
theorem oq_rg1 (h : Oq W1 W2) (hW2 : WB W2) (S : zS) (c : Nat) : rg1 W2 S c = rg1 W1 S c := by
  unfold rg1 rgoS
  rw [oq_onw h hW2, oq_go h hW2, h.1 3 _ (by decide)]
theorem oq_rga (h : Oq W1 W2) (hW2 : WB W2) : ∀ (r c : Nat) (S : zS), rgaS W2 r c S = rgaS W1 r c S
  | 0, c, S => rfl
  | r + 1, c, S => by rw [rgaS, rgaS, oq_rg1 h hW2, oq_rga h hW2 r]
theorem oq_bka (h : Oq W1 W2) (hW2 : WB W2) (N : Nat) : ∀ (r p : Nat) (S : zS), bkaS W2 N r p S = bkaS W1 N r p S
  | 0, p, S => rfl
  | r + 1, p, S => by
    rw [bkaS, bkaS, show bk1 W2 N S p = bk1 W1 N S p from oq_dia h hW2 _ _ _, oq_bka h hW2 N r, oq_bka h hW2 N r]
theorem oq_stp (h : Oq W1 W2) (hW2 : WB W2) (N : Nat) (S : zS) (e : Nat) : stp W2 N S e = stp W1 N S e := by
  unfold stp tckS
  rw [oq_dia h hW2, oq_bka h hW2, oq_rga h hW2]
theorem oq_tr (h : Oq W1 W2) (hW2 : WB W2) (D : Nat → Nat) (n : Nat) (S : zS) : ∀ k v, trS W2 D n S k v = trS W1 D n S k v
  | 0, v => rfl
  | k + 1, v => by
    rw [trS, trS, oq_tr h hW2 D n S k]
    congr 1
    funext T
    rw [oq_stp h hW2]
theorem oq_brk (h : Oq W1 W2) (S : zS) (kd a b : Nat) : brk W2 S kd a b = brk W1 S kd a b := by
  unfold brk
  rw [show brk1 W2 S kd a b = brk1 W1 S kd a b by
    funext c
    unfold brk1
    rw [show hidP W2 (S 6 c) b = hidP W1 (S 6 c) b by
      funext w
      unfold hidP
      rw [h.1 0 w (by decide), h.1 1 w (by decide), h.1 5 w (by decide), h.1 3 w (by decide)], h.1 6 0 (by decide)]]
theorem oq_jfn (h : Oq W1 W2) (hW2 : WB W2) (S : zS) (kd a b s depth : Nat) : jfn W2 S kd a b s depth = jfn W1 S kd a b s depth := by
  unfold jfn
  refine fnd_cg _ _ (fun k v _ => ?_)
  unfold tst
  rw [oq_tr h hW2]
  cases trS W1 (fun i => ((odd s).getD []).getD i 0) ((odd s).getD []).length S k v with
  | none => rfl
  | some T => exact oq_brk h T kd a b
end OQ
/-- as many, and no fewer: the same -/
theorem cn_same {p q : Nat → Bool} (r : Nat) (hle : ∀ j, j < r → p j = true → q j = true) (hc : cnf p r 0 0 = cnf q r 0 0) : ∀ j, j < r → q j = true → p j = true := by
  intro j hj hq
  cases hp : p j with
  | true => rfl
  | false =>
    have h1 := cn_one (p := p) (q := fun i => p i || i == j) r 0 j (by omega) (by omega) hp (by simp) (fun i _ _ hi => by simp [hi])
    have h2 := cn_le (p := fun i => p i || i == j) (q := q) r 0 (fun i _ hi hpi => by
      simp only [Bool.or_eq_true, beq_iff_eq] at hpi
      rcases hpi with g | g
      · exact hle i (by omega) g
      · rw [g]; exact hq)
    omega
/-- a rank that leaves the place: the same order -/
theorem oq_rank {W : zS} {w r : Nat} (h24 : W 6 0 ≤ 24) (hw : w < W 6 0) (hp : plc (su W 2 w r) (W 0 w) w = plc (su W 2 w (r + 1)) (W 0 w) w) : Oq (su W 2 w r) (su W 2 w (r + 1)) := by
  refine ⟨fun k i hk => by rw [su_k hk, su_k hk], fun t i j hi hj oi oj => ?_⟩
  rw [su_k (by decide)] at hi hj
  have ko : ∀ v x, x ≠ w → keyW (su W 2 w v) x = keyW W x := fun v x hx => by unfold keyW; rw [su_i, if_neg hx]
  have kw : ∀ v, keyW (su W 2 w v) w = v * 24 + w := fun v => by unfold keyW; rw [su_s]
  have oo : ∀ v t x, onOf (su W 2 w v) t x = onOf W t x := fun v t x => by unfold onOf; rw [su_k (by decide), su_k (by decide)]
  rw [oo] at oi oj
  unfold plc at hp
  rw [su_k (by decide), su_k (by decide)] at hp
  have key : ∀ x, x < W 6 0 → x ≠ w → onOf W (W 0 w) x = true → (keyW W x < r * 24 + w ↔ keyW W x < (r + 1) * 24 + w) := by
    intro x hx hxw ox
    constructor
    · intro g; omega
    · intro g
      have := cn_same (p := fun j => onOf (su W 2 w r) (W 0 w) j && decide (keyW (su W 2 w r) j < keyW (su W 2 w r) w)) (q := fun j => onOf (su W 2 w (r + 1)) (W 0 w) j && decide (keyW (su W 2 w (r + 1)) j < keyW (su W 2 w (r + 1)) w)) (W 6 0) (fun j hj hpj => by
        simp only [Bool.and_eq_true, decide_eq_true_eq, oo, kw] at hpj ⊢
        refine ⟨hpj.1, ?_⟩
        by_cases e : j = w
        · subst e; rw [kw] at hpj; omega
        · rw [ko _ _ e] at hpj ⊢; omega) hp x hx (by
        simp only [Bool.and_eq_true, decide_eq_true_eq, oo, kw]
        rw [ko _ _ hxw]; exact ⟨ox, g⟩)
      simp only [Bool.and_eq_true, decide_eq_true_eq, kw] at this
      rw [ko _ _ hxw] at this
      exact this.2
  have ow : ∀ x, onOf W t x = true → W 0 x = t := fun x hx => by unfold onOf at hx; simp only [Bool.and_eq_true, beq_iff_eq] at hx; exact hx.2
  by_cases ei : i = w
  · subst ei
    by_cases ej : j = i
    · subst ej; omega
    · rw [kw, kw, ko _ _ ej, ko _ _ ej]
      have := key j hj ej (by rw [ow i oi]; exact oj)
      have ej2 : keyW W j = W 2 j * 24 + j := rfl
      omega
  · by_cases ej : j = w
    · subst ej
      rw [kw, kw, ko _ _ ei, ko _ _ ei]
      exact key i hi ei (by rw [ow j oj]; exact oi)
    · rw [ko _ _ ei, ko _ _ ei, ko _ _ ej, ko _ _ ej]
