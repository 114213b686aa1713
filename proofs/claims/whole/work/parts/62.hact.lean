/-! Acts of people in the class's houses: what is allowed, what is done, what breaks a promise -/
theorem ac_k {e : Nat} (h : e < 5000) : nI e / 1000 = nI (e / 1000) := by rw [show (1000 : Int32) = nI 1000 from rfl, pk_div (by omega) (by omega) (by omega)]
theorem ac_x {e : Nat} (h : e < 5000) : (nI e - nI e / 1000 * 1000) / 10 = nI (actX e) := by
  rw [show (1000 : Int32) = nI 1000 from rfl, pk_rem (by omega) (by omega) (by omega), show (10 : Int32) = nI 10 from rfl, pk_div (by omega) (by omega) (by omega)]; rfl
theorem ac_y {e : Nat} (h : e < 5000) : nI e - nI e / 10 * 10 = nI (e % 10) := by
  rw [show (10 : Int32) = nI 10 from rfl, pk_rem (by omega) (by omega) (by omega)]
theorem sw3 {α : Type} {A B C D : α} {k : Nat} (hk : k < 100) : gk_sw (nI k) 1 [A, B, C] D = if k = 1 then A else if k = 2 then B else if k = 3 then C else D := by
  show (if nI k = nI 1 then A else if nI k = nI 2 then B else if nI k = nI 3 then C else D) = _
  simp only [nI_eq (show k < 2 ^ 31 by omega) (show 1 < 2 ^ 31 by omega), nI_eq (show k < 2 ^ 31 by omega) (show 2 < 2 ^ 31 by omega), nI_eq (show k < 2 ^ 31 by omega) (show 3 < 2 ^ 31 by omega)]
theorem brk_at {W S : zS} {N kd a b c : Nat} (h : SI N S) (hk : kd = 0 ∨ kd = 2) (hc : c < S 20 2) (hb : brk1 W S kd a b c = true) : inn S a c = true := by
  have hci := h.2.1 c hc
  rcases hk with rfl | rfl
  · unfold brk1 at hb
    rw [if_pos rfl] at hb
    simp only [Bool.and_eq_true, Bool.or_eq_true, beq_iff_eq] at hb
    obtain ⟨h7, hb⟩ := hb
    unfold inn
    rcases hb with ⟨h6, h13⟩ | ⟨h6, h13⟩
    · simp [h7, h6]
    · simp [h7, h13]
  · unfold brk1 at hb
    rw [if_neg (by decide)] at hb
    simp only [Bool.and_eq_true, beq_iff_eq] at hb
    obtain ⟨h6, hr, -⟩ := hb
    have h7 : S 7 c ≠ 3 := fun g => by
      unfold rchS at hr
      rw [hci.2.2.2.2.2.2.2.2.2.1 (by omega), g] at hr
      simp at hr
    unfold inn
    simp [h7, h6]
theorem brk_u {W S : zS} {N kd a b c : Nat} (h : SI N S) (hk : kd = 0 ∨ kd = 2) (hc : cOf S a = c + 1) : anf (brk1 W S kd a b) (S 20 2) 0 false = brk1 W S kd a b c := by
  obtain ⟨hcn, hin⟩ := cOf_s hc
  rw [Bool.eq_iff_iff, anf_iff]
  constructor
  · rintro (g | ⟨d, -, hd, hb⟩)
    · cases g
    · rw [h.2.2.1 a c d hcn (by omega) hin (brk_at h hk (by omega) hb)]; exact hb
  · intro g
    exact Or.inr ⟨c, by omega, by omega, g⟩
theorem brk_f {W S : zS} {N kd a b : Nat} (h : SI N S) (hk : kd = 0 ∨ kd = 2) (hc : cOf S a = 0) : anf (brk1 W S kd a b) (S 20 2) 0 false = false := by
  rw [Bool.eq_false_iff, ne_eq, anf_iff]
  rintro (g | ⟨d, -, hd, hb⟩)
  · cases g
  · have := cOf_0.mp hc d (by omega)
    rw [brk_at h hk (by omega) hb] at this
    cases this
theorem brk_0 {W S : zS} {N a b c : Nat} (h : SI N S) (hc : cOf S a = c + 1) : brk1 W S 0 a b c = (!(a == b) && (S 7 c == 1 && cOf S b == c + 1)) := by
  obtain ⟨hcn, hin⟩ := cOf_s hc
  have hci := h.2.1 c hcn
  have hsb := cOf_iff h (l := b) hcn
  unfold brk1
  rw [if_pos rfl]
  by_cases h7 : S 7 c = 1
  · have h12 := hci.2.2.2.2.2.2.2.2.2.1 (by omega)
    have h13 := hci.2.2.2.2.2.2.2.2.2.2.2.2.2.1
    unfold inn at hin hsb
    rw [h7, h12] at hin hsb
    simp only [Nat.zero_testBit, Bool.or_false, Bool.and_eq_true, Bool.or_eq_true, beq_iff_eq, Bool.not_eq_true', beq_eq_false_iff_ne, ne_eq, beq_self_eq_true, true_and, show ((1 : Nat) == 3) = false from rfl] at hin hsb
    rw [Bool.eq_iff_iff]
    simp only [Bool.and_eq_true, Bool.or_eq_true, beq_iff_eq, Bool.not_eq_true', beq_eq_false_iff_ne, ne_eq, h7, true_and, hsb]
    omega
  · rw [show (S 7 c == 1) = false by simp [h7]]; simp
section HA
variable {LN : Nat → Nat} {RF : Nat → Nat → Nat} {h o n b : Nat} {M : gk_M} {W S : zS}
theorem u_allows (hl : hL LN RF h o n b) (hH : HR h o M S) (hI : SI n S) {e : Nat} (he : e < 5000) (hg : gA (S 20 0) e) : f_X2_allows LN RF h (nI e) M = some (bI (ali n S e)) := by
  have h1 := hI.1
  have hn := hl.2.2.2.1.2.2
  unfold f_X2_allows
  rw [ac_x he, ac_k he, sw3 (by omega), u_hasRoom hl hH (by omega), hH.1.2.2.2]
  unfold ali
  simp only [gk_jn, Option.bind_some, bI_0, zz_0, zz_1]
  rcases hg with ⟨e1, hx, hy⟩ | ⟨e1 | e1, hx⟩ | e1
  · rw [if_pos e1, if_pos e1, u_isFree hl hH (by omega) (by omega)]
    simp only [Option.bind_some, bI_0]
    cases decide (S 20 2 < n)
    · rfl
    · rw [if_neg tf]
      cases cOf S (actX e) == 0 <;> rfl
  · rw [if_neg (show ¬ e / 1000 = 1 by omega), if_pos e1, if_neg (show ¬ e / 1000 = 1 by omega), if_pos e1, u_isRinging hl hH (Nat.le_refl n) hI (by omega)]
    simp only [Option.bind_some, zz_b]
  · rw [if_neg (show ¬ e / 1000 = 1 by omega), if_neg (show ¬ e / 1000 = 2 by omega), if_pos e1, if_neg (show ¬ e / 1000 = 1 by omega), if_neg (show ¬ e / 1000 = 2 by omega), if_pos e1, u_canHangUp hl hH (Nat.le_refl n) hI (by omega)]
    simp only [Option.bind_some, zz_b]
  · rw [if_neg (show ¬ e / 1000 = 1 by omega), if_neg (show ¬ e / 1000 = 2 by omega), if_neg (show ¬ e / 1000 = 3 by omega), if_neg (show ¬ e / 1000 = 1 by omega), if_neg (show ¬ e / 1000 = 2 by omega), if_neg (show ¬ e / 1000 = 3 by omega)]
    rw [show (1000 : Int32) = nI 1000 from rfl]
    simp only [nI_leI (show 1000 < 2 ^ 31 by omega) (show S 20 3 < 2 ^ 31 by omega)]
    by_cases g : 1000 ≤ S 20 3
    · rw [if_pos g, decide_eq_false (by omega)]; rfl
    · rw [if_neg g, decide_eq_true (by omega)]; rfl
theorem u_perform (hl : hL LN RF h o n b) (hH : HR h o M S) (hB : BR b M W) (hV : IV W S) (hI : SI n S) {e : Nat} (he : e < 5000) (hg : gA (S 20 0) e) (ha : ali n S e = true) : ∃ M', f_X2_perform LN RF h (nI e) M = some M' ∧ HR h o M' (stp W n S e) ∧ HFr h o n M M' := by
  have h1 := hI.1
  have hn := hl.2.2.2.1.2.2
  obtain ⟨hW, -, hR, hD, hN⟩ := hV
  unfold f_X2_perform
  rw [ac_x he, ac_k he, ac_y he]
  simp only [gk_jn]
  rw [sw3 (by omega)]
  unfold ali at ha
  unfold stp
  rcases hg with ⟨e1, hx, hy⟩ | ⟨e1 | e1, hx⟩ | e1
  · rw [if_pos e1] at ha
    simp only [Bool.and_eq_true, decide_eq_true_eq, beq_iff_eq] at ha
    rw [if_pos e1, if_pos e1]
    obtain ⟨M1, q1, q2, q3⟩ := u_connect hl hW (Nat.le_refl n) (l := actX e) (t := e % 10) hH hB hI hN hx hy ha.2 ha.1 (K := fun r => some r)
    unfold f_X2_connect
    rw [q1]
    exact ⟨M1, rfl, q2, q3⟩
  · rw [if_neg (show ¬ e / 1000 = 1 by omega), if_pos e1] at ha
    rw [if_neg (show ¬ e / 1000 = 1 by omega), if_pos e1, if_neg (show ¬ e / 1000 = 1 by omega), if_pos e1]
    cases hc : cOf S (actX e) with
    | zero => unfold rinS at ha; rw [hc] at ha; simp at ha
    | succ c =>
      rw [rin_c hc] at ha
      obtain ⟨M1, q1, q2, q3⟩ := u_answer hl (Nat.le_refl n) hH hI hx hc ha
      rw [q1]
      exact ⟨M1, rfl, q2, q3⟩
  · rw [if_neg (show ¬ e / 1000 = 1 by omega), if_neg (show ¬ e / 1000 = 2 by omega), if_pos e1] at ha
    rw [if_neg (show ¬ e / 1000 = 1 by omega), if_neg (show ¬ e / 1000 = 2 by omega), if_pos e1, if_neg (show ¬ e / 1000 = 1 by omega), if_neg (show ¬ e / 1000 = 2 by omega), if_pos e1]
    cases hc : cOf S (actX e) with
    | zero => rw [hc] at ha; simp at ha
    | succ c =>
      obtain ⟨M1, q1, q2, q3⟩ := u_hangUp hl (Nat.le_refl n) hH hI hx hc
      rw [q1]
      exact ⟨M1, rfl, q2, q3⟩
  · rw [if_neg (show ¬ e / 1000 = 1 by omega), if_neg (show ¬ e / 1000 = 2 by omega), if_neg (show ¬ e / 1000 = 3 by omega)] at ha
    rw [if_neg (show ¬ e / 1000 = 1 by omega), if_neg (show ¬ e / 1000 = 2 by omega), if_neg (show ¬ e / 1000 = 3 by omega), if_neg (show ¬ e / 1000 = 1 by omega), if_neg (show ¬ e / 1000 = 2 by omega), if_neg (show ¬ e / 1000 = 3 by omega)]
    obtain ⟨M1, q1, q2, q3⟩ := u_pass hl hW hH hB hI hR hD hN (by simpa using ha)
    rw [q1]
    exact ⟨M1, rfl, q2, q3⟩
theorem u_breaks (hl : hL LN RF h o n b) (hH : HR h o M S) (hB : BR b M W) (hW : WB W) (hI : SI n S) {kd x y : Nat} {z : Int32} (hk : kd < 3) (hx : x < S 20 0) (hy : kd = 1 ∨ (z = nI y ∧ y < S 20 0)) : f_X2_breaks LN RF h (nI kd) (nI x) z M = some (bI (brk W S kd x y)) := by
  have h1 := hI.1
  have hn := hl.2.2.2.1.2.2
  unfold f_X2_breaks brk
  simp only [nI_e1 (show kd < 2 ^ 31 by omega)]
  by_cases e1 : kd = 1
  · rw [if_pos e1, if_pos e1, ha_4 hl (by omega), (hH.2.2.1 x (by omega)).2.2]
    simp only [gk_jn, zz_0, zz_1]
    by_cases g : nI (S 19 x) ≤ 0
    · rw [if_pos g, decide_eq_true g]; rfl
    · rw [if_neg g, decide_eq_false g]; rfl
  · rw [if_neg e1, if_neg e1]
    have hk2 : kd = 0 ∨ kd = 2 := by omega
    obtain ⟨rfl, hy⟩ : z = nI y ∧ y < S 20 0 := by
      rcases hy with g | g
      · exact absurd g e1
      · exact g
    rw [u_isFree hl hH (by omega) (by omega)]
    simp only [Option.bind_some, bI_0]
    cases hc : cOf S x with
    | zero => rw [if_neg (by simp), brk_f hI hk2 hc]; rfl
    | succ c =>
      obtain ⟨hcn, hin⟩ := cOf_s hc
      have hci := hI.2.1 c hcn
      rw [if_pos (by simp), brk_u hI hk2 hc, ha_2 hl (by omega), (hH.2.2.1 x (by omega)).1, hc, nN_s, ha_c hl (by omega)]
      simp only [nI_e0 (show kd < 2 ^ 31 by omega)]
      obtain ⟨c0, c1, -⟩ := hH.2.1 c hcn
      rcases hk2 with rfl | rfl
      · simp only [gk_jn]
        rw [if_pos trivial, brk_0 hI hc, c1, ha_2 hl (l := y) (by omega), (hH.2.2.1 y (by omega)).1, ha_2 hl (l := x) (by omega), (hH.2.2.1 x (by omega)).1, hc]
        have := cOf_le S y
        simp only [zz_0, zz_1, nI_e1 (show S 7 c < 2 ^ 31 by have := hci.2.1; omega), nI_eq (show x < 2 ^ 31 by omega) (show y < 2 ^ 31 by omega), nN_inj (show cOf S y < 2 ^ 31 by omega) (show c + 1 < 2 ^ 31 by omega)]
        by_cases g1 : x = y
        · rw [if_pos g1]; simp [g1, bI]
        · rw [if_neg g1]
          by_cases g2 : S 7 c = 1
          · rw [if_pos g2]
            by_cases g3 : cOf S y = c + 1
            · rw [if_pos g3]; simp [g1, g2, g3, bI]
            · rw [if_neg g3]; simp [g3, bI]
          · rw [if_neg g2]; simp [g2, bI]
      · rw [if_neg (by decide), c0, u_isTold hl hH hB hW (Nat.le_refl n) hI hcn (by omega)]
        unfold brk1
        rw [if_neg (by decide)]
        simp only [gk_jn, zz_0, zz_1, Option.bind_some, bI_0, nI_eq (show S 6 c < 2 ^ 31 by have := hci.1; omega) (show x < 2 ^ 31 by omega)]
        by_cases g : S 6 c = x
        · rw [if_pos g]
          simp only [g, beq_self_eq_true, Bool.true_and]
          cases rchS S c y && !anf (hidP W x y) (W 6 0) 0 false <;> rfl
        · rw [if_neg g, show (S 6 c == x) = false by simp [g]]; rfl
end HA
