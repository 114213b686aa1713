/-! System.arraycopy between rows of ints -/
def gk_cpM (M : gk_M) (a0 sp a dp n : Nat) : gk_M := (fun b j => if b = a then va_cpy (M.1 a0) (M.1 a) sp dp n j else M.1 b j, M.2)
def gk_cpy (LN : Nat → Nat) (M : gk_M) (a0 : Nat) (sp : Int32) (a : Nat) (dp n : Int32) {α : Type} (k : gk_M → Option α) : Option α := if ¬ sp < 0 ∧ ¬ dp < 0 ∧ ¬ n < 0 ∧ sp.toNatClampNeg + n.toNatClampNeg ≤ LN a0 ∧ dp.toNatClampNeg + n.toNatClampNeg ≤ LN a then k (gk_cpM M a0 sp.toNatClampNeg a dp.toNatClampNeg n.toNatClampNeg) else none
theorem gk_acopy {Z : gk_Z} {Y : gk_Y} {cc : ByteArray} {nL d pc q : Nat} {own : String} {α : Type} {ρ : α → Option Value × gk_M} {lv : List (Nat × Value)} {st : List Value} {M : gk_M} (hC : gk_C Z Y cc nL own d) {idx a0 a : Nat} {sp dp n : Int32} {kk : gk_M → Option α} (hw : Cond.methodLink own idx arraycopyName ∈ gk_U) (hd : decode cc pc = .ok (.invokestatic idx, 3)) (h0 : gk_T Y 100 a0) (h1 : gk_T Y 100 a) (h1d : 1 ≤ d) (hst : (st.map fun v => v.category).sum + (nativeFrameWords "java/lang/System" "arraycopy" 5 + 11) ≤ 40) (hq : pc + 3 = q) (h : ∀ M', gk_K Z Y nL ρ q lv st M' (kk M')) : gk_K Z Y nL ρ pc lv (.int n :: .int dp :: .ref a :: .int sp :: .ref a0 :: st) M (gk_cpy (gk_ln Y) M a0 sp a dp n kk) := by
  subst hq
  obtain ⟨p, l, e, R, s, m, args, below, meth, c, cells, slots, Qf⟩ := Z
  obtain ⟨hx, hb, hml, hown, hts, hK, hY, f1, f2, -⟩ := hC
  obtain ⟨q0, hq0, hat0⟩ := gk_ws_at (M := M) h0
  obtain ⟨q1, hq1, hat1⟩ := gk_ws_at (M := M) h1
  intro z hkz ls H locs hh hP hS
  unfold gk_cpy at hkz
  split at hkz
  case isFalse => cases hkz
  case isTrue g =>
    obtain ⟨g1, g2, g3, g4, g5⟩ := g
    refine va_copyi hx hb (by rw [hml]; exact hh.1.symm) hown (hts _ hw) (hts _ gk_acw.1) (hts _ gk_acw.2.1) (hts _ gk_acw.2.2) hK hP (gk_WD hY) hS q0 q1 0 0 (ty := .int) (c0 := gk_cA Y 100) (n0 := gk_ln Y a0) (f := M.1 a0) (c1 := gk_cA Y 100) (n1 := gk_ln Y a) (g := M.1 a) (by rw [hat0]; simp [gk_ce]) (by rw [hat1]; simp [gk_ce]) rfl rfl rfl g1 g2 g3 g4 g5 (fun _ _ => rfl) (by omega) (by omega) hd fun H1 locs1 hP1 _ hS1 => ?_
    have hse : (gk_ws Y M).set q1 (a, .inl (gk_cA Y 100, gk_ln Y a, .inl (va_cpy (M.1 a0) (M.1 a) sp.toNatClampNeg dp.toNatClampNeg n.toNatClampNeg))) = gk_ws Y (gk_cpM M a0 sp.toNatClampNeg a dp.toNatClampNeg n.toNatClampNeg) := by
      refine gk_ws_set hY hq1 ?_ (fun b u hb => by simp [gk_ce, gk_fs, gk_fv, gk_cpM, hb])
      have hf : (gk_cpM M a0 sp.toNatClampNeg a dp.toNatClampNeg n.toNatClampNeg).1 a = va_cpy (M.1 a0) (M.1 a) sp.toNatClampNeg dp.toNatClampNeg n.toNatClampNeg := by
        funext i
        simp [gk_cpM]
      simp [gk_ce, hf]
    rw [hse] at hP1
    exact h _ z hkz ls H1 locs1 hh hP1 hS1
