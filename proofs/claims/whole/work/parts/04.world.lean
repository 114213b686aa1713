/-! A world whose cells, references and lengths stand still, and whose numbers move: what every method of the system works on once the objects are made. -/
abbrev gk_M : Type := (Nat → Nat → Int32) × (Nat → Int64)
abbrev gk_Y : Type := va_G × (Nat → ClassId) × List (Nat × Nat) × (Nat → Nat) × (Nat → Nat → Nat) × (Nat → Prop)
abbrev gk_D (Y : gk_Y) : va_G := Y.1
abbrev gk_cA (Y : gk_Y) : Nat → ClassId := Y.2.1
abbrev gk_L (Y : gk_Y) : List (Nat × Nat) := Y.2.2.1
abbrev gk_ln (Y : gk_Y) : Nat → Nat := Y.2.2.2.1
abbrev gk_rf (Y : gk_Y) : Nat → Nat → Nat := Y.2.2.2.2.1
abbrev gk_A (Y : gk_Y) : Nat → Prop := Y.2.2.2.2.2
def gk_wr (M : gk_M) (a k : Nat) (v : Int32) : gk_M := (fun b j => if b = a ∧ j = k then v else M.1 b j, M.2)
def gk_wl (M : gk_M) (a : Nat) (v : Int64) : gk_M := (M.1, fun b => if b = a then v else M.2 b)
/-- field kinds of the nine kinds of objects: 0 int, 1 long, 2 boolean, 10 and more: the tag of the cell that it refers to -/
def gk_tab : List (List Nat) := [[100, 0, 0, 0, 0, 0], [0, 0, 0, 0, 0, 0, 0, 0, 0, 0, 1], [16, 101, 100, 100, 100, 100, 100, 0, 0, 0, 0], [16, 103, 100, 100, 0, 0, 0, 0], [100, 100, 100], [0, 0, 0, 0, 0, 2], [102, 0], [12, 12, 13, 10, 14, 100, 0, 2, 0, 0], [100, 100, 100, 100, 100, 100, 100, 100, 100, 100, 100, 100, 100, 100, 100, 100, 100, 100, 100, 100, 100, 100, 100, 2, 0, 0, 100, 100, 0, 100, 100, 100, 0, 0, 100, 100, 0, 100, 100, 100]]
def gk_ft (t k : Nat) : Nat := (gk_tab.getD (t - 10) []).getD k 0
def gk_nf (t : Nat) : Nat := (gk_tab.getD (t - 10) []).length
def gk_el (t : Nat) : Nat := ([0, 11, 15, 12] : List Nat).getD (t - 100) 0
def gk_fv (rf : Nat → Nat → Nat) (M : gk_M) (a f k : Nat) : Value := if f = 1 then .long (M.2 a) else if f < 10 then .int (M.1 a k) else .ref (rf a k)
def gk_fs (rf : Nat → Nat → Nat) (M : gk_M) (a t : Nat) : List Value := (List.range (gk_nf t)).map fun k => gk_fv rf M a (gk_ft t k) k
def gk_ce (Y : gk_Y) (M : gk_M) (a t : Nat) : va_E := if t < 100 then .inr (t - 10, gk_fs (gk_rf Y) M a t) else if t = 100 then .inl (gk_cA Y 100, gk_ln Y a, .inl (M.1 a)) else .inl (gk_cA Y t, gk_ln Y a, .inr (.inr (.inr (.inr (fun j => some (gk_rf Y a j))))))
def gk_ws (Y : gk_Y) (M : gk_M) : va_W := (gk_L Y).map fun q => (q.1, gk_ce Y M q.1 q.2)
def gk_ty (Y : gk_Y) : List (ClassId × FieldType) := [(gk_cA Y 100, .int), (gk_cA Y 101, .object "WishLine$Call"), (gk_cA Y 102, .object "WishLine$Wish"), (gk_cA Y 103, .object "WishLine$House")]
def gk_T (Y : gk_Y) (t a : Nat) : Prop := (a, t) ∈ gk_L Y
def gk_WF (Y : gk_Y) : Prop := (∀ (i j : Nat) (p q : Nat × Nat), (gk_L Y)[i]? = some p → (gk_L Y)[j]? = some q → p.1 = q.1 → i = j) ∧ (∀ q ∈ gk_L Y, gk_A Y q.1) ∧
  (∀ a t k : Nat, gk_T Y t a → t < 100 → k < gk_nf t → 10 ≤ gk_ft t k → gk_T Y (gk_ft t k) (gk_rf Y a k)) ∧ (∀ a t i : Nat, gk_T Y t a → 100 < t → i < gk_ln Y a → gk_T Y (gk_el t) (gk_rf Y a i))
theorem gk_fs_at {rf : Nat → Nat → Nat} {M : gk_M} {a t k : Nat} (hk : k < gk_nf t) : (gk_fs rf M a t)[k]? = some (gk_fv rf M a (gk_ft t k) k) := by
  simp [gk_fs, hk]
theorem gk_ws_at {Y : gk_Y} {M : gk_M} {a t : Nat} (h : gk_T Y t a) : ∃ q0 : Nat, (gk_L Y)[q0]? = some (a, t) ∧ (gk_ws Y M)[q0]? = some (a, gk_ce Y M a t) := by
  obtain ⟨q0, hq⟩ := List.getElem?_of_mem h
  exact ⟨q0, hq, by simp [gk_ws, hq]⟩
theorem gk_WD {Y : gk_Y} {M : gk_M} (hY : gk_WF Y) : va_D (gk_A Y) (gk_ws Y M) := by
  obtain ⟨h1, h2, -, -⟩ := hY
  refine ⟨fun i j p q hp hq he => ?_, fun k q hq => ?_⟩
  · simp only [gk_ws, List.getElem?_map, Option.map_eq_some_iff] at hp hq
    obtain ⟨p', hp', rfl⟩ := hp
    obtain ⟨q', hq', rfl⟩ := hq
    exact h1 i j p' q' hp' hq' he
  · simp only [gk_ws, List.getElem?_map, Option.map_eq_some_iff] at hq
    obtain ⟨q', hq', rfl⟩ := hq
    exact h2 q' (List.mem_of_getElem? hq')
/-- one cell anew -/
theorem gk_ws_set {Y : gk_Y} {M M' : gk_M} (hY : gk_WF Y) {q0 a t : Nat} {e : va_E} (hq : (gk_L Y)[q0]? = some (a, t)) (he : gk_ce Y M' a t = e) (ho : ∀ b u, b ≠ a → gk_ce Y M' b u = gk_ce Y M b u) : (gk_ws Y M).set q0 (a, e) = gk_ws Y M' := by
  apply List.ext_getElem?
  intro i
  rw [List.getElem?_set]
  by_cases hi : q0 = i
  · subst hi
    have hl : q0 < (gk_L Y).length := (List.getElem?_eq_some_iff.mp hq).1
    have hl2 : q0 < (gk_ws Y M).length := by unfold gk_ws; rw [List.length_map]; exact hl
    rw [if_pos rfl, if_pos hl2]
    unfold gk_ws
    rw [List.getElem?_map, hq, ← he]; rfl
  · rw [if_neg hi]
    simp only [gk_ws, List.getElem?_map]
    cases hL : (gk_L Y)[i]? with
    | none => rfl
    | some p =>
      have hne : p.1 ≠ a := fun h => hi (hY.1 q0 i (a, t) p hq hL h.symm)
      simp [ho p.1 p.2 hne]
theorem gk_fs_wr {rf : Nat → Nat → Nat} {M : gk_M} {a t k : Nat} {v : Int32} (h1 : gk_ft t k ≠ 1) (h2 : gk_ft t k < 10) : gk_fs rf (gk_wr M a k v) a t = (gk_fs rf M a t).set k (.int v) := by
  apply List.ext_getElem?
  intro i
  rw [List.getElem?_set]
  by_cases hi : k = i
  · subst hi
    by_cases hk : k < gk_nf t
    · simp [gk_fs, hk, gk_fv, h1, h2, gk_wr]
    · simp [gk_fs, hk]
  · rw [if_neg hi]
    by_cases hk : i < gk_nf t
    · have hik : ¬ i = k := fun h => hi h.symm
      simp [gk_fs, hk, gk_fv, gk_wr, hik]
    · simp [gk_fs, hk]
theorem gk_ce_wr {Y : gk_Y} {M : gk_M} {a k b u : Nat} {v : Int32} (h : b ≠ a) : gk_ce Y (gk_wr M a k v) b u = gk_ce Y M b u := by
  simp [gk_ce, gk_fs, gk_fv, gk_wr, h]
theorem gk_ce_wl {Y : gk_Y} {M : gk_M} {a b u : Nat} {v : Int64} (h : b ≠ a) : gk_ce Y (gk_wl M a v) b u = gk_ce Y M b u := by
  simp [gk_ce, gk_fs, gk_fv, gk_wl, h]
theorem gk_ft11 : ∀ i, i < 11 → (gk_ft 11 i = 1 ↔ i = 10) := by decide +kernel
theorem gk_fs_wl {rf : Nat → Nat → Nat} {M : gk_M} {a : Nat} {v : Int64} : gk_fs rf (gk_wl M a v) a 11 = (gk_fs rf M a 11).set 10 (.long v) := by
  apply List.ext_getElem?
  intro i
  rw [List.getElem?_set]
  have hn : gk_nf 11 = 11 := by decide +kernel
  by_cases hi : 10 = i
  · subst hi
    have h1 : gk_ft 11 10 = 1 := by decide +kernel
    simp [gk_fs, hn, gk_fv, gk_wl, h1]
  · rw [if_neg hi]
    by_cases hk : i < 11
    · have h1 : gk_ft 11 i ≠ 1 := fun h => hi ((gk_ft11 i hk).mp h).symm
      simp [gk_fs, hn, hk, gk_fv, gk_wl, h1]
    · simp [gk_fs, hn, hk]
theorem gk_cls : ∀ (ci : Nat) (C : String) (T : u_T) (N : Nat), vwCl[ci]? = some (C, T, N) → (∀ w ∈ u_ws C T N, w ∈ gk_U) ∧ ∃ ty : Nat → FieldType, (∀ k, k < N → parseFieldDescriptor (T k).2.2.1 = some (ty k)) ∧ ∀ a, a < N → ∀ b, b < N → a ≠ b → (T a).2.1 ≠ (T b).2.1
  | 0, _, _, _, h => by cases (show (RX0, TX0, 6) = _ from Option.some.inj h); exact ⟨inX0, tyX0, tyX0_ok, nmX0⟩
  | 1, _, _, _, h => by cases (show (RX1, TX1, 11) = _ from Option.some.inj h); exact ⟨inX1, tyX1, tyX1_ok, nmX1⟩
  | 2, _, _, _, h => by cases (show (RX2, TX2, 11) = _ from Option.some.inj h); exact ⟨inX2, tyX2, tyX2_ok, nmX2⟩
  | 3, _, _, _, h => by cases (show (RX3, TX3, 8) = _ from Option.some.inj h); exact ⟨inX3, tyX3, tyX3_ok, nmX3⟩
  | 4, _, _, _, h => by cases (show (RX4, TX4, 3) = _ from Option.some.inj h); exact ⟨inX4, tyX4, tyX4_ok, nmX4⟩
  | 5, _, _, _, h => by cases (show (RX5, TX5, 6) = _ from Option.some.inj h); exact ⟨inX5, tyX5, tyX5_ok, nmX5⟩
  | 6, _, _, _, h => by cases (show (RX6, TX6, 2) = _ from Option.some.inj h); exact ⟨inX6, tyX6, tyX6_ok, nmX6⟩
  | 7, _, _, _, h => by cases (show (RX7, TX7, 10) = _ from Option.some.inj h); exact ⟨inX7, tyX7, tyX7_ok, nmX7⟩
  | 8, _, _, _, h => by cases (show (RX8, TX8, 40) = _ from Option.some.inj h); exact ⟨inX8, tyX8, tyX8_ok, nmX8⟩
  | _ + 9, _, _, _, h => by cases h
/-- a field link: in the code of 'own' the pool's entry idx is field k, of kind f, of the objects of tag t -/
def gk_FL (own : String) (idx t k f : Nat) : Prop := ∃ (C : String) (T : u_T) (N : Nat), vwCl[t - 10]? = some (C, T, N) ∧ t < 100 ∧ N = gk_nf t ∧ k < N ∧ gk_ft t k = f ∧ Cond.fieldLink own idx (T k).1 (T k).2.1 (T k).2.2.1 ∈ gk_U
/-- .. that may be written -/
def gk_FP (own : String) (idx t k f : Nat) (ty : FieldType) : Prop := ∃ (C : String) (T : u_T) (N : Nat), vwCl[t - 10]? = some (C, T, N) ∧ t < 100 ∧ N = gk_nf t ∧ k < N ∧ gk_ft t k = f ∧ Cond.fieldLink own idx (T k).1 (T k).2.1 (T k).2.2.1 ∈ gk_U ∧ (T k).2.2.2 = false ∧ parseFieldDescriptor (T k).2.2.1 = some ty
