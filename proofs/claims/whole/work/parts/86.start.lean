/-! The start: tags, lengths and references of the 318 cells that the two constructors make, by their distance from the first -/
def tgl : List Nat := [17, 12, 16, 102, 15, 15, 15, 15, 15, 15, 15, 15, 15, 15, 15, 15, 15, 15, 15, 15, 15, 15, 15, 15, 15, 15, 15, 15, 100, 100, 100, 100, 100, 101, 11, 11, 11, 11, 11, 11, 11, 11, 11, 11, 11, 11, 11, 11, 11, 11, 11, 11, 11, 11, 11, 11, 11, 11, 11, 11, 11, 11, 11, 11, 11, 11, 11, 11, 11, 11, 11, 11, 11, 11, 11, 11, 11, 11, 11, 11, 11, 11, 11, 11, 11, 11, 11, 11, 11, 11, 11, 11, 11, 11, 12, 16, 102, 15, 15, 15, 15, 15, 15, 15, 15, 15, 15, 15, 15, 15, 15, 15, 15, 15, 15, 15, 15, 15, 15, 15, 15, 100, 100, 100, 100, 100, 101, 11, 11, 11, 11, 11, 11, 11, 11, 11, 11, 11, 11, 11, 11, 11, 11, 11, 11, 11, 11, 11, 11, 11, 11, 11, 11, 11, 11, 11, 11, 11, 11, 11, 11, 11, 11, 11, 11, 11, 11, 11, 11, 11, 11, 11, 11, 11, 11, 11, 11, 11, 11, 11, 11, 11, 11, 11, 11, 11, 11, 13, 16, 102, 15, 15, 15, 15, 15, 15, 15, 15, 15, 15, 15, 15, 15, 15, 15, 15, 15, 15, 15, 15, 15, 15, 15, 15, 103, 100, 100, 12, 100, 100, 100, 100, 100, 101, 11, 11, 11, 11, 11, 11, 11, 11, 12, 100, 100, 100, 100, 100, 101, 11, 11, 11, 11, 11, 11, 11, 11, 12, 100, 100, 100, 100, 100, 101, 11, 11, 11, 11, 11, 11, 11, 11, 12, 100, 100, 100, 100, 100, 101, 11, 11, 11, 11, 11, 11, 11, 11, 10, 100, 14, 100, 100, 100, 100, 18, 100, 100, 100, 100, 100, 100, 100, 100, 100, 100, 100, 100, 100, 100, 100, 100, 100, 100, 100, 100, 100, 100, 100, 100, 100, 100, 100, 100, 100, 100, 100, 100, 100]
def lnl : List Nat := [0, 0, 0, 24, 0, 0, 0, 0, 0, 0, 0, 0, 0, 0, 0, 0, 0, 0, 0, 0, 0, 0, 0, 0, 0, 0, 0, 0, 8, 8, 8, 8, 8, 60, 0, 0, 0, 0, 0, 0, 0, 0, 0, 0, 0, 0, 0, 0, 0, 0, 0, 0, 0, 0, 0, 0, 0, 0, 0, 0, 0, 0, 0, 0, 0, 0, 0, 0, 0, 0, 0, 0, 0, 0, 0, 0, 0, 0, 0, 0, 0, 0, 0, 0, 0, 0, 0, 0, 0, 0, 0, 0, 0, 0, 0, 0, 24, 0, 0, 0, 0, 0, 0, 0, 0, 0, 0, 0, 0, 0, 0, 0, 0, 0, 0, 0, 0, 0, 0, 0, 0, 8, 8, 8, 8, 8, 60, 0, 0, 0, 0, 0, 0, 0, 0, 0, 0, 0, 0, 0, 0, 0, 0, 0, 0, 0, 0, 0, 0, 0, 0, 0, 0, 0, 0, 0, 0, 0, 0, 0, 0, 0, 0, 0, 0, 0, 0, 0, 0, 0, 0, 0, 0, 0, 0, 0, 0, 0, 0, 0, 0, 0, 0, 0, 0, 0, 0, 0, 0, 24, 0, 0, 0, 0, 0, 0, 0, 0, 0, 0, 0, 0, 0, 0, 0, 0, 0, 0, 0, 0, 0, 0, 0, 0, 4, 13, 3, 0, 8, 8, 8, 8, 8, 8, 0, 0, 0, 0, 0, 0, 0, 0, 0, 8, 8, 8, 8, 8, 8, 0, 0, 0, 0, 0, 0, 0, 0, 0, 8, 8, 8, 8, 8, 8, 0, 0, 0, 0, 0, 0, 0, 0, 0, 8, 8, 8, 8, 8, 8, 0, 0, 0, 0, 0, 0, 0, 0, 0, 50, 0, 4, 4, 160, 3, 0, 24, 24, 24, 24, 24, 24, 60, 60, 60, 60, 540, 540, 60, 60, 60, 60, 600, 8, 8, 8, 5, 2500, 2500, 8, 8, 14, 3, 3, 24, 50, 4, 4, 160]
def tgo (i : Nat) : Nat := tgl.getD i 0
def lno (i : Nat) : Nat := lnl.getD i 0
def rft (t i k : Nat) : Nat :=
  if t = 17 then ([1, 94, 187, 277, 279, 283] : List Nat).getD k 0
  else if t = 12 then (if i < 187 then ([i + 1, i + 27 + 5, i + 27, i + 28, i + 29, i + 30, i + 31] : List Nat).getD k 0 else ([188, i + 6, i + 1, i + 2, i + 3, i + 4, i + 5] : List Nat).getD k 0)
  else if t = 13 then ([i + 1, i + 27, i + 28, i + 29] : List Nat).getD k 0
  else if t = 103 then i + 3 + 15 * k
  else if t = 18 then (if k ≤ 22 then i + 1 + k else ([0, 0, 0, i + 24, i + 25, 0, i + 26, i + 27, i + 28, 0, 0, i + 29, i + 30, 0, i + 31, i + 32, i + 33] : List Nat).getD (k - 23) 0)
  else i + 1 + k
def rfo (i k : Nat) : Nat := rft (tgo i) i k
def spo (i : Nat) : Nat := if i = 280 then 2 else if i = 28 ∨ i = 29 ∨ i = 121 ∨ i = 122 ∨ i = 218 ∨ i = 219 ∨ i = 233 ∨ i = 234 ∨ i = 248 ∨ i = 249 ∨ i = 263 ∨ i = 264 then 1 else 0
def m0 (i : Nat) : Nat → Int32 := if spo i = 0 then (fun _ => 0) else if spo i = 1 then (fun q => if q < 8 then -1 else 0) else fun q => if q < 4 then -1 else 0
def Y0 (D : va_G) (cA : Nat → ClassId) (x : Nat) : gk_Y := (D, cA, (List.range 318).map (fun i => (x + i, tgo i)), fun a => lno (a - x), fun a k => x + rfo (a - x) k, fun q => x ≤ q)
def M0 (x : Nat) : gk_M := (fun a => m0 (a - x), fun _ => 0)
theorem Y0_T {D : va_G} {cA : Nat → ClassId} {x t a : Nat} : gk_T (Y0 D cA x) t a ↔ ∃ i, i < 318 ∧ a = x + i ∧ t = tgo i := by
  unfold gk_T
  show (a, t) ∈ (List.range 318).map (fun i => (x + i, tgo i)) ↔ _
  rw [List.mem_map]
  constructor
  · rintro ⟨i, hi, he⟩
    cases he
    exact ⟨i, List.mem_range.mp hi, rfl, rfl⟩
  · rintro ⟨i, hi, rfl, rfl⟩
    exact ⟨i, List.mem_range.mpr hi, rfl⟩
theorem Y0_rf {D : va_G} {cA : Nat → ClassId} {x i k : Nat} : gk_rf (Y0 D cA x) (x + i) k = x + rfo i k := by
  show x + rfo (x + i - x) k = _
  rw [Nat.add_sub_cancel_left]
theorem Y0_ln {D : va_G} {cA : Nat → ClassId} {x i : Nat} : gk_ln (Y0 D cA x) (x + i) = lno i := by
  show lno (x + i - x) = _
  rw [Nat.add_sub_cancel_left]
theorem M0_at {x i : Nat} : (M0 x).1 (x + i) = m0 i := by
  show m0 (x + i - x) = _
  rw [Nat.add_sub_cancel_left]
theorem Y0_f : ∀ i, i < 318 → tgo i < 100 → ∀ k, k < gk_nf (tgo i) → 10 ≤ gk_ft (tgo i) k → rfo i k < 318 ∧ tgo (rfo i k) = gk_ft (tgo i) k := by decide +kernel
theorem Y0_r : ∀ i, i < 318 → 100 < tgo i → ∀ k, k < lno i → rfo i k < 318 ∧ tgo (rfo i k) = gk_el (tgo i) := by decide +kernel
theorem Y0_WF {D : va_G} {cA : Nat → ClassId} {x : Nat} : gk_WF (Y0 D cA x) := by
  refine ⟨fun i j p q hp hq he => ?_, fun q hq => ?_, fun a t k hT ht hk hf => ?_, fun a t i hT ht hi => ?_⟩
  · change ((List.range 318).map (fun i => (x + i, tgo i)))[i]? = some p at hp
    change ((List.range 318).map (fun i => (x + i, tgo i)))[j]? = some q at hq
    rw [List.getElem?_map, Option.map_eq_some_iff] at hp hq
    obtain ⟨p', hp', rfl⟩ := hp
    obtain ⟨q', hq', rfl⟩ := hq
    obtain ⟨h1, rfl⟩ := List.getElem?_eq_some_iff.mp hp'
    obtain ⟨h2, rfl⟩ := List.getElem?_eq_some_iff.mp hq'
    simp only [List.getElem_range] at he
    omega
  · obtain ⟨i, -, h, -⟩ := Y0_T.mp (show gk_T (Y0 D cA x) q.2 q.1 from hq)
    show x ≤ q.1
    omega
  · obtain ⟨i, hi, rfl, rfl⟩ := Y0_T.mp hT
    rw [Y0_rf]
    have h := Y0_f i hi ht k hk hf
    exact Y0_T.mpr ⟨_, h.1, rfl, h.2.symm⟩
  · obtain ⟨j, hj, rfl, rfl⟩ := Y0_T.mp hT
    rw [Y0_ln] at hi
    rw [Y0_rf]
    have h := Y0_r j hj ht i hi
    exact Y0_T.mpr ⟨_, h.1, rfl, h.2.symm⟩
def ceo (cA : Nat → ClassId) (x i t : Nat) : va_E := if t < 100 then .inr (t - 10, (List.range (gk_nf t)).map fun k => if gk_ft t k = 1 then .long 0 else if gk_ft t k < 10 then .int (m0 i k) else .ref (x + rft t i k)) else if t = 100 then .inl (cA 100, lno i, .inl (m0 i)) else .inl (cA t, lno i, .inr (.inr (.inr (.inr (fun j => some (x + rft t i j))))))
theorem ce_off {D : va_G} {cA : Nat → ClassId} {x i : Nat} : gk_ce (Y0 D cA x) (M0 x) (x + i) (tgo i) = ceo cA x i (tgo i) := by
  unfold gk_ce ceo gk_fs gk_fv
  simp only [Y0_rf, Y0_ln, M0_at, rfo]
  rfl
def Sim (e e' : va_E) : Prop := e = e' ∨ ∃ (c : ClassId) (n : Nat) (f g : Nat → Option Nat), e = .inl (c, n, .inr (.inr (.inr (.inr f)))) ∧ e' = .inl (c, n, .inr (.inr (.inr (.inr g)))) ∧ ∀ q, q < n → f q = g q
theorem Sim.at {D : va_G} {a : Nat} {e e' : va_E} {H : Heap} (h : Sim e e') (g : va_at D vwCl (a, e) H) : va_at D vwCl (a, e') H := by
  rcases h with rfl | ⟨c, n, f, f', rfl, rfl, hf⟩
  · exact g
  · have h1 : H[a]? = some (vp_cell c (n, .inr (.inr (.inr (.inr f))))) := g
    show H[a]? = some (vp_cell c (n, .inr (.inr (.inr (.inr f')))))
    rw [h1, vp_cell_q, vp_cell_q]
    congr 1
    unfold arrV
    congr 1
    congr 1
    funext j
    show va_rf (f j.val) = va_rf (f' j.val)
    rw [hf j.val j.isLt]
def SB2 (F : Nat → va_E) (s : Nat) (L : List va_E) : Prop := ∀ i e, L[i]? = some e → Sim e (F (s + i))
theorem SB2.nil {F : Nat → va_E} {s : Nat} : SB2 F s [] := fun i e h => by cases h
theorem SB2.cons {F : Nat → va_E} {s s' : Nat} {e : va_E} {L : List va_E} (h : Sim e (F s)) (hs : s + 1 = s') (g : SB2 F s' L) : SB2 F s (e :: L) := by
  subst hs
  intro i e' hi
  cases i with
  | zero => cases hi; exact h
  | succ i => rw [show s + (i + 1) = s + 1 + i by omega]; exact g i e' hi
theorem SB2.app {F : Nat → va_E} {s s' : Nat} {A B : List va_E} (h : SB2 F s A) (hs : s + A.length = s') (g : SB2 F s' B) : SB2 F s (A ++ B) := by
  subst hs
  intro i e hi
  by_cases hl : i < A.length
  · rw [List.getElem?_append_left hl] at hi; exact h i e hi
  · rw [List.getElem?_append_right (by omega)] at hi
    have := g (i - A.length) e hi
    rw [show s + A.length + (i - A.length) = s + i by omega] at this
    exact this
theorem SB2.rep {F : Nat → va_E} {s n : Nat} {e : va_E} (h : ∀ i, i < n → e = F (s + i)) : SB2 F s (List.replicate n e) := by
  intro i e' hi
  rw [List.getElem?_replicate] at hi
  split at hi
  · rename_i hl
    cases hi
    exact Or.inl (h i hl)
  · cases hi
abbrev FF (cA : Nat → ClassId) (x : Nat) : Nat → va_E := fun i => ceo cA x i (tgo i)
theorem m0_z {i : Nat} (h : spo i = 0) : m0 i = fun _ => 0 := by unfold m0; rw [if_pos h]
theorem FF_w {cA : Nat → ClassId} {x i : Nat} (h : tgo i = 15) (h2 : spo i = 0) : (.inr (5, zF5) : va_E) = FF cA x i := by
  show _ = ceo cA x i (tgo i)
  rw [h]; unfold ceo; rw [m0_z h2]; rfl
theorem FF_c {cA : Nat → ClassId} {x i : Nat} (h : tgo i = 11) (h2 : spo i = 0) : (.inr (1, zF1) : va_E) = FF cA x i := by
  show _ = ceo cA x i (tgo i)
  rw [h]; unfold ceo; rw [m0_z h2]; rfl
theorem FF_q {cA : Nat → ClassId} {x i t n b s : Nat} (ht : tgo i = t) (h : ¬ t < 100) (h1 : ¬ t = 100) (hn : lno i = n) (hr : ∀ q, q < n → b + s * q = x + rft t i q) : Sim (qR cA t n n b s) (FF cA x i) := by
  refine Or.inr ⟨cA t, n, _, fun j => some (x + rft t i j), rfl, ?_, fun q hq => ?_⟩
  · show ceo cA x i (tgo i) = _
    rw [ht]; unfold ceo; rw [if_neg h, if_neg h1, hn]
  · show (if q < n then some (b + s * q) else none) = _
    rw [if_pos hq, hr q hq]
theorem FF_i {cA : Nat → ClassId} {x i n : Nat} {f : Nat → Int32} (ht : tgo i = 100) (hn : lno i = n) (hf : m0 i = f) : Sim (.inl (cA 100, n, .inl f)) (FF cA x i) := by
  refine Or.inl ?_
  show _ = ceo cA x i (tgo i)
  rw [ht]; unfold ceo; rw [if_neg (by decide), if_pos rfl, hn, hf]
theorem FF_o {cA : Nat → ClassId} {x i t : Nat} {fs : List Value} (ht : tgo i = t) (h : t < 100) (hz : spo i = 0) (hf : fs = (List.range (gk_nf t)).map fun k => if gk_ft t k = 1 then .long 0 else if gk_ft t k < 10 then .int 0 else .ref (x + rft t i k)) : Sim (.inr (t - 10, fs)) (FF cA x i) := by
  refine Or.inl ?_
  show _ = ceo cA x i (tgo i)
  rw [ht]; unfold ceo; rw [if_pos h, m0_z hz, hf]
theorem k_b1 {cA : Nat → ClassId} {x : Nat} : SB2 (FF cA x) 2 (bookB cA (x + 2)) := by
  refine .cons (FF_o (t := 16) rfl (by decide) rfl rfl) rfl (.cons (FF_q (t := 102) rfl (by decide) (by decide) rfl (fun q _ => ?_)) rfl (.rep fun i hi => FF_w ((by decide +kernel : ∀ i, i < 24 → tgo (4 + i) = 15) i hi) ((by decide +kernel : ∀ i, i < 24 → spo (4 + i) = 0) i hi)))
  show _ = x + (3 + 1 + q)
  omega
theorem k_h1 {cA : Nat → ClassId} {x : Nat} : SB2 (FF cA x) 28 (houseL cA (x + 28) 60) := by
  refine .app (A := [mI cA 8 8, mI cA 8 8, zI cA 8, zI cA 8, zI cA 8, qR cA 101 60 60 (x + 28 + 6) 1]) (.cons (FF_i rfl rfl rfl) rfl (.cons (FF_i rfl rfl rfl) rfl (.cons (FF_i rfl rfl rfl) rfl (.cons (FF_i rfl rfl rfl) rfl (.cons (FF_i rfl rfl rfl) rfl (.cons (FF_q (t := 101) rfl (by decide) (by decide) rfl (fun q _ => ?_)) rfl .nil)))))) rfl (.rep fun i hi => FF_c ((by decide +kernel : ∀ i, i < 60 → tgo (34 + i) = 11) i hi) ((by decide +kernel : ∀ i, i < 60 → spo (34 + i) = 0) i hi))
  show _ = x + (33 + 1 + q)
  omega
theorem k_b2 {cA : Nat → ClassId} {x : Nat} : SB2 (FF cA x) 95 (bookB cA (x + 95)) := by
  refine .cons (FF_o (t := 16) rfl (by decide) rfl rfl) rfl (.cons (FF_q (t := 102) rfl (by decide) (by decide) rfl (fun q _ => ?_)) rfl (.rep fun i hi => FF_w ((by decide +kernel : ∀ i, i < 24 → tgo (97 + i) = 15) i hi) ((by decide +kernel : ∀ i, i < 24 → spo (97 + i) = 0) i hi)))
  show _ = x + (96 + 1 + q)
  omega
theorem k_h2 {cA : Nat → ClassId} {x : Nat} : SB2 (FF cA x) 121 (houseL cA (x + 121) 60) := by
  refine .app (A := [mI cA 8 8, mI cA 8 8, zI cA 8, zI cA 8, zI cA 8, qR cA 101 60 60 (x + 121 + 6) 1]) (.cons (FF_i rfl rfl rfl) rfl (.cons (FF_i rfl rfl rfl) rfl (.cons (FF_i rfl rfl rfl) rfl (.cons (FF_i rfl rfl rfl) rfl (.cons (FF_i rfl rfl rfl) rfl (.cons (FF_q (t := 101) rfl (by decide) (by decide) rfl (fun q _ => ?_)) rfl .nil)))))) rfl (.rep fun i hi => FF_c ((by decide +kernel : ∀ i, i < 60 → tgo (127 + i) = 11) i hi) ((by decide +kernel : ∀ i, i < 60 → spo (127 + i) = 0) i hi))
  show _ = x + (126 + 1 + q)
  omega
theorem k_b3 {cA : Nat → ClassId} {x : Nat} : SB2 (FF cA x) 188 (bookB cA (x + 188)) := by
  refine .cons (FF_o (t := 16) rfl (by decide) rfl rfl) rfl (.cons (FF_q (t := 102) rfl (by decide) (by decide) rfl (fun q _ => ?_)) rfl (.rep fun i hi => FF_w ((by decide +kernel : ∀ i, i < 24 → tgo (190 + i) = 15) i hi) ((by decide +kernel : ∀ i, i < 24 → spo (190 + i) = 0) i hi)))
  show _ = x + (189 + 1 + q)
  omega
theorem k_t0 {cA : Nat → ClassId} {x : Nat} : SB2 (FF cA x) 218 (houseL cA (x + 218) 8) := by
  refine .app (A := [mI cA 8 8, mI cA 8 8, zI cA 8, zI cA 8, zI cA 8, qR cA 101 8 8 (x + 218 + 6) 1]) (.cons (FF_i rfl rfl rfl) rfl (.cons (FF_i rfl rfl rfl) rfl (.cons (FF_i rfl rfl rfl) rfl (.cons (FF_i rfl rfl rfl) rfl (.cons (FF_i rfl rfl rfl) rfl (.cons (FF_q (t := 101) rfl (by decide) (by decide) rfl (fun q _ => ?_)) rfl .nil)))))) rfl (.rep fun i hi => FF_c ((by decide +kernel : ∀ i, i < 8 → tgo (224 + i) = 11) i hi) ((by decide +kernel : ∀ i, i < 8 → spo (224 + i) = 0) i hi))
  show _ = x + (223 + 1 + q)
  omega
theorem k_t1 {cA : Nat → ClassId} {x : Nat} : SB2 (FF cA x) 233 (houseL cA (x + 233) 8) := by
  refine .app (A := [mI cA 8 8, mI cA 8 8, zI cA 8, zI cA 8, zI cA 8, qR cA 101 8 8 (x + 233 + 6) 1]) (.cons (FF_i rfl rfl rfl) rfl (.cons (FF_i rfl rfl rfl) rfl (.cons (FF_i rfl rfl rfl) rfl (.cons (FF_i rfl rfl rfl) rfl (.cons (FF_i rfl rfl rfl) rfl (.cons (FF_q (t := 101) rfl (by decide) (by decide) rfl (fun q _ => ?_)) rfl .nil)))))) rfl (.rep fun i hi => FF_c ((by decide +kernel : ∀ i, i < 8 → tgo (239 + i) = 11) i hi) ((by decide +kernel : ∀ i, i < 8 → spo (239 + i) = 0) i hi))
  show _ = x + (238 + 1 + q)
  omega
theorem k_t2 {cA : Nat → ClassId} {x : Nat} : SB2 (FF cA x) 248 (houseL cA (x + 248) 8) := by
  refine .app (A := [mI cA 8 8, mI cA 8 8, zI cA 8, zI cA 8, zI cA 8, qR cA 101 8 8 (x + 248 + 6) 1]) (.cons (FF_i rfl rfl rfl) rfl (.cons (FF_i rfl rfl rfl) rfl (.cons (FF_i rfl rfl rfl) rfl (.cons (FF_i rfl rfl rfl) rfl (.cons (FF_i rfl rfl rfl) rfl (.cons (FF_q (t := 101) rfl (by decide) (by decide) rfl (fun q _ => ?_)) rfl .nil)))))) rfl (.rep fun i hi => FF_c ((by decide +kernel : ∀ i, i < 8 → tgo (254 + i) = 11) i hi) ((by decide +kernel : ∀ i, i < 8 → spo (254 + i) = 0) i hi))
  show _ = x + (253 + 1 + q)
  omega
theorem k_t3 {cA : Nat → ClassId} {x : Nat} : SB2 (FF cA x) 263 (houseL cA (x + 263) 8) := by
  refine .app (A := [mI cA 8 8, mI cA 8 8, zI cA 8, zI cA 8, zI cA 8, qR cA 101 8 8 (x + 263 + 6) 1]) (.cons (FF_i rfl rfl rfl) rfl (.cons (FF_i rfl rfl rfl) rfl (.cons (FF_i rfl rfl rfl) rfl (.cons (FF_i rfl rfl rfl) rfl (.cons (FF_i rfl rfl rfl) rfl (.cons (FF_q (t := 101) rfl (by decide) (by decide) rfl (fun q _ => ?_)) rfl .nil)))))) rfl (.rep fun i hi => FF_c ((by decide +kernel : ∀ i, i < 8 → tgo (269 + i) = 11) i hi) ((by decide +kernel : ∀ i, i < 8 → spo (269 + i) = 0) i hi))
  show _ = x + (268 + 1 + q)
  omega
theorem k_hB1 {cA : Nat → ClassId} {x : Nat} : SB2 (FF cA x) 1 (houseB cA (x + 1)) := .cons (FF_o (t := 12) rfl (by decide) rfl rfl) rfl (.app k_b1 rfl k_h1)
theorem k_hB2 {cA : Nat → ClassId} {x : Nat} : SB2 (FF cA x) 94 (houseB cA (x + 1 + 93)) := .cons (FF_o (t := 12) rfl (by decide) rfl rfl) rfl (.app k_b2 rfl k_h2)
theorem k_hs {cA : Nat → ClassId} {x : Nat} : SB2 (FF cA x) 217 (housesL cA (x + 188) 4) :=
  .app (.app (.app (.app .nil rfl (.cons (FF_o (t := 12) rfl (by decide) rfl rfl) rfl k_t0)) rfl (.cons (FF_o (t := 12) rfl (by decide) rfl rfl) rfl k_t1)) rfl (.cons (FF_o (t := 12) rfl (by decide) rfl rfl) rfl k_t2)) rfl (.cons (FF_o (t := 12) rfl (by decide) rfl rfl) rfl k_t3)
theorem k_j {cA : Nat → ClassId} {x : Nat} : SB2 (FF cA x) 188 (judgeL cA (x + 188)) := by
  refine .app (.app k_b3 rfl (.cons (FF_q (t := 103) rfl (by decide) (by decide) rfl (fun q _ => ?_)) rfl (.cons (FF_i rfl rfl rfl) rfl (.cons (FF_i rfl rfl rfl) rfl .nil)))) rfl k_hs
  show _ = x + (214 + 3 + 15 * q)
  omega
theorem sheetsL_len {cA : Nat → ClassId} : (sheetsL cA).length = 3 := rfl
theorem k_line {cA : Nat → ClassId} {x : Nat} : SB2 (FF cA x) 1 (lineL cA (x + 1)) := by
  unfold lineL
  refine .app (s' := 283) ?_ (by simp only [List.length_append, List.length_cons, List.length_nil, houseB_len, judgeL_len, sheetsL_len]) (.cons (FF_i rfl rfl rfl) rfl .nil)
  refine .app (s' := 279) ?_ (by simp only [List.length_append, List.length_cons, List.length_nil, houseB_len, judgeL_len, sheetsL_len]) (.cons (FF_o (t := 14) rfl (by decide) rfl ?_) rfl (.cons (FF_i rfl rfl rfl) rfl (.cons (FF_i rfl rfl rfl) rfl (.cons (FF_i rfl rfl rfl) rfl .nil))))
  · refine .app (s' := 277) ?_ (by simp only [List.length_append, List.length_cons, List.length_nil, houseB_len, judgeL_len, sheetsL_len]) (.cons (FF_o (t := 10) rfl (by decide) rfl ?_) rfl (.cons (FF_i rfl rfl rfl) rfl .nil))
    · refine .app (s' := 187) (.app (s' := 94) k_hB1 (by simp only [List.length_append, List.length_cons, List.length_nil, houseB_len, judgeL_len, sheetsL_len]) k_hB2) (by simp only [List.length_append, List.length_cons, List.length_nil, houseB_len, judgeL_len, sheetsL_len]) (.cons (FF_o (t := 13) rfl (by decide) rfl rfl) rfl k_j)
    · show _ = ([.ref (x + 278), .int 0, .int 0, .int 0, .int 0, .int 0] : List Value)
      rw [show x + 1 + 277 = x + 278 by omega]
  · show _ = ([.ref (x + 280), .ref (x + 281), .ref (x + 282)] : List Value)
    rw [show x + 1 + 279 = x + 280 by omega, show x + 1 + 280 = x + 281 by omega, show x + 1 + 281 = x + 282 by omega]
theorem k_line0 {cA : Nat → ClassId} {x : Nat} : Sim (lineO (x + 1)) (FF cA x 0) := FF_o (t := 17) rfl (by decide) rfl rfl
theorem k_mod0 {cA : Nat → ClassId} {x : Nat} : Sim (modelO (x + 285)) (FF cA x 284) := FF_o (t := 18) rfl (by decide) rfl rfl
theorem k_mod {cA : Nat → ClassId} {x : Nat} : SB2 (FF cA x) 285 (modelL cA) := .cons (FF_i rfl rfl rfl) rfl (.cons (FF_i rfl rfl rfl) rfl (.cons (FF_i rfl rfl rfl) rfl (.cons (FF_i rfl rfl rfl) rfl (.cons (FF_i rfl rfl rfl) rfl (.cons (FF_i rfl rfl rfl) rfl (.cons (FF_i rfl rfl rfl) rfl (.cons (FF_i rfl rfl rfl) rfl (.cons (FF_i rfl rfl rfl) rfl (.cons (FF_i rfl rfl rfl) rfl (.cons (FF_i rfl rfl rfl) rfl (.cons (FF_i rfl rfl rfl) rfl (.cons (FF_i rfl rfl rfl) rfl (.cons (FF_i rfl rfl rfl) rfl (.cons (FF_i rfl rfl rfl) rfl (.cons (FF_i rfl rfl rfl) rfl (.cons (FF_i rfl rfl rfl) rfl (.cons (FF_i rfl rfl rfl) rfl (.cons (FF_i rfl rfl rfl) rfl (.cons (FF_i rfl rfl rfl) rfl (.cons (FF_i rfl rfl rfl) rfl (.cons (FF_i rfl rfl rfl) rfl (.cons (FF_i rfl rfl rfl) rfl (.cons (FF_i rfl rfl rfl) rfl (.cons (FF_i rfl rfl rfl) rfl (.cons (FF_i rfl rfl rfl) rfl (.cons (FF_i rfl rfl rfl) rfl (.cons (FF_i rfl rfl rfl) rfl (.cons (FF_i rfl rfl rfl) rfl (.cons (FF_i rfl rfl rfl) rfl (.cons (FF_i rfl rfl rfl) rfl (.cons (FF_i rfl rfl rfl) rfl (.cons (FF_i rfl rfl rfl) rfl .nil))))))))))))))))))))))))))))))))
