/-! Constructors' worlds as lists: one cell at o, the others from h on -/
def dL (o h : Nat) (e0 : va_E) (L : List va_E) : Nat → va_E := fun a => if a = o then e0 else L.getD (a - h) e0
abbrev dl (Z : dj_Z) (D : va_G) (cA : Nat → ClassId) (nL pc : Nat) (lv : List (Nat × Value)) (st : List Value) (o h : Nat) (e0 : va_E) (L : List va_E) (n cells slots : Nat) : Prop := dj Z (D, cA, dA o h) nL pc lv st (dL o h e0 L) (o :: dR n h) (h + n) cells slots
def dB (ci : Nat) (C : String) (T : u_T) (N : Nat) (ty : Nat → FieldType) : Prop := vwCl[ci]? = some (C, T, N) ∧ (∀ w ∈ u_ws C T N, w ∈ gk_U) ∧ (∀ k, k < N → parseFieldDescriptor (T k).2.2.1 = some (ty k)) ∧ ∀ a, a < N → ∀ b, b < N → a ≠ b → (T a).2.1 ≠ (T b).2.1
theorem bX0 : dB 0 RX0 TX0 6 tyX0 := ⟨rfl, inX0, tyX0_ok, nmX0⟩
theorem bX1 : dB 1 RX1 TX1 11 tyX1 := ⟨rfl, inX1, tyX1_ok, nmX1⟩
theorem bX2 : dB 2 RX2 TX2 11 tyX2 := ⟨rfl, inX2, tyX2_ok, nmX2⟩
theorem bX3 : dB 3 RX3 TX3 8 tyX3 := ⟨rfl, inX3, tyX3_ok, nmX3⟩
theorem bX4 : dB 4 RX4 TX4 3 tyX4 := ⟨rfl, inX4, tyX4_ok, nmX4⟩
theorem bX5 : dB 5 RX5 TX5 6 tyX5 := ⟨rfl, inX5, tyX5_ok, nmX5⟩
theorem bX6 : dB 6 RX6 TX6 2 tyX6 := ⟨rfl, inX6, tyX6_ok, nmX6⟩
theorem bX7 : dB 7 RX7 TX7 10 tyX7 := ⟨rfl, inX7, tyX7_ok, nmX7⟩
theorem bX8 : dB 8 RX8 TX8 40 tyX8 := ⟨rfl, inX8, tyX8_ok, nmX8⟩
theorem dfs_of {N : Nat} {ty : Nat → FieldType} {fs : List Value} (h : (List.range N).map (fun j => defaultValue (ty j)) = fs) : ∀ j, j < N → defaultValue (ty j) = vp_V fs j := by
  intro j hj
  subst h
  simp [vp_V, hj]
theorem dR_add (n k h : Nat) : dR (n + k) h = dR n h ++ dR k (h + n) := by
  induction k with
  | zero => rw [show dR 0 (h + n) = [] from rfl, List.append_nil]; rfl
  | succ k ih => rw [← Nat.add_assoc, dR_s, ih, dR_s, List.append_assoc, Nat.add_assoc]
theorem dl_ok {o h : Nat} (ho : o < h) (n : Nat) : dOK (dA o h) (o :: dR n h) (h + n) := by
  have hO : dOK (dA o h) [o] h := by
    refine ⟨fun i j a hi hj => ?_, fun a ha => ?_⟩
    · have h1 : i < 1 := (List.getElem?_eq_some_iff.mp hi).1
      have h2 : j < 1 := (List.getElem?_eq_some_iff.mp hj).1
      omega
    · rw [List.mem_singleton.mp ha]; exact ⟨ho, Or.inl rfl⟩
  exact hO.app (fun q hq => Or.inr hq) n
theorem dL_o {o h : Nat} {e0 : va_E} {L : List va_E} : dL o h e0 L o = e0 := by simp [dL]
theorem dL_i {o h i : Nat} {e0 e : va_E} {L : List va_E} (ho : o < h) (hi : L[i]? = some e) : dL o h e0 L (h + i) = e := by
  unfold dL
  rw [if_neg (by omega), show h + i - h = i by omega, List.getD_eq_getElem?_getD, hi]
  rfl
theorem dL_mem {n h i : Nat} (o : Nat) (hi : i < n) : h + i ∈ o :: dR n h := List.mem_cons_of_mem _ (dR_mem.mpr ⟨by omega, by omega⟩)
section DL
variable {Z : dj_Z} {D : va_G} {cA : Nat → ClassId} {cc : ByteArray} {nL d mc ms pc q : Nat} {own : String} {lv lv' : List (Nat × Value)} {st : List Value} {o h n : Nat} {e0 : va_E} {L L' : List va_E} {cells slots : Nat}
theorem dj_cg {X : dj_X} {E E' : Nat → va_E} {as : List Nat} {h : Nat} (hE : ∀ a ∈ as, E a = E' a) (g : dj Z X nL pc lv st E' as h cells slots) : dj Z X nL pc lv st E as h cells slots := by
  obtain ⟨p, l, e, R, s, m, args, below, meth, c, Q⟩ := Z
  intro ls H locs hl hP hz hS
  refine g ls H locs hl ?_ hz hS
  have : dW E as = dW E' as := List.map_congr_left (fun a ha => by rw [hE a ha])
  rw [← this]; exact hP
theorem dL_push {e : va_E} (ho : o < h) (hn : L.length = n) : ∀ a ∈ o :: dR (n + 1) h, dU (dL o h e0 L) (h + n) e a = dL o h e0 (L ++ [e]) a := by
  intro a ha
  unfold dU dL
  rcases List.mem_cons.mp ha with g | g
  · subst g
    rw [if_neg (by omega), if_pos rfl, if_pos rfl]
  · have := dR_mem.mp g
    rw [if_neg (by omega : ¬ a = o)]
    by_cases hq : a = h + n
    · subst hq
      rw [if_pos rfl, if_neg (by omega), List.getD_eq_getElem?_getD, show h + n - h = L.length by omega]
      simp
    · rw [if_neg hq, if_neg (by omega), List.getD_eq_getElem?_getD, List.getD_eq_getElem?_getD, List.getElem?_append_left (by omega)]
theorem dL_put {e : va_E} (ho : o < h) (hn : L.length = n) : ∀ a ∈ o :: dR n h, dU (dL o h e0 L) o e a = dL o h e L a := by
  intro a ha
  unfold dU dL
  rcases List.mem_cons.mp ha with g | g
  · subst g; rw [if_pos rfl, if_pos rfl]
  · have := dR_mem.mp g
    rw [if_neg (by omega : ¬ a = o), if_neg (by omega), if_neg (by omega), List.getD_eq_getElem?_getD, List.getD_eq_getElem?_getD, List.getElem?_eq_getElem (by omega)]
    rfl
theorem dL_set {e : va_E} {i : Nat} (ho : o < h) (hn : L.length = n) (hi : i < n) : ∀ a ∈ o :: dR n h, dU (dL o h e0 L) (h + i) e a = dL o h e0 (L.set i e) a := by
  intro a ha
  unfold dU dL
  rcases List.mem_cons.mp ha with g | g
  · subst g; rw [if_neg (by omega), if_pos rfl, if_pos rfl]
  · have := dR_mem.mp g
    rw [if_neg (by omega : ¬ a = o), if_neg (by omega : ¬ a = o), List.getD_eq_getElem?_getD, List.getD_eq_getElem?_getD, List.getElem?_set]
    by_cases hq : a = h + i
    · subst hq
      rw [if_pos rfl, if_pos (by omega), if_pos (by omega)]
      rfl
    · rw [if_neg hq, if_neg (by omega)]
theorem dL_call {e1 : va_E} {i k : Nat} {L1 : List va_E} (ho : o < h) (hn : L.length = n) (hi : i < n) (hk : L1.length = k) : ∀ a ∈ o :: dR (n + k) h, dJ (dL o h e0 L) (dL (h + i) (h + n) e1 L1) (h + i) (h + n) a = dL o h e0 (L.set i e1 ++ L1) a := by
  intro a ha
  unfold dJ dL
  rcases List.mem_cons.mp ha with g | g
  · subst g; rw [if_neg (by omega), if_pos rfl, if_pos rfl]
  · have := dR_mem.mp g
    rw [if_neg (by omega : ¬ a = o)]
    by_cases h1 : a = h + i
    · subst h1
      rw [if_pos (Or.inl rfl), if_pos rfl, if_neg (by omega), List.getD_eq_getElem?_getD, show h + i - h = i by omega, List.getElem?_append_left (by rw [List.length_set]; omega), List.getElem?_set, if_pos rfl, if_pos (by omega)]
      rfl
    · by_cases h2 : h + n ≤ a
      · rw [if_pos (Or.inr h2), if_neg h1, if_neg (by omega), List.getD_eq_getElem?_getD, List.getD_eq_getElem?_getD, List.getElem?_append_right (by rw [List.length_set]; omega), List.length_set, show a - h - L.length = a - (h + n) by omega, List.getElem?_eq_getElem (by omega)]
        rfl
      · rw [if_neg (by omega), if_neg (by omega), List.getD_eq_getElem?_getD, List.getD_eq_getElem?_getD, List.getElem?_append_left (by rw [List.length_set]; omega), List.getElem?_set, if_neg (by omega)]
theorem dl_new (hC : djC Z (D, cA, dA o h) cc nL own d mc ms) (ho : o < h) (hn0 : L.length = n) {idx ci N : Nat} {C : String} {T : u_T} {ty : Nat → FieldType} (hB : dB ci C T N ty) (hw : Cond.classLink own idx C ∈ gk_U) (hi : Cond.instantiable C N ∈ gk_U) (hin : Cond.initialized C ∈ gk_U) {fs : List Value} (hfs : (List.range N).map (fun j => defaultValue (ty j)) = fs)
    (hd : decode cc pc = .ok (.new idx, 3)) (hc1 : cells + 1 ≤ mc) (hc2 : slots + N ≤ ms) (hq : pc + 3 = q) (hL : L ++ [.inr (ci, fs)] = L') (g : L'.length = n + 1 → dl Z D cA nL q lv (.ref (h + n) :: st) o h e0 L' (n + 1) (cells + 1) (slots + N)) : dl Z D cA nL pc lv st o h e0 L n cells slots := by
  subst hL
  refine dj_new hC (dl_ok ho n) hw hi hin hB.1 hB.2.1 ty hB.2.2.1 (dfs_of hfs) hd hc1 hc2 hq fun _ => ?_
  rw [show (o :: dR n h) ++ [h + n] = o :: dR (n + 1) h by rw [dR_s]; rfl]
  exact dj_cg (dL_push ho hn0) (g (by rw [List.length_append, hn0]; rfl))
theorem dl_newa (hC : djC Z (D, cA, dA o h) cc nL own d mc ms) (ho : o < h) (hn0 : L.length = n) (harr : Cond.arrayClass .int ∈ gk_U) {N : Nat} {v : Int32} (hv : v = nI N) (hN : N < 100000) (hd : decode cc pc = .ok (.newarray .int, 2)) (hc1 : cells + 1 ≤ mc) (hc2 : slots + N ≤ ms) (hq : pc + 2 = q) (hL : L ++ [.inl (cA 100, N, .inl (fun _ => 0))] = L') (g : L'.length = n + 1 → dl Z D cA nL q lv (.ref (h + n) :: st) o h e0 L' (n + 1) (cells + 1) (slots + N)) : dl Z D cA nL pc lv (.int v :: st) o h e0 L n cells slots := by
  subst hL
  refine dj_newa hC (dl_ok ho n) harr hv hN hd hc1 hc2 hq fun _ => ?_
  rw [show (o :: dR n h) ++ [h + n] = o :: dR (n + 1) h by rw [dR_s]; rfl]
  exact dj_cg (dL_push ho hn0) (g (by rw [List.length_append, hn0]; rfl))
theorem dl_newq (hC : djC Z (D, cA, dA o h) cc nL own d mc ms) (ho : o < h) (hn0 : L.length = n) {idx t0 tg : Nat} {C : String} (hw : Cond.classLink own idx C ∈ gk_U) (hover : ∀ U, dX U → va_AO C U) (ht : (dT cA)[t0]? = some (cA tg, .object C)) {N : Nat} {v : Int32} (hv : v = nI N) (hN : N < 100000) (hd : decode cc pc = .ok (.anewarray idx, 3)) (hc1 : cells + 1 ≤ mc) (hc2 : slots + N ≤ ms) (hq : pc + 3 = q) (hL : L ++ [.inl (cA tg, N, .inr (.inr (.inr (.inr (fun _ => none)))))] = L') (g : L'.length = n + 1 → dl Z D cA nL q lv (.ref (h + n) :: st) o h e0 L' (n + 1) (cells + 1) (slots + N)) : dl Z D cA nL pc lv (.int v :: st) o h e0 L n cells slots := by
  subst hL
  refine dj_newq hC (dl_ok ho n) hw hover (tg := tg) (t0 := t0) ht hv hN hd hc1 hc2 hq fun _ => ?_
  rw [show (o :: dR n h) ++ [h + n] = o :: dR (n + 1) h by rw [dR_s]; rfl]
  exact dj_cg (dL_push ho hn0) (g (by rw [List.length_append, hn0]; rfl))
theorem dl_putF (hC : djC Z (D, cA, dA o h) cc nL own d mc ms) (hN : djN Z) (ho : o < h) (hn0 : L.length = n) {idx ci N : Nat} {C : String} {T : u_T} {tt : Nat → FieldType} {v : Value} {fs fs' : List Value} (hB : dB ci C T N tt) (k : Nat) (hk : k < N) (hlink : Cond.fieldLink own idx (T k).1 (T k).2.1 (T k).2.2.1 ∈ gk_U) (hfin : (T k).2.2.2 = true) (hdecl : (T k).1 = own) (hnn : narrow (tt k) v = v) (hfit : fits (tt k) v = true) (hl : k < fs.length)
    (hd : decode cc pc = .ok (.putfield idx, 3)) (hq : pc + 3 = q) (hF : fs.set k v = fs') (g : dl Z D cA nL q lv st o h (.inr (ci, fs')) L n cells slots) : dl Z D cA nL pc lv (v :: .ref o :: st) o h (.inr (ci, fs)) L n cells slots := by
  subst hF
  exact dj_putF hC hN (dl_ok ho n) List.mem_cons_self dL_o hB.1 hB.2.1 tt hB.2.2.1 hB.2.2.2 k hk hlink hfin hdecl (hB.2.2.1 k hk) hnn hfit hl hd hq (dj_cg (dL_put ho hn0) g)
theorem dl_get (hC : djC Z (D, cA, dA o h) cc nL own d mc ms) {idx ci N : Nat} {C : String} {T : u_T} {tt : Nat → FieldType} {v : Value} {fs : List Value} (hB : dB ci C T N tt) (k : Nat) (hk : k < N) (hlink : Cond.fieldLink own idx (T k).1 (T k).2.1 (T k).2.2.1 ∈ gk_U) (hv : fs[k]? = some v) (hd : decode cc pc = .ok (.getfield idx, 3)) (hq : pc + 3 = q) (g : dl Z D cA nL q lv (v :: st) o h (.inr (ci, fs)) L n cells slots) : dl Z D cA nL pc lv (.ref o :: st) o h (.inr (ci, fs)) L n cells slots :=
  dj_get hC List.mem_cons_self dL_o hB.1 hB.2.1 k hk hlink hv hd hq g
theorem dl_iast (hC : djC Z (D, cA, dA o h) cc nL own d mc ms) (ho : o < h) (hn0 : L.length = n) {i N j : Nat} {v : Int32} {f : Nat → Int32} (hi : L[i]? = some (.inl (cA 100, N, .inl f))) (hj : j < N) (hN : N < 100000) (hd : decode cc pc = .ok (.iastore, 1)) (hq : pc + 1 = q) (hL : L.set i (.inl (cA 100, N, .inl (upd f j v))) = L') (g : L'.length = n → dl Z D cA nL q lv st o h e0 L' n cells slots) : dl Z D cA nL pc lv (.int v :: .int (nI j) :: .ref (h + i) :: st) o h e0 L n cells slots := by
  subst hL
  have hin : i < n := by rw [← hn0]; exact (List.getElem?_eq_some_iff.mp hi).1
  exact dj_iast hC (dl_ok ho n) (dL_mem o hin) (dL_i ho hi) hj hN hd hq (dj_cg (dL_set ho hn0 hin) (g (by rw [List.length_set]; exact hn0)))
theorem dl_aast (hC : djC Z (D, cA, dA o h) cc nL own d mc ms) (ho : o < h) (hn0 : L.length = n) {i N j t0 tg ci w M : Nat} {C : String} {T : u_T} {tt : Nat → FieldType} {vs : List Value} {f : Nat → Option Nat} (hB : dB ci C T M tt) (hi : L[i]? = some (.inl (cA tg, N, .inr (.inr (.inr (.inr f)))))) (ht : (dT cA)[t0]? = some (cA tg, .object C)) (hw : L[w]? = some (.inr (ci, vs))) (hj : j < N) (hN : N < 100000) (hd : decode cc pc = .ok (.aastore, 1)) (hq : pc + 1 = q) (hL : L.set i (.inl (cA tg, N, .inr (.inr (.inr (.inr (va_up f j (some (h + w)))))))) = L') (g : L'.length = n → dl Z D cA nL q lv st o h e0 L' n cells slots) : dl Z D cA nL pc lv (.ref (h + w) :: .int (nI j) :: .ref (h + i) :: st) o h e0 L n cells slots := by
  subst hL
  have hin : i < n := by rw [← hn0]; exact (List.getElem?_eq_some_iff.mp hi).1
  have hwn : w < n := by rw [← hn0]; exact (List.getElem?_eq_some_iff.mp hw).1
  exact dj_aast hC (dl_ok ho n) (t0 := t0) (tg := tg) (dL_mem o hin) (dL_i ho hi) ht (dL_mem o hwn) (dL_i ho hw) hB.1 hj hN hd hq (dj_cg (dL_set ho hn0 hin) (g (by rw [List.length_set]; exact hn0)))
/-- contract of a constructor, by lists -/
def CL (l : Launch) (D : va_G) (cA : Nat → ClassId) (y : MethodName) (bytes : ByteArray) (maxL dc mc ms : Nat) (As : List Value) (o : Nat) (e0 : va_E) (h : Nat) (e1 : va_E) (L1 : List va_E) : Prop := CT l D cA y bytes maxL dc mc ms As o e0 h (dL o h e1 L1) L1.length
theorem dl_callI {idx dc mcc msc maxL i na k : Nat} {y : MethodName} {bytes : ByteArray} {As rest : List Value} {e e1 : va_E} {L1 : List va_E} (hC : djC Z (D, cA, dA o h) cc nL own d mc ms) (ho : o < h) (hn0 : L.length = n) (hM : ∀ l, CL l D cA y bytes maxL dc mcc msc (.ref (h + i) :: As) (h + i) e (h + n) e1 L1) (hi : L[i]? = some e) (hw : Cond.methodLink own idx y ∈ gk_U) (hD : dO y bytes maxL na) (hn : As.length = na) (hd : decode cc pc = .ok (.invokespecial idx, 3)) (hdc : dc + 1 ≤ d) (hc1 : cells + mcc ≤ mc) (hc2 : slots + msc ≤ ms) (hr : (rest.map fun v => v.category).sum ≤ 8) (hst : st = As.reverse ++ .ref (h + i) :: rest) (hq : pc + 3 = q) (hk : L1.length = k) (hL : L.set i e1 ++ L1 = L')
    (g : L'.length = n + k → dl Z D cA nL q lv rest o h e0 L' (n + k) (cells + mcc) (slots + msc)) : dl Z D cA nL pc lv st o h e0 L n cells slots := by
  subst hL; subst hk
  have hin : i < n := by rw [← hn0]; exact (List.getElem?_eq_some_iff.mp hi).1
  refine dj_callI hC (dl_ok ho n) hM (dL_mem o hin) (dL_i ho hi) hw hD hn hd hdc hc1 hc2 hr hst hq fun _ => ?_
  rw [show (o :: dR n h) ++ dR L1.length (h + n) = o :: dR (n + L1.length) h by rw [dR_add]; rfl, Nat.add_assoc]
  exact dj_cg (dL_call ho hn0 hin rfl) (g (by rw [List.length_append, List.length_set, hn0]))
theorem dl_callN {idx dc mcc msc maxL i na k : Nat} {y : MethodName} {bytes : ByteArray} {host : String} {As rest : List Value} {e e1 : va_E} {L1 : List va_E} (hC : djC Z (D, cA, dA o h) cc nL own d mc ms) (ho : o < h) (hn0 : L.length = n) (hM : ∀ l, CL l D cA y bytes maxL dc mcc msc (.ref (h + i) :: As) (h + i) e (h + n) e1 L1) (hi : L[i]? = some e) (hw : ∀ U, dX U → va_Nw (.methodLinkNest own idx y host) U) (hD : dO y bytes maxL na) (hn : As.length = na) (hd : decode cc pc = .ok (.invokespecial idx, 3)) (hdc : dc + 1 ≤ d) (hc1 : cells + mcc ≤ mc) (hc2 : slots + msc ≤ ms) (hr : (rest.map fun v => v.category).sum ≤ 8) (hst : st = As.reverse ++ .ref (h + i) :: rest) (hq : pc + 3 = q) (hk : L1.length = k) (hL : L.set i e1 ++ L1 = L')
    (g : L'.length = n + k → dl Z D cA nL q lv rest o h e0 L' (n + k) (cells + mcc) (slots + msc)) : dl Z D cA nL pc lv st o h e0 L n cells slots := by
  subst hL; subst hk
  have hin : i < n := by rw [← hn0]; exact (List.getElem?_eq_some_iff.mp hi).1
  refine dj_callN hC (dl_ok ho n) hM (dL_mem o hin) (dL_i ho hi) hw hD hn hd hdc hc1 hc2 hr hst hq fun _ => ?_
  rw [show (o :: dR n h) ++ dR L1.length (h + n) = o :: dR (n + L1.length) h by rw [dR_add]; rfl, Nat.add_assoc]
  exact dj_cg (dL_call ho hn0 hin rfl) (g (by rw [List.length_append, List.length_set, hn0]))
theorem dl_met {l : Launch} {y : MethodName} {bytes : ByteArray} {maxL dc : Nat} {As : List Value} {e1 : va_E} {L1 : List va_E} {lv : List (Nat × Value)} (hy : plainFor y = true) (hn : (lg_sl As).length ≤ maxL) (hnm : y.name = "<init>") (hlv : lv_args 0 As = lv)
    (body : ∀ Z : dj_Z, djC Z (D, cA, dA o h) bytes maxL y.cls dc mc ms → djN Z → djR Z D o h (dL o h e1 L1) L1.length mc ms → o < h → dl Z D cA maxL 0 lv [] o h e0 [] 0 0 0) : CL l D cA y bytes maxL dc mc ms As o e0 h e1 L1 := by
  subst hlv
  refine dj_met hy hn hnm fun Z hC hN hR hO => ?_
  have ho := (hO.2 o List.mem_cons_self).1
  refine dj_cg (E' := dL o h e0 []) (fun a ha => ?_) (body Z hC hN hR ho)
  rw [List.mem_singleton.mp ha, dL_o]
theorem dl_ret {e1 : va_E} {L1 : List va_E} (hC : djC Z (D, cA, dA o h) cc nL own d mc ms) (hRt : djR Z D o h (dL o h e1 L1) L1.length mc ms) (hd : decode cc pc = .ok (.return_, 1)) (he : e0 = e1) (hL : L = L1) (hn : L.length = n) (h1 : cells ≤ mc) (h2 : slots ≤ ms) : dl Z D cA nL pc lv [] o h e0 L n cells slots := by
  subst he; subst hL; subst hn
  exact dj_ret hC hRt rfl rfl h1 h2 hd
end DL
