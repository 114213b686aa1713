/-! Worlds that grow: constructors. Cells by a function of their address; new cells come at the heap's end. -/
abbrev dj_Z : Type := Program × Launch × Env × Room × State × MethodId × Array Value × List Frame × Method × Code × (State → Prop)
abbrev dj_X : Type := va_G × (Nat → ClassId) × (Nat → Prop)
def dW (E : Nat → va_E) (as : List Nat) : va_W := as.map fun a => (a, E a)
def dU (E : Nat → va_E) (a : Nat) (e : va_E) : Nat → va_E := fun b => if b = a then e else E b
def dT (cA : Nat → ClassId) : List (ClassId × FieldType) := [(cA 100, .int), (cA 101, .object "WishLine$Call"), (cA 102, .object "WishLine$Wish"), (cA 103, .object "WishLine$House")]
def dOK (A : Nat → Prop) (as : List Nat) (h : Nat) : Prop := (∀ (i j a : Nat), as[i]? = some a → as[j]? = some a → i = j) ∧ ∀ a ∈ as, a < h ∧ A a
/-- words that a step may lose, and that constructors need -/
def dX (U : State) : Prop := va_AO "WishLine$Wish" U ∧ va_AO "WishLine$Call" U ∧ va_AO "WishLine$House" U ∧ va_Nw (.methodLinkNest "WishLine$WishBook" 17 yX5_init "WishLine") U ∧ va_Nw (.methodLinkNest "WishLine$House" 37 yX1_init "WishLine") U ∧ va_Nw (.methodLinkNest "WishLine" 33 yX0_init "WishLine") U
theorem dX.warm {s U : State} (hW : s.WarmedH U.vm) (h : dX s) : dX U := ⟨h.1.moved hW.alike, h.2.1.moved hW.alike, h.2.2.1.moved hW.alike, va_Nw.warmM hW h.2.2.2.1, va_Nw.warmM hW h.2.2.2.2.1, va_Nw.warmM hW h.2.2.2.2.2⟩
theorem dX.call {U : State} {g : JFrame} {mk : MethodId} {a : Array Value} (h : dX U) : dX (U.calling g mk a) := ⟨h.1.moved (Vm.Alike.refl U.vm), h.2.1.moved (Vm.Alike.refl U.vm), h.2.2.1.moved (Vm.Alike.refl U.vm), h.2.2.2.1.same rfl rfl, h.2.2.2.2.1.same rfl rfl, h.2.2.2.2.2.same rfl rfl⟩
def dj : dj_Z → dj_X → Nat → Nat → List (Nat × Value) → List Value → (Nat → va_E) → List Nat → Nat → Nat → Nat → Prop
  | (p, l, e, R, s, m, args, below, meth, c, Q), X, nL, pc, lv, st, E, as, h, cells, slots => ∀ (ls : Array Slot) (H : Heap) (locs : List Loc), lv_has ls nL lv → va_P X.1 vwCl (dW E as) H → H.size = h → va_S X.2.2 s.heap H locs → W p l e R s m args below meth c H locs cells slots Q (F0 m pc ls st)
def djC : dj_Z → dj_X → ByteArray → Nat → String → Nat → Nat → Nat → Prop
  | (p, _, _, R, s, m, args, _, _, c, _), X, cc, nL, own, d, mc, ms => p.tables.exec = Jvm.exec ∧ c.code = cc ∧ c.maxLocals = nL ∧ s.vm.findClass own = some m.cls ∧ (∀ w ∈ gk_U, w.before args s = true) ∧ va_K X.1 vwCl (dT X.2.1) s ∧ dX s ∧ (∀ q, s.heap.size ≤ q → X.2.2 q) ∧ d ≤ R.frames ∧ 40 * d ≤ R.locals ∧ mc ≤ R.cells ∧ ms ≤ R.slots
def djN : dj_Z → Prop
  | (_, _, _, _, _, _, _, _, meth, _, _) => meth.name = "<init>"
theorem dW_at {E : Nat → va_E} {as : List Nat} {a : Nat} (h : a ∈ as) : ∃ q0 : Nat, as[q0]? = some a ∧ (dW E as)[q0]? = some (a, E a) := by
  obtain ⟨q0, hq⟩ := List.getElem?_of_mem h
  exact ⟨q0, hq, by simp [dW, hq]⟩
theorem dW_D {A : Nat → Prop} {E : Nat → va_E} {as : List Nat} {h : Nat} (hO : dOK A as h) : va_D A (dW E as) := by
  refine ⟨fun i j p q hp hq he => ?_, fun k q hq => ?_⟩
  · simp only [dW, List.getElem?_map, Option.map_eq_some_iff] at hp hq
    obtain ⟨p', hp', rfl⟩ := hp
    obtain ⟨q', hq', rfl⟩ := hq
    have he' : p' = q' := he
    subst he'
    exact hO.1 i j p' hp' hq'
  · simp only [dW, List.getElem?_map, Option.map_eq_some_iff] at hq
    obtain ⟨q', hq', rfl⟩ := hq
    exact (hO.2 q' (List.mem_of_getElem? hq')).2
theorem dW_set {A : Nat → Prop} {E : Nat → va_E} {as : List Nat} {h q0 a : Nat} {e : va_E} (hO : dOK A as h) (hq : as[q0]? = some a) : (dW E as).set q0 (a, e) = dW (dU E a e) as := by
  apply List.ext_getElem?
  intro i
  rw [List.getElem?_set]
  by_cases hi : q0 = i
  · subst hi
    have hl : q0 < as.length := (List.getElem?_eq_some_iff.mp hq).1
    have hl2 : q0 < (dW E as).length := by unfold dW; rw [List.length_map]; exact hl
    rw [if_pos rfl, if_pos hl2]
    unfold dW
    rw [List.getElem?_map, hq]
    simp [dU]
  · rw [if_neg hi]
    simp only [dW, List.getElem?_map]
    cases hL : as[i]? with
    | none => rfl
    | some b =>
      have hne : b ≠ a := fun g => hi (hO.1 q0 i a hq (by rw [hL, g]))
      simp [dU, hne]
theorem dW_push {A : Nat → Prop} {E : Nat → va_E} {as : List Nat} {h : Nat} {e : va_E} (hO : dOK A as h) : dW E as ++ [(h, e)] = dW (dU E h e) (as ++ [h]) := by
  unfold dW
  rw [List.map_append]
  congr 1
  · apply List.map_congr_left
    intro a ha
    have := (hO.2 a ha).1
    rw [show dU E h e a = E a by unfold dU; rw [if_neg (by omega)]]
  · simp [dU]
theorem dOK.push {A : Nat → Prop} {as : List Nat} {h : Nat} (hO : dOK A as h) (hA : A h) : dOK A (as ++ [h]) (h + 1) := by
  refine ⟨fun i j a hi hj => ?_, fun a ha => ?_⟩
  · rw [List.getElem?_append] at hi hj
    split at hi <;> split at hj
    · exact hO.1 i j a hi hj
    · rename_i g1 g2
      have hb : a = h := by
        cases g : j - as.length with
        | zero => rw [g] at hj; exact (Option.some.inj hj).symm
        | succ n => rw [g] at hj; cases hj
      have := (hO.2 a (List.mem_of_getElem? hi)).1
      omega
    · rename_i g1 g2
      have hb : a = h := by
        cases g : i - as.length with
        | zero => rw [g] at hi; exact (Option.some.inj hi).symm
        | succ n => rw [g] at hi; cases hi
      have := (hO.2 a (List.mem_of_getElem? hj)).1
      omega
    · cases g : i - as.length with
      | zero =>
        cases g' : j - as.length with
        | zero => omega
        | succ n => rw [g'] at hj; cases hj
      | succ n => rw [g] at hi; cases hi
  · rcases List.mem_append.mp ha with g | g
    · exact ⟨by have := (hO.2 a g).1; omega, (hO.2 a g).2⟩
    · rw [List.mem_singleton.mp g]; exact ⟨by omega, hA⟩
section DJ
variable {Z : dj_Z} {X : dj_X} {cc : ByteArray} {nL d mc ms pc q : Nat} {own : String} {lv lv' : List (Nat × Value)} {st : List Value} {E : Nat → va_E} {as : List Nat} {h cells slots : Nat}
/-- a step that keeps heap and locals -/
theorem dj_go {st' : List Value} (hC : djC Z X cc nL own d mc ms) (g : dj Z X nL q lv st' E as h cells slots)
    (w : ∀ (p : Program) (l : Launch) (e : Env) (R : Room) (s : State) (m : MethodId) (args : Array Value) (below : List Frame) (meth : Method) (c : Code) (H : Heap) (locs : List Loc) (cells slots : Nat) (Q : State → Prop) (ls : Array Slot), p.tables.exec = Jvm.exec → c.code = cc → lv_has ls nL lv → W p l e R s m args below meth c H locs cells slots Q (F0 m q ls st') → W p l e R s m args below meth c H locs cells slots Q (F0 m pc ls st)) : dj Z X nL pc lv st E as h cells slots := by
  obtain ⟨p, l, e, R, s, m, args, below, meth, c, Q⟩ := Z
  obtain ⟨hx, hb, -⟩ := hC
  intro ls H locs hl hP hz hS
  exact w p l e R s m args below meth c H locs cells slots Q ls hx hb hl (g ls H locs hl hP hz hS)
theorem dj_iconst (hC : djC Z X cc nL own d mc ms) {n : Int} {v : Int32} (hd : decode cc pc = .ok (.iconst n, 1)) (hv : Int32.ofInt n = v) (hq : pc + 1 = q) (g : dj Z X nL q lv (.int v :: st) E as h cells slots) : dj Z X nL pc lv st E as h cells slots := by
  subst hq; exact dj_go hC g fun p l e R s m args below meth c H locs cells slots Q ls hx hb _ => lv_iconst hx hb hd hv
theorem dj_bipush (hC : djC Z X cc nL own d mc ms) {n : Int} {v : Int32} (hd : decode cc pc = .ok (.bipush n, 2)) (hv : (Int8.ofInt n).toInt32 = v) (hq : pc + 2 = q) (g : dj Z X nL q lv (.int v :: st) E as h cells slots) : dj Z X nL pc lv st E as h cells slots := by
  subst hq; exact dj_go hC g fun p l e R s m args below meth c H locs cells slots Q ls hx hb _ => lv_bipush hx hb hd hv
theorem dj_sipush (hC : djC Z X cc nL own d mc ms) {n : Int} {v : Int32} (hd : decode cc pc = .ok (.sipush n, 3)) (hv : (Int16.ofInt n).toInt32 = v) (hq : pc + 3 = q) (g : dj Z X nL q lv (.int v :: st) E as h cells slots) : dj Z X nL pc lv st E as h cells slots := by
  subst hq; exact dj_go hC g fun p l e R s m args below meth c H locs cells slots Q ls hx hb _ => lv_sipush hx hb hd hv
theorem dj_iload_n (hC : djC Z X cc nL own d mc ms) {i : Fin 4} {x : Int32} (n : Nat) (hd : decode cc pc = .ok (.iload_n i, 1)) (hl : lv[n]? = some ((i : Nat), .int x)) (hq : pc + 1 = q) (g : dj Z X nL q lv (.int x :: st) E as h cells slots) : dj Z X nL pc lv st E as h cells slots := by
  subst hq; exact dj_go hC g fun p l e R s m args below meth c H locs cells slots Q ls hx hb hh => lv_iload_n hx hb hd rfl (lv_at hh n hl)
theorem dj_aload_n (hC : djC Z X cc nL own d mc ms) {i : Fin 4} {x : Nat} (n : Nat) (hd : decode cc pc = .ok (.aload_n i, 1)) (hl : lv[n]? = some ((i : Nat), .ref x)) (hq : pc + 1 = q) (g : dj Z X nL q lv (.ref x :: st) E as h cells slots) : dj Z X nL pc lv st E as h cells slots := by
  subst hq; exact dj_go hC g fun p l e R s m args below meth c H locs cells slots Q ls hx hb hh => lv_aload_n hx hb hd rfl (lv_at hh n hl)
theorem dj_dup (hC : djC Z X cc nL own d mc ms) {v : Value} (hd : decode cc pc = .ok (.dup, 1)) (hv : v.category = 1) (hq : pc + 1 = q) (g : dj Z X nL q lv (v :: v :: st) E as h cells slots) : dj Z X nL pc lv (v :: st) E as h cells slots := by
  subst hq; exact dj_go hC g fun p l e R s m args below meth c H locs cells slots Q ls hx hb _ => lv_dup hx hb hd hv
theorem dj_goto (hC : djC Z X cc nL own d mc ms) {off : Int} (hd : decode cc pc = .ok (.goto off, 3)) (ht : (pc : Int) + off = (q : Int)) (g : dj Z X nL q lv st E as h cells slots) : dj Z X nL pc lv st E as h cells slots :=
  dj_go hC g fun p l e R s m args below meth c H locs cells slots Q ls hx hb _ => lv_goto hx hb hd ht
theorem dj_icmp_ge (hC : djC Z X cc nL own d mc ms) {x y : Int32} {off : Int} {tg : Nat} (hd : decode cc pc = .ok (.if_icmp .ge off, 3)) (ht : (pc : Int) + off = (tg : Int)) (hq : pc + 3 = q) (h1 : y ≤ x → dj Z X nL tg lv st E as h cells slots) (h2 : ¬ y ≤ x → dj Z X nL q lv st E as h cells slots) : dj Z X nL pc lv (.int y :: .int x :: st) E as h cells slots := by
  subst hq
  obtain ⟨p, l, e, R, s, m, args, below, meth, c, Q⟩ := Z
  obtain ⟨hx, hb, -⟩ := hC
  intro ls H locs hl hP hz hS
  exact lv_icmp_ge hx hb hd ht (fun g => h1 g ls H locs hl hP hz hS) (fun g => h2 g ls H locs hl hP hz hS)
theorem dj_icmp_gt (hC : djC Z X cc nL own d mc ms) {x y : Int32} {off : Int} {tg : Nat} (hd : decode cc pc = .ok (.if_icmp .gt off, 3)) (ht : (pc : Int) + off = (tg : Int)) (hq : pc + 3 = q) (h1 : y < x → dj Z X nL tg lv st E as h cells slots) (h2 : ¬ y < x → dj Z X nL q lv st E as h cells slots) : dj Z X nL pc lv (.int y :: .int x :: st) E as h cells slots := by
  subst hq
  obtain ⟨p, l, e, R, s, m, args, below, meth, c, Q⟩ := Z
  obtain ⟨hx, hb, -⟩ := hC
  intro ls H locs hl hP hz hS
  exact lv_icmp_gt hx hb hd ht (fun g => h1 g ls H locs hl hP hz hS) (fun g => h2 g ls H locs hl hP hz hS)
theorem dj_istore_n (hC : djC Z X cc nL own d mc ms) {i : Fin 4} {x : Int32} (ps : List Nat) (hd : decode cc pc = .ok (.istore_n i, 1)) (hn : (i : Nat) < nL) (hl : gk_sl i (.int x) lv ps = lv') (hq : pc + 1 = q) (g : dj Z X nL q lv' st E as h cells slots) : dj Z X nL pc lv (.int x :: st) E as h cells slots := by
  subst hq
  obtain ⟨p, l, e, R, s, m, args, below, meth, c, Q⟩ := Z
  obtain ⟨hx, hb, -⟩ := hC
  intro ls H locs hh hP hz hS
  exact lv_istore_n hx hb hd rfl hh hn rfl fun ls' h' => g ls' H locs (lv_sub h' ps hl) hP hz hS
theorem dj_astore_n (hC : djC Z X cc nL own d mc ms) {i : Fin 4} {x : Nat} (ps : List Nat) (hd : decode cc pc = .ok (.astore_n i, 1)) (hn : (i : Nat) < nL) (hl : gk_sl i (.ref x) lv ps = lv') (hq : pc + 1 = q) (g : dj Z X nL q lv' st E as h cells slots) : dj Z X nL pc lv (.ref x :: st) E as h cells slots := by
  subst hq
  obtain ⟨p, l, e, R, s, m, args, below, meth, c, Q⟩ := Z
  obtain ⟨hx, hb, -⟩ := hC
  intro ls H locs hh hP hz hS
  exact lv_astore_n hx hb hd rfl hh hn rfl fun ls' h' => g ls' H locs (lv_sub h' ps hl) hP hz hS
theorem dj_iinc (hC : djC Z X cc nL own d mc ms) {i : Nat} {n : Int} {x v : Int32} (pl : Nat) (ps : List Nat) (hd : decode cc pc = .ok (.iinc i n, 3)) (hi : lv[pl]? = some (i, .int x)) (hv : Int32.ofInt n = v) (hn : i < nL) (hl : gk_sl i (.int (x + v)) lv ps = lv') (hq : pc + 3 = q) (g : dj Z X nL q lv' st E as h cells slots) : dj Z X nL pc lv st E as h cells slots := by
  subst hq; subst hv
  obtain ⟨p, l, e, R, s, m, args, below, meth, c, Q⟩ := Z
  obtain ⟨hx, hb, -⟩ := hC
  intro ls H locs hh hP hz hS
  exact lv_iinc hx hb hd hh hi rfl hn rfl fun ls' h' => g ls' H locs (lv_sub h' ps hl) hP hz hS
theorem dj_objInit (hC : djC Z X cc nL own d mc ms) (hd0 : 1 ≤ d) {idx a : Nat} (hw : Cond.methodLink own idx objectInit ∈ gk_U) (h1 : Cond.instanceMethod objectInit ∈ gk_U) (h2 : Cond.code objectInit ⟨#[0xb1]⟩ 1 none ∈ gk_U) (hd : decode cc pc = .ok (.invokespecial idx, 3)) (hq : pc + 3 = q) (g : dj Z X nL q lv [] E as h cells slots) : dj Z X nL pc lv [.ref a] E as h cells slots := by
  subst hq
  obtain ⟨p, l, e, R, s, m, args, below, meth, c, Q⟩ := Z
  obtain ⟨hx, hb, hml, hown, hts, hK, hX, hA, f1, f2, f3, f4⟩ := hC
  intro ls H locs hh hP hz hS
  exact W.objInit hx hb hown (hts _ hw) (hts _ h1) (hts _ h2) rfl (by rw [hml]; exact hh.1) rfl hd (by omega) (by show 2 * 0 + 0 + 12 ≤ _; omega) (g ls H locs hh hP hz hS)
/-- a new object -/
theorem dj_new (hC : djC Z X cc nL own d mc ms) (hO : dOK X.2.2 as h) {idx ci N : Nat} {C : String} {T : u_T} (hw : Cond.classLink own idx C ∈ gk_U) (hi : Cond.instantiable C N ∈ gk_U) (hn : Cond.initialized C ∈ gk_U) (hc : vwCl[ci]? = some (C, T, N)) (hin : ∀ w ∈ u_ws C T N, w ∈ gk_U) (ty : Nat → FieldType) (hty : ∀ k, k < N → parseFieldDescriptor (T k).2.2.1 = some (ty k)) {fs : List Value} (hfs : ∀ j, j < N → defaultValue (ty j) = vp_V fs j)
    (hd : decode cc pc = .ok (.new idx, 3)) (hc1 : cells + 1 ≤ mc) (hc2 : slots + N ≤ ms) (hq : pc + 3 = q) (g : dOK X.2.2 (as ++ [h]) (h + 1) → dj Z X nL q lv (.ref h :: st) (dU E h (.inr (ci, fs))) (as ++ [h]) (h + 1) (cells + 1) (slots + N)) : dj Z X nL pc lv st E as h cells slots := by
  subst hq
  obtain ⟨p, l, e, R, s, m, args, below, meth, c, Q⟩ := Z
  obtain ⟨hx, hb, hml, hown, hts, hK, hX, hA, f1, f2, f3, f4⟩ := hC
  intro ls H locs hh hP hz hS
  have hsz : s.heap.size ≤ h := by have := hS.1; omega
  have hKn := hK.1 ci _ hc
  subst hz
  refine W.newcK hx hb hown (hts _ hw) (hts _ hi) (hts _ hn) rfl hd (by omega) (by omega) hKn.2.1 rfl fun H1 kC hkC e1 z1 o1 => ?_
  have hk : ∀ (k : Nat) (x : Nat × va_E), (dW E as)[k]? = some x → H1[x.1]? = H[x.1]? := fun k x hx => o1 x.1 ((hP k x hx).lt)
  refine g (hO.push (hA _ hsz)) ls H1 locs hh ?_ z1 ⟨Nat.le_trans hS.1 (by omega), fun x h1 h2 => (o1 x (Nat.lt_of_lt_of_le h1 hS.1)).trans (hS.2.1 x h1 h2), hS.2.2⟩
  rw [← dW_push hO]
  refine (hP.kept hk).app (fun k x hx => ?_)
  have hz : k < 1 := (List.getElem?_eq_some_iff.mp hx).1
  rw [show k = 0 by omega] at hx
  cases hx
  exact ⟨_, hc, (u_born ty hts hin hKn hkC e1 hty).to hfs⟩
/-- a new row of ints -/
theorem dj_newa (hC : djC Z X cc nL own d mc ms) (hO : dOK X.2.2 as h) (harr : Cond.arrayClass .int ∈ gk_U) {n : Nat} {v : Int32} (hv : v = nI n) (hn : n < 100000) (hd : decode cc pc = .ok (.newarray .int, 2)) (hc1 : cells + 1 ≤ mc) (hc2 : slots + n ≤ ms) (hq : pc + 2 = q) (g : dOK X.2.2 (as ++ [h]) (h + 1) → dj Z X nL q lv (.ref h :: st) (dU E h (.inl (X.2.1 100, n, .inl (fun _ => 0)))) (as ++ [h]) (h + 1) (cells + 1) (slots + n)) : dj Z X nL pc lv (.int v :: st) E as h cells slots := by
  subst hq; subst hv
  obtain ⟨p, l, e, R, s, m, args, below, meth, c, Q⟩ := Z
  obtain ⟨hx, hb, hml, hown, hts, hK, hX, hA, f1, f2, f3, f4⟩ := hC
  intro ls H locs hh hP hz hS
  have hsz : s.heap.size ≤ h := by have := hS.1; omega
  subst hz
  refine va_newaK (atype := .int) hx hb (hts _ harr) rfl hd rfl (nI_pos (by omega)) (nI_clamp (by omega)) (by show n * 4 ≤ _; omega) (by omega) (by omega) rfl fun H1 cA e1 z1 o1 hAr hNm => ?_
  have hcA : cA = X.2.1 100 := by
    have hnm : s.vm.findClass ("[" ++ FieldType.int.toString) = some (X.2.1 100) := (hK.2 0 (X.2.1 100, .int) rfl).2
    exact Option.some.inj (hNm.symm.trans hnm)
  subst hcA
  have hk : ∀ (k : Nat) (x : Nat × va_E), (dW E as)[k]? = some x → H1[x.1]? = H[x.1]? := fun k x hx => o1 x.1 ((hP k x hx).lt)
  refine g (hO.push (hA _ hsz)) ls H1 locs hh ?_ z1 ⟨Nat.le_trans hS.1 (by omega), fun x h1 h2 => (o1 x (Nat.lt_of_lt_of_le h1 hS.1)).trans (hS.2.1 x h1 h2), hS.2.2⟩
  rw [← dW_push hO]
  refine (hP.kept hk).app (fun k x hx => ?_)
  have hz : k < 1 := (List.getElem?_eq_some_iff.mp hx).1
  rw [show k = 0 by omega] at hx
  cases hx
  show H1[H.size]? = some (vp_cell _ _)
  exact e1
/-- a new row of references -/
theorem dj_newq (hC : djC Z X cc nL own d mc ms) (hO : dOK X.2.2 as h) {idx t0 tg : Nat} {C : String} (hw : Cond.classLink own idx C ∈ gk_U) (hover : ∀ U, dX U → va_AO C U) (ht : (dT X.2.1)[t0]? = some (X.2.1 tg, .object C)) {n : Nat} {v : Int32} (hv : v = nI n) (hn : n < 100000) (hd : decode cc pc = .ok (.anewarray idx, 3)) (hc1 : cells + 1 ≤ mc) (hc2 : slots + n ≤ ms) (hq : pc + 3 = q) (g : dOK X.2.2 (as ++ [h]) (h + 1) → dj Z X nL q lv (.ref h :: st) (dU E h (.inl (X.2.1 tg, n, .inr (.inr (.inr (.inr (fun _ => none))))))) (as ++ [h]) (h + 1) (cells + 1) (slots + n)) : dj Z X nL pc lv (.int v :: st) E as h cells slots := by
  subst hq; subst hv
  obtain ⟨p, l, e, R, s, m, args, below, meth, c, Q⟩ := Z
  obtain ⟨hx, hb, hml, hown, hts, hK, hX, hA, f1, f2, f3, f4⟩ := hC
  intro ls H locs hh hP hz hS
  have hsz : s.heap.size ≤ h := by have := hS.1; omega
  subst hz
  have hcl : (nI n).toNatClampNeg = n := nI_clamp (by omega)
  refine W.anew hx hb hown (hts _ hw) (va_AO.use (hover s hX)) rfl hd rfl (nI_pos (by omega)) (by rw [hcl]; omega) (by omega) (by rw [hcl]; omega) fun cA kA comp g1 g2 g3 g4 => ?_
  rw [hcl]
  have hcA : cA = X.2.1 tg := by
    obtain ⟨_, _, -, -, -, hnm⟩ := (hK.2 t0 _ ht).2
    exact Option.some.inj (g1.symm.trans hnm)
  subst hcA
  generalize hH1 : H.push ({ cls := X.2.1 tg, slots := Array.replicate n .null, vm := .none } : Cell) = H1
  have z1 : H1.size = H.size + 1 := by rw [← hH1, Array.size_push]
  have e1 : H1[H.size]? = some (arrV (X.2.1 tg) n (fun _ => .null)) := by rw [← hH1, Array.getElem?_push_size, ← arrV_new]
  have o1 : ∀ q : Nat, q < H.size → H1[q]? = H[q]? := fun q hq => by rw [← hH1, Array.getElem?_push, if_neg (Nat.ne_of_lt hq)]
  have hk : ∀ (k : Nat) (x : Nat × va_E), (dW E as)[k]? = some x → H1[x.1]? = H[x.1]? := fun k x hx => o1 x.1 ((hP k x hx).lt)
  refine g (hO.push (hA _ hsz)) ls H1 locs hh ?_ z1 ⟨Nat.le_trans hS.1 (by omega), fun x h1 h2 => (o1 x (Nat.lt_of_lt_of_le h1 hS.1)).trans (hS.2.1 x h1 h2), hS.2.2⟩
  rw [← dW_push hO]
  refine (hP.kept hk).app (fun k x hx => ?_)
  have hz : k < 1 := (List.getElem?_eq_some_iff.mp hx).1
  rw [show k = 0 by omega] at hx
  cases hx
  show H1[H.size]? = some (vp_cell _ _)
  rw [vp_cell_q]
  exact e1
/-- a final field is written -/
theorem dj_putF (hC : djC Z X cc nL own d mc ms) (hN : djN Z) (hO : dOK X.2.2 as h) {idx ci N a : Nat} {C : String} {T : u_T} {v : Value} {fs : List Value} (ha : a ∈ as) (he : E a = .inr (ci, fs)) (hc : vwCl[ci]? = some (C, T, N)) (hin : ∀ w ∈ u_ws C T N, w ∈ gk_U) (ty0 : Nat → FieldType) (hty : ∀ k, k < N → parseFieldDescriptor (T k).2.2.1 = some (ty0 k)) (hnm : ∀ a, a < N → ∀ b, b < N → a ≠ b → (T a).2.1 ≠ (T b).2.1) (k : Nat) (hk : k < N) (hlink : Cond.fieldLink own idx (T k).1 (T k).2.1 (T k).2.2.1 ∈ gk_U) (hfin : (T k).2.2.2 = true) (hdecl : (T k).1 = own) {ty : FieldType} (hdt : parseFieldDescriptor (T k).2.2.1 = some ty) (hn : narrow ty v = v) (hfit : fits ty v = true) (hl : k < fs.length)
    (hd : decode cc pc = .ok (.putfield idx, 3)) (hq : pc + 3 = q) (g : dj Z X nL q lv st (dU E a (.inr (ci, fs.set k v))) as h cells slots) : dj Z X nL pc lv (v :: .ref a :: st) E as h cells slots := by
  subst hq
  obtain ⟨p, l, e, R, s, m, args, below, meth, c, Q⟩ := Z
  obtain ⟨hx, hb, hml, hown, hts, hK, hX, hA, f1, f2, f3, f4⟩ := hC
  intro ls H locs hh hP hz hS
  obtain ⟨q0, hq0, hat⟩ := dW_at (E := E) ha
  rw [he] at hat
  have hap := va_apart (own := own) hts hin ty0 hty hnm hK hc
  obtain ⟨r, h1, cell, q1, q2, q3, q4⟩ := hP q0 _ hat
  have hr : r = (C, T, N) := Option.some.inj (h1.symm.trans hc)
  subst hr
  obtain ⟨hSl, hfc, kC, hkC, hkind⟩ := hK.1 ci _ hc
  obtain ⟨cf, kf, fi, f, hi, hsl⟩ := hSl k hk
  have hlay := hts _ (hin _ (u_in_lay hk))
  unfold u_lay at hlay
  rw [if_pos hfin] at hlay
  have hst := (u_facts hfc hkC (u_lays hts hin hk) hi).1
  have hcf : m.cls = cf := by
    obtain ⟨_, _, c', _, _, _, -, -, hf', -, -, -, hown2, -⟩ := Cond.laysFinal_spec hlay
    have e1 : c' = cf := by have := hi.symm.trans hf'; simp at this; exact this.1.symm
    rw [hdecl] at hown2
    rw [← e1]; exact Option.some.inj (hown.symm.trans hown2)
  have h6 := u_fits hfc hkC hkind (Or.inr hlay) hi hdt hn hfit
  refine W.putFinK hx hb hown (hts _ hlink) hi hst hcf hN (by rw [q2]; exact h6) q1 q3 (by rw [hsl]; exact k2_hasslot (q4 k hk)) rfl rfl hd fun H' e1 e2 e3 => ?_
  rw [hsl] at e1 ⊢
  refine g ls H' _ hh ?_ (by rw [e2]; exact hz) (hS.put e2 e3 (hO.2 a ha).2)
  rw [← dW_set hO hq0]
  exact hP.set (dW_D hO) hat ⟨_, hc, t_OB.to (V := updV (vp_V fs) k v) ⟨_, e1, q2, q3, t_set q4 hap hk v⟩ (fun j _ => vp_updV_set hl v j)⟩ e3
/-- a field is read -/
theorem dj_get (hC : djC Z X cc nL own d mc ms) {idx ci N a : Nat} {C : String} {T : u_T} {v : Value} {fs : List Value} (ha : a ∈ as) (he : E a = .inr (ci, fs)) (hc : vwCl[ci]? = some (C, T, N)) (hin : ∀ w ∈ u_ws C T N, w ∈ gk_U) (k : Nat) (hk : k < N) (hlink : Cond.fieldLink own idx (T k).1 (T k).2.1 (T k).2.2.1 ∈ gk_U) (hv : fs[k]? = some v) (hd : decode cc pc = .ok (.getfield idx, 3)) (hq : pc + 3 = q) (g : dj Z X nL q lv (v :: st) E as h cells slots) : dj Z X nL pc lv (.ref a :: st) E as h cells slots := by
  subst hq
  obtain ⟨p, l, e, R, s, m, args, below, meth, c, Q⟩ := Z
  obtain ⟨hx, hb, hml, hown, hts, hK, hX, hA, f1, f2, f3, f4⟩ := hC
  intro ls H locs hh hP hz hS
  obtain ⟨q0, hq0, hat⟩ := dW_at (E := E) ha
  rw [he] at hat
  exact va_get hx hb hts hin hown hK hP q0 hat hc k hk (hts _ hlink) (fun _ h9 => h9) hv hd (g ls H locs hh hP hz hS)
theorem dj_iast (hC : djC Z X cc nL own d mc ms) (hO : dOK X.2.2 as h) {a n i : Nat} {v : Int32} {f : Nat → Int32} (ha : a ∈ as) (he : E a = .inl (X.2.1 100, n, .inl f)) (hi : i < n) (hn : n < 100000) (hd : decode cc pc = .ok (.iastore, 1)) (hq : pc + 1 = q) (g : dj Z X nL q lv st (dU E a (.inl (X.2.1 100, n, .inl (upd f i v)))) as h cells slots) : dj Z X nL pc lv (.int v :: .int (nI i) :: .ref a :: st) E as h cells slots := by
  subst hq
  obtain ⟨p, l, e, R, s, m, args, below, meth, c, Q⟩ := Z
  obtain ⟨hx, hb, hml, hown, hts, hK, hX, hA, f1, f2, f3, f4⟩ := hC
  intro ls H locs hh hP hz hS
  obtain ⟨q0, hq0, hat⟩ := dW_at (E := E) ha
  rw [he] at hat
  have hin : vp_in (nI i) n := vp_in_nI hi (by omega)
  refine W.iast hx hb (hP q0 _ hat) ((hK.2 0 (X.2.1 100, .int) rfl).1 n (fun j => .int (f j))) (fun q => by cases q) (by show ¬ (nI i < 0 ∨ (arrV _ _ _).slots.size ≤ _); rw [arrV_size]; exact hin) rfl rfl hd fun H1 e1 z oq => ?_
  refine g ls H1 _ hh ?_ (by rw [z]; exact hz) (hS.put z oq (hO.2 a ha).2)
  rw [← dW_set hO hq0]
  refine hP.set (dW_D hO) hat ?_ oq
  show H1[a]? = some (vp_cell _ _)
  rw [e1]
  rw [vp_cell_i, vp_cell_i, arrV_store, nI_clamp (by omega)]
  congr 2
  funext q
  by_cases hq : q = i
  · subst hq
    simp [updV, upd]
  · simp [updV, upd, hq]
theorem dj_aast (hC : djC Z X cc nL own d mc ms) (hO : dOK X.2.2 as h) {a n i t0 tg ci v N : Nat} {C : String} {T : u_T} {vs : List Value} {f : Nat → Option Nat} (ha : a ∈ as) (he : E a = .inl (X.2.1 tg, n, .inr (.inr (.inr (.inr f))))) (ht : (dT X.2.1)[t0]? = some (X.2.1 tg, .object C)) (hva : v ∈ as) (hve : E v = .inr (ci, vs)) (hc : vwCl[ci]? = some (C, T, N)) (hi : i < n) (hn : n < 100000) (hd : decode cc pc = .ok (.aastore, 1)) (hq : pc + 1 = q) (g : dj Z X nL q lv st (dU E a (.inl (X.2.1 tg, n, .inr (.inr (.inr (.inr (va_up f i (some v)))))))) as h cells slots) : dj Z X nL pc lv (.ref v :: .int (nI i) :: .ref a :: st) E as h cells slots := by
  subst hq
  obtain ⟨p, l, e, R, s, m, args, below, meth, c, Q⟩ := Z
  obtain ⟨hx, hb, hml, hown, hts, hK, hX, hA, f1, f2, f3, f4⟩ := hC
  intro ls H locs hh hP hz hS
  obtain ⟨q0, hq0, hat⟩ := dW_at (E := E) ha
  rw [he] at hat
  obtain ⟨qk, hqk, hvt⟩ := dW_at (E := E) hva
  rw [hve] at hvt
  obtain ⟨r', hr', cellV, g1, g2, g3, -⟩ := hP qk _ hvt
  have hcls := (hK.1 ci _ hc).2
  obtain ⟨kA, comp, k1, k2, k3, -⟩ := (hK.2 t0 _ ht).2
  have hcomp : comp = X.1.1 ci := Option.some.inj (k3.symm.trans hcls.1)
  subst hcomp
  obtain ⟨kC, hkC, -⟩ := hcls.2
  refine W.aast hx hb (hP q0 _ hat) (fun q h => by cases h) (fun h => by cases h) k1 k2 rfl hkC ⟨nI_pos (by omega), by show _ < (arrV _ _ _).slots.size; rw [arrV_size, nI_clamp (by omega)]; exact hi⟩ g1 (fun q h => by rw [g3] at h; cases h) (by rw [g2]; exact hkC) (by rw [g2]; exact va_assign hcls) rfl rfl hd fun H1 e1 z oq => ?_
  refine g ls H1 _ hh ?_ (by rw [z]; exact hz) (hS.put z oq (hO.2 a ha).2)
  rw [← dW_set hO hq0]
  refine hP.set (dW_D hO) hat ?_ oq
  show H1[a]? = some (vp_cell _ _)
  rw [e1]
  rw [vp_cell_q, vp_cell_q, arrV_store, nI_clamp (by omega)]
  congr 2
  funext q
  by_cases hq : q = i
  · subst hq
    simp [updV, va_up, va_rf]
  · simp [updV, va_up, hq]
end DJ
