/-! Contracts of constructors: the object's own cell, and k new ones at the heap's end -/
def dRm (d mc ms : Nat) : Room := { frames := d, cells := mc, slots := ms, locals := 40 * d }
def dR (k h : Nat) : List Nat := (List.range k).map (h + ·)
def dA (o h : Nat) : Nat → Prop := fun q => q = o ∨ h ≤ q
def dP (D : va_G) (cA : Nat → ClassId) (As : List Value) (o : Nat) (e0 : va_E) (h : Nat) : Array Value → State → Prop := va_Pc As (fun U => U.heap.size = h ∧ va_P D vwCl [(o, e0)] U.heap ∧ va_K D vwCl (dT cA) U ∧ dX U)
def dQ (D : va_G) (A : Nat → Prop) (E : Nat → va_E) (as : List Nat) (h : Nat) : Array Value → State → Outcome → State → Prop := fun _ st oc t => oc = .returned none ∧ t.heap.size = h ∧ va_P D vwCl (dW E as) t.heap ∧ va_F A st t
def CT (l : Launch) (D : va_G) (cA : Nat → ClassId) (y : MethodName) (bytes : ByteArray) (maxL dc mc ms : Nat) (As : List Value) (o : Nat) (e0 : va_E) (h : Nat) (E1 : Nat → va_E) (k : Nat) : Prop := Met l y (.code y bytes maxL none :: gk_U) (dRm dc mc ms) (dP D cA As o e0 h) (dQ D (dA o h) E1 (o :: dR k h) (h + k)) mc ms (dA o h)
def djR : dj_Z → va_G → Nat → Nat → (Nat → va_E) → Nat → Nat → Nat → Prop
  | (_, _, _, _, s, _, args, below, meth, _, Q), D, o, h, E1, k, mc, ms => Q = MQ below (dQ D (dA o h) E1 (o :: dR k h) (h + k)) args s mc ms (dA o h) ∧ meth.sig.returnType = none ∧ meth.locks = false
def dJ (E E1 : Nat → va_E) (o h : Nat) : Nat → va_E := fun a => if a = o ∨ h ≤ a then E1 a else E a
theorem dR_s (k h : Nat) : dR (k + 1) h = dR k h ++ [h + k] := by unfold dR; rw [List.range_succ, List.map_append]; rfl
theorem dR_mem {k h a : Nat} : a ∈ dR k h ↔ h ≤ a ∧ a < h + k := by
  unfold dR
  rw [List.mem_map]
  constructor
  · rintro ⟨i, hi, rfl⟩
    rw [List.mem_range] at hi
    omega
  · intro g
    exact ⟨a - h, List.mem_range.mpr (by omega), by omega⟩
theorem dOK.app {A : Nat → Prop} {as : List Nat} {h : Nat} (hO : dOK A as h) (hA : ∀ q, h ≤ q → A q) : ∀ k, dOK A (as ++ dR k h) (h + k)
  | 0 => by rw [show dR 0 h = [] from rfl, List.append_nil]; exact hO
  | k + 1 => by
    rw [dR_s, ← List.append_assoc]
    exact (dOK.app hO hA k).push (hA _ (by omega))
section CTR
variable {Z : dj_Z} {X : dj_X} {cc : ByteArray} {nL d mc ms pc q : Nat} {own : String} {lv lv' : List (Nat × Value)} {st : List Value} {E : Nat → va_E} {as : List Nat} {h cells slots : Nat}
theorem dj_met {l : Launch} {D : va_G} {cA : Nat → ClassId} {y : MethodName} {bytes : ByteArray} {maxL dc mc ms : Nat} {As : List Value} {o : Nat} {e0 : va_E} {h : Nat} {E1 : Nat → va_E} {k : Nat} (hy : plainFor y = true) (hn : (lg_sl As).length ≤ maxL) (hnm : y.name = "<init>")
    (body : ∀ Z : dj_Z, djC Z (D, cA, dA o h) bytes maxL y.cls dc mc ms → djN Z → djR Z D o h E1 k mc ms → dOK (dA o h) [o] h → dj Z (D, cA, dA o h) maxL 0 (lv_args 0 As) [] (fun _ => e0) [o] h 0 0) : CT l D cA y bytes maxL dc mc ms As o e0 h E1 k := by
  refine va_MetF (cc := bytes) (maxL := maxL) (ret := none) hy rfl ?_
  intro p e s m args below meth c s₁ B hml hv
  obtain ⟨rfl, hsz, hP, hK, hX⟩ := hv
  have hts := atoms_spec (ws := Cond.code y bytes maxL none :: gk_U) B.pre
  have ho : o < h := by
    have := (hP 0 (o, e0) rfl).lt
    omega
  have hO : dOK (dA o h) [o] h := by
    refine ⟨fun i j a hi hj => ?_, fun a ha => ?_⟩
    · have h1 : i < 1 := (List.getElem?_eq_some_iff.mp hi).1
      have h2 : j < 1 := (List.getElem?_eq_some_iff.mp hj).1
      omega
    · rw [List.mem_singleton.mp ha]; exact ⟨ho, Or.inl rfl⟩
  have g := body (p, l, e, (headSpec (Cond.code y bytes maxL none :: gk_U) (dRm dc mc ms)).room, s, m, As.toArray, below, meth, c, MQ below (dQ D (dA o h) E1 (o :: dR k h) (h + k)) As.toArray s mc ms (dA o h))
    ⟨B.exec, B.bytes, hml, findClass_of_methodNamed B.named, fun w hw => hts w (List.mem_cons_of_mem _ hw), hK, hX, fun q hq => Or.inr (by omega), Nat.le_refl _, Nat.le_refl _, Nat.le_refl _, Nat.le_refl _⟩ ((name_of_methodNamed B.named B.method).1.trans hnm) ⟨rfl, B.returns, B.notSynchronized⟩ hO
  rw [lg_entry_eq]
  exact g _ s.heap [] (lv_entry As hn) hP hsz va_S.rf
theorem dj_ret {D : va_G} {cA : Nat → ClassId} {o h0 k : Nat} {E1 : Nat → va_E} (hC : djC Z (D, cA, dA o h0) cc nL own d mc ms) (hRt : djR Z D o h0 E1 k mc ms) (hE : dW E as = dW E1 (o :: dR k h0)) (hh : h = h0 + k) (h1 : cells ≤ mc) (h2 : slots ≤ ms) (hd : decode cc pc = .ok (.return_, 1)) : dj Z (D, cA, dA o h0) nL pc lv [] E as h cells slots := by
  obtain ⟨p, l, e, R, s, m, args, below, meth, c, Q⟩ := Z
  obtain ⟨hx, hb, -⟩ := hC
  obtain ⟨rfl, hr, hlk⟩ := hRt
  intro ls H locs hl hP hz hS
  refine W.widen (k := mc) (n := ms) h1 h2 ?_
  exact W.vret hx hb hr (fun t ht hW => ⟨rfl, by rw [ht, hz, hh], by rw [ht, ← hE]; exact hP, hS.F ht⟩) hS.2.2 hd hlk
theorem dP_blind {D : va_G} {cA : Nat → ClassId} {As : List Value} {o : Nat} {e0 : va_E} {h : Nat} : FrameBlind (dP D cA As o e0 h) := fun a U g mk q => by
  obtain ⟨q0, q1, q2, q3, q4⟩ := q
  exact ⟨q0, q1, q2, va_K.moved (u := U) (U := U.calling g mk a) (Vm.Alike.refl U.vm) q3, q4.call⟩
theorem dj_after {p : Program} {l : Launch} {e : Env} {R : Room} {s : State} {m : MethodId} {args : Array Value} {below : List Frame} {meth : Method} {c : Code} {H : Heap} {locs : List Loc} {Q : State → Prop} {ls : Array Slot} {rest : List Value} {av : Array Value} {o k mcc msc : Nat} {E1 : Nat → va_E}
    (hO : dOK X.2.2 as h) (hz : H.size = h) (hA : ∀ q, s.heap.size ≤ q → X.2.2 q) (ho : o ∈ as) (hP : va_P X.1 vwCl (dW E as) H) (hr : va_Run p l e R s m args below meth c H locs cells slots mcc msc (F0 m pc ls st) rest (dQ X.1 (dA o h) E1 (o :: dR k h) (h + k) av) (dA o h)) (hS : va_S X.2.2 s.heap H locs)
    (kk : ∀ (H1 : Heap) (locs1 : List Loc), va_P X.1 vwCl (dW (dJ E E1 o h) (as ++ dR k h)) H1 → H1.size = h + k → va_S X.2.2 s.heap H1 locs1 → W p l e R s m args below meth c H1 locs1 (cells + mcc) (slots + msc) Q (F0 m (pc + 3) ls rest)) : W p l e R s m args below meth c H locs cells slots Q (F0 m pc ls st) := by
  intro T hT Xs
  obtain ⟨v, st₀, t, T', L, h0, X', hL, e1, e2, ⟨hv, hz1, hP1, hz2, hk⟩, stp⟩ := hr T hT Xs
  cases hv
  rw [h0] at hz2 hk
  have hsz : s.heap.size ≤ h := by have := hS.1; omega
  have hAo : ∀ q, dA o h q → X.2.2 q := fun q hq => by
    rcases hq with g | g
    · rw [g]; exact (hO.2 o ho).2
    · exact hA q (by omega)
  obtain ⟨t2, a1, b1⟩ := kk T'.heap (locs ++ L) (by
      rw [e1]
      intro i x hx
      simp only [dW, List.getElem?_map, Option.map_eq_some_iff] at hx
      obtain ⟨a, ha, rfl⟩ := hx
      have hm := List.mem_of_getElem? ha
      by_cases hd : a = o ∨ h ≤ a
      · have hin : a ∈ o :: dR k h := by
          rcases hd with g | g
          · rw [g]; exact List.mem_cons_self
          · refine List.mem_cons_of_mem _ ?_
            rcases List.mem_append.mp hm with g2 | g2
            · have := (hO.2 a g2).1; omega
            · exact g2
        obtain ⟨q0, -, hat⟩ := dW_at (E := E1) hin
        have := hP1 q0 _ hat
        rw [show dJ E E1 o h a = E1 a by unfold dJ; rw [if_pos hd]]
        exact this
      · have hin : a ∈ as := by
          rcases List.mem_append.mp hm with g2 | g2
          · exact g2
          · exact absurd (Or.inr (dR_mem.mp g2).1) hd
        obtain ⟨q0, -, hat⟩ := dW_at (E := E) hin
        have := hP q0 _ hat
        rw [show dJ E E1 o h a = E a by unfold dJ; rw [if_neg hd]]
        exact this.kept (hk a (by have := (hO.2 a hin).1; show a < H.size; omega) hd))
    (by rw [e1]; exact hz1)
    ⟨Nat.le_trans hS.1 (by rw [e1]; exact hz2), fun q g1 g2 => by rw [e1, hk q (Nat.lt_of_lt_of_le g1 hS.1) (fun g => g2 (hAo q g))]; exact hS.2.1 q g1 g2, fun q hq => by
      rcases List.mem_append.mp hq with g | g
      · exact hS.2.2 q g
      · exact hAo _ (hL q g)⟩ T' rfl X'
  exact ⟨t2, stp t2 a1, b1⟩
/-- what a constructor needs to be called: its words -/
def dO (y : MethodName) (bytes : ByteArray) (maxL n : Nat) : Prop := Cond.instanceMethod y ∈ gk_U ∧ Cond.code y bytes maxL none ∈ gk_U ∧ Cond.initialized y.cls ∈ gk_U ∧ y.name = "<init>" ∧ (y.cls ≠ "java/lang/invoke/MethodHandle" ∧ y.cls ≠ "java/lang/invoke/VarHandle" ∧ (parseMethodDescriptor y.desc).map (fun d => d.parameters.length) = some n) ∧ maxL ≤ 21
theorem dj_callI {idx dc mcc msc maxL o n k : Nat} {y : MethodName} {bytes : ByteArray} {As rest : List Value} {e0 : va_E} {E1 : Nat → va_E} (hC : djC Z X cc nL own d mc ms) (hO : dOK X.2.2 as h) (hM : ∀ l, CT l X.1 X.2.1 y bytes maxL dc mcc msc (.ref o :: As) o e0 h E1 k) (ho : o ∈ as) (he : E o = e0) (hw : Cond.methodLink own idx y ∈ gk_U) (hD : dO y bytes maxL n) (hn : As.length = n) (hd : decode cc pc = .ok (.invokespecial idx, 3)) (hdc : dc + 1 ≤ d) (hc1 : cells + mcc ≤ mc) (hc2 : slots + msc ≤ ms) (hr : (rest.map fun v => v.category).sum ≤ 8) (hst : st = As.reverse ++ .ref o :: rest) (hq : pc + 3 = q)
    (g : dOK X.2.2 (as ++ dR k h) (h + k) → dj Z X nL q lv rest (dJ E E1 o h) (as ++ dR k h) (h + k) (cells + mcc) (slots + msc)) : dj Z X nL pc lv st E as h cells slots := by
  subst hq; subst hst
  obtain ⟨p, l, e, R, s, m, args, below, meth, c, Q⟩ := Z
  obtain ⟨hx, hb, hml, hown, hts, hK, hX, hA, f1, f2, f3, f4⟩ := hC
  obtain ⟨o1, o2, o3, o4, o5, o6⟩ := hD
  intro ls H locs hh hP hz hS
  have hsz : s.heap.size ≤ h := by have := hS.1; omega
  obtain ⟨q0, -, hat⟩ := dW_at (E := E) ho
  have hPo : va_P X.1 vwCl [(o, e0)] H := fun i x hx => by
    have hi : i < 1 := (List.getElem?_eq_some_iff.mp hx).1
    rw [show i = 0 by omega] at hx
    cases hx
    rw [← he]; exact hP q0 _ hat
  have hrun := va_runI (p := p) (e := e) (below := below) (meth := meth) (locs := locs) (cells := cells) (slots := slots) (Ts := gk_U) (rest := rest) (g := F0 m pc ls (As.reverse ++ .ref o :: rest)) (R := R) (H := H) (b := o) (As := As) ⟨hx, hb, hml, hown, hts⟩ (hM l)
    ⟨⟨rfl, rfl, by show dc + 1 ≤ _; omega, by show 8 + (maxL + 11) + 40 * dc ≤ _; omega, gk_words hts o2, List.mem_cons_self, hts _ o2, hts _ o3, ⟨o5.1, o5.2.1⟩, fun sig hs => (by have h2 := o5.2.2; rw [hs] at h2; exact (Option.some.inj h2).symm), hts _ hw⟩, o4, hts _ o1⟩
    ⟨dP_blind, fun U hU hW => ⟨rfl, by rw [hU]; exact hz, by rw [hU]; exact hPo, va_K.moved hW.alike hK, hX.warm hW⟩⟩
    rfl hn hh.1 rfl (by show 2 * 0 + _ ≤ 8; omega) hd ⟨by omega, by omega⟩
  exact dj_after hO hz hA ho hP hrun hS fun H1 locs1 hP1 hz1 hS1 => g (hO.app (fun q hq => hA q (by omega)) k) ls H1 locs1 hh hP1 hz1 hS1
/-- .. of a nest mate -/
theorem dj_callN {idx dc mcc msc maxL o n k : Nat} {y : MethodName} {bytes : ByteArray} {host : String} {As rest : List Value} {e0 : va_E} {E1 : Nat → va_E} (hC : djC Z X cc nL own d mc ms) (hO : dOK X.2.2 as h) (hM : ∀ l, CT l X.1 X.2.1 y bytes maxL dc mcc msc (.ref o :: As) o e0 h E1 k) (ho : o ∈ as) (he : E o = e0) (hw : ∀ U, dX U → va_Nw (.methodLinkNest own idx y host) U) (hD : dO y bytes maxL n) (hn : As.length = n) (hd : decode cc pc = .ok (.invokespecial idx, 3)) (hdc : dc + 1 ≤ d) (hc1 : cells + mcc ≤ mc) (hc2 : slots + msc ≤ ms) (hr : (rest.map fun v => v.category).sum ≤ 8) (hst : st = As.reverse ++ .ref o :: rest) (hq : pc + 3 = q)
    (g : dOK X.2.2 (as ++ dR k h) (h + k) → dj Z X nL q lv rest (dJ E E1 o h) (as ++ dR k h) (h + k) (cells + mcc) (slots + msc)) : dj Z X nL pc lv st E as h cells slots := by
  subst hq; subst hst
  obtain ⟨p, l, e, R, s, m, args, below, meth, c, Q⟩ := Z
  obtain ⟨hx, hb, hml, hown, hts, hK, hX, hA, f1, f2, f3, f4⟩ := hC
  obtain ⟨o1, o2, o3, o4, o5, o6⟩ := hD
  intro ls H locs hh hP hz hS
  have hsz : s.heap.size ≤ h := by have := hS.1; omega
  obtain ⟨q0, -, hat⟩ := dW_at (E := E) ho
  have hPo : va_P X.1 vwCl [(o, e0)] H := fun i x hx => by
    have hi : i < 1 := (List.getElem?_eq_some_iff.mp hx).1
    rw [show i = 0 by omega] at hx
    cases hx
    rw [← he]; exact hP q0 _ hat
  have hrun := va_runIN (p := p) (e := e) (below := below) (meth := meth) (locs := locs) (cells := cells) (slots := slots) (Ts := gk_U) (rest := rest) (g := F0 m pc ls (As.reverse ++ .ref o :: rest)) (R := R) (H := H) (b := o) (As := As) (host := host) ⟨hx, hb, hml, hown, hts⟩ (hM l)
    ⟨⟨⟨rfl, rfl, by show dc + 1 ≤ _; omega, by show 8 + (maxL + 11) + 40 * dc ≤ _; omega, gk_words hts o2, List.mem_cons_self⟩, hts _ o2, hts _ o3, ⟨o5.1, o5.2.1⟩, fun sig hs => (by have h2 := o5.2.2; rw [hs] at h2; exact (Option.some.inj h2).symm), va_Nw.use rfl (hw s hX)⟩, o4, hts _ o1⟩
    ⟨dP_blind, fun U hU hW => ⟨rfl, by rw [hU]; exact hz, by rw [hU]; exact hPo, va_K.moved hW.alike hK, hX.warm hW⟩⟩
    rfl hn hh.1 rfl (by show 2 * 0 + _ ≤ 8; omega) hd ⟨by omega, by omega⟩
  exact dj_after hO hz hA ho hP hrun hS fun H1 locs1 hP1 hz1 hS1 => g (hO.app (fun q hq => hA q (by omega)) k) ls H1 locs1 hh hP1 hz1 hS1
end CTR
