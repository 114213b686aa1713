/-! calls and whole methods -/
def gk_rm (d : Nat) : Room := { frames := d, cells := 0, slots := 0, locals := 40 * d }
def gk_P (Y : gk_Y) (As : List Value) (M : gk_M) : Array Value → State → Prop := va_Pc As (fun U => va_P (gk_D Y) vwCl (gk_ws Y M) U.heap ∧ va_K (gk_D Y) vwCl (gk_ty Y) U)
abbrev gk_rI : Int32 × gk_M → Option Value × gk_M := fun x => (some (.int x.1), x.2)
abbrev gk_rV : gk_M → Option Value × gk_M := fun x => (none, x)
abbrev gk_rR (M : gk_M) : Int32 → Option Value × gk_M := fun x => (some (.int x), M)
/-- the contract of a method: where its picture kc tells an end, it comes to it -/
def gk_MF (l : Launch) (Y : gk_Y) (y : MethodName) (bytes : ByteArray) (maxL : Nat) (ret : Option FieldType) (d : Nat) (As : List Value) (M : gk_M) {β : Type} (ρc : β → Option Value × gk_M) (kc : Option β) : Prop := ∀ x, kc = some x → Met l y (.code y bytes maxL ret :: gk_U) (gk_rm d) (gk_P Y As M) (gk_Q Y (ρc x)) 0 0 (gk_A Y)
theorem gk_met {l : Launch} {Y : gk_Y} {y : MethodName} {bytes : ByteArray} {maxL : Nat} {ret : Option FieldType} {d : Nat} {As : List Value} {M : gk_M} {β : Type} {ρc : β → Option Value × gk_M} {kc : Option β} (hY : gk_WF Y) (hy : plainFor y = true) (hn : (lg_sl As).length ≤ maxL)
    (body : ∀ Z : gk_Z, gk_C Z Y bytes maxL y.cls d → gk_R Z Y ret → gk_K Z Y maxL ρc 0 (lv_args 0 As) [] M kc) : gk_MF l Y y bytes maxL ret d As M ρc kc := by
  intro x hx
  refine va_MetF (cc := bytes) (maxL := maxL) (ret := ret) hy rfl ?_
  intro p e s m args below meth c s₁ B hml hv
  obtain ⟨rfl, hP, hK⟩ := hv
  have hts := atoms_spec (ws := Cond.code y bytes maxL ret :: gk_U) B.pre
  have h := body (p, l, e, (headSpec (Cond.code y bytes maxL ret :: gk_U) (gk_rm d)).room, s, m, As.toArray, below, meth, c, 0, 0, fun x => MQ below (gk_Q Y x) As.toArray s 0 0 (gk_A Y))
    ⟨B.exec, B.bytes, hml, findClass_of_methodNamed B.named, fun w hw => hts w (List.mem_cons_of_mem _ hw), hK, hY, Nat.le_refl _, Nat.le_refl _, Nat.le_refl _, Nat.le_refl _⟩ ⟨rfl, rfl, rfl, B.returns, B.notSynchronized⟩ x hx
  rw [lg_entry_eq]
  exact h _ s.heap [] (lv_entry As hn) hP va_S.rf
/-- a method that can be called: its words -/
def gk_OV (y : MethodName) (bytes : ByteArray) (maxL : Nat) (ret : Option FieldType) (n : Nat) : Prop := Cond.instanceMethod y ∈ gk_U ∧ Cond.selects y.cls y y ∈ gk_U ∧ Cond.initialized y.cls ∈ gk_U ∧ Cond.code y bytes maxL ret ∈ gk_U ∧ (y.cls ≠ "java/lang/invoke/MethodHandle" ∧ y.cls ≠ "java/lang/invoke/VarHandle" ∧ (parseMethodDescriptor y.desc).map (fun d => d.parameters.length) = some n) ∧ maxL ≤ 21
def gk_OS (y : MethodName) (bytes : ByteArray) (maxL : Nat) (ret : Option FieldType) (n : Nat) : Prop := Cond.static y ∈ gk_U ∧ Cond.initialized y.cls ∈ gk_U ∧ Cond.code y bytes maxL ret ∈ gk_U ∧ (y.cls ≠ "java/lang/invoke/MethodHandle" ∧ y.cls ≠ "java/lang/invoke/VarHandle" ∧ (parseMethodDescriptor y.desc).map (fun d => d.parameters.length) = some n) ∧ maxL ≤ 21
section GKC
variable {Z : gk_Z} {Y : gk_Y} {cc : ByteArray} {nL d pc q : Nat} {own : String} {α : Type} {ρ : α → Option Value × gk_M} {lv lv' : List (Nat × Value)} {st : List Value} {M : gk_M} {k k1 k2 : Option α}
theorem gk_blind {As : List Value} : FrameBlind (gk_P Y As M) := fun a U g mk h => by
  obtain ⟨h1, h2, h3⟩ := h
  exact ⟨h1, h2, va_K.moved (u := U) (U := U.calling g mk a) (Vm.Alike.refl U.vm) h3⟩
theorem gk_words {s : State} {args : Array Value} {y : MethodName} {bytes : ByteArray} {maxL : Nat} {ret : Option FieldType} (hts : ∀ w ∈ gk_U, w.before args s = true) (hc : Cond.code y bytes maxL ret ∈ gk_U) : ∀ w ∈ (Cond.code y bytes maxL ret :: gk_U), ∀ (a' : Array Value) (U : State), s.WarmedH U.vm → w.before a' U = true := by
  intro w hw a' U hW
  have hw' : w ∈ gk_U := by
    rcases List.mem_cons.mp hw with h | h
    · rw [h]; exact hc
    · exact h
  exact word_at hW (gk_good w hw') (hts w hw')
theorem gk_after {p : Program} {l : Launch} {e : Env} {R : Room} {s : State} {m : MethodId} {args : Array Value} {below : List Frame} {meth : Method} {c : Code} {H : Heap} {locs : List Loc} {cells slots : Nat} {Q : State → Prop} {ls : Array Slot} {rest : List Value} {x : Option Value × gk_M} {av : Array Value}
    (hr : va_Run p l e R s m args below meth c H locs cells slots 0 0 (F0 m pc ls st) rest (gk_Q Y x av) (gk_A Y)) (hS : va_S (gk_A Y) s.heap H locs)
    (kk : ∀ (H1 : Heap) (locs1 : List Loc), va_P (gk_D Y) vwCl (gk_ws Y x.2) H1 → va_S (gk_A Y) s.heap H1 locs1 → W p l e R s m args below meth c H1 locs1 cells slots Q (F0 m (pc + 3) ls (x.1.toList ++ rest))) : W p l e R s m args below meth c H locs cells slots Q (F0 m pc ls st) := by
  intro T hT X
  obtain ⟨v, st₀, t, T', L, h0, X', hL, e1, e2, ⟨hv, hP, hK, hz, hk⟩, stp⟩ := hr T hT X
  cases hv
  rw [h0] at hz hk
  obtain ⟨t2, a1, b1⟩ := kk T'.heap (locs ++ L) (by rw [e1]; exact hP)
    ⟨Nat.le_trans hS.1 (by rw [e1]; exact hz), fun q h1 h2 => by rw [e1, hk q (Nat.lt_of_lt_of_le h1 hS.1) h2]; exact hS.2.1 q h1 h2, fun q hq => by
      rcases List.mem_append.mp hq with h | h
      · exact hS.2.2 q h
      · exact hL q h⟩ T' rfl X'
  exact ⟨t2, stp t2 a1, b1⟩
theorem gk_callV {idx dc maxL a n t N : Nat} {T : u_T} {y : MethodName} {bytes : ByteArray} {ret : Option FieldType} {As rest : List Value} {β : Type} {ρc : β → Option Value × gk_M} {kc : Option β} {kk : β → Option α} (hC : gk_C Z Y cc nL own d) (hM : ∀ l, gk_MF l Y y bytes maxL ret dc (.ref a :: As) M ρc kc) (hw : Cond.methodLink own idx y ∈ gk_U) (hO : gk_OV y bytes maxL ret n) (hd : decode cc pc = .ok (.invokevirtual idx, 3))
    (ha : gk_T Y t a) (ht : t < 100 ∧ vwCl[t - 10]? = some (y.cls, T, N)) (hn : As.length = n) (hdc : dc + 1 ≤ d) (hr : (rest.map fun v => v.category).sum ≤ 8) (hst : st = As.reverse ++ .ref a :: rest) (hq : pc + 3 = q) (h : ∀ x, gk_K Z Y nL ρ q lv ((ρc x).1.toList ++ rest) (ρc x).2 (kk x)) : gk_K Z Y nL ρ pc lv st M (kc.bind kk) := by
  subst hq; subst hst
  obtain ⟨p, l, e, R, s, m, args, below, meth, c, cells, slots, Qf⟩ := Z
  obtain ⟨hx, hb, hml, hown, hts, hK, hY, hf1, hf2, hf3, hf4⟩ := hC
  obtain ⟨o1, o2, o3, o4, o5, o6⟩ := hO
  obtain ⟨q0, hq0, hat⟩ := gk_ws_at (M := M) ha
  intro z hkz ls H locs hh hP hS
  cases hkc : kc with
  | none => rw [hkc] at hkz; cases hkz
  | some x =>
    rw [hkc] at hkz
    have hrun := va_runV (p := p) (e := e) (below := below) (meth := meth) (locs := locs) (cells := cells) (slots := slots) (Ts := gk_U) (rest := rest) (g := F0 m pc ls (As.reverse ++ .ref a :: rest)) (R := R) (H := H) (C := y.cls) (b := a) (As := As) ⟨hx, hb, hml, hown, hts⟩ (hM l x hkc)
      ⟨⟨rfl, rfl, by show dc + 1 ≤ _; omega, by show 8 + (maxL + 11) + 40 * dc ≤ _; omega, gk_words hts o4, List.mem_cons_self, hts _ o4, hts _ o3, ⟨o5.1, o5.2.1⟩, fun sig hs => (by have h2 := o5.2.2; rw [hs] at h2; exact (Option.some.inj h2).symm), hts _ hw⟩, hts _ o1, hts _ o2⟩
      ⟨gk_blind, by
        obtain ⟨r, h1, cell, c1, c2, c3, -⟩ := hP q0 _ (show _ = some (a, .inr (t - 10, gk_fs (gk_rf Y) M a t)) by rw [hat]; simp [gk_ce, ht.1])
        cases ht.2.symm.trans h1
        exact ⟨cell, c1, by rw [c3]; rfl, by rw [c2]; exact (hK.1 _ _ ht.2).2.1⟩, fun U hU hW => ⟨rfl, by rw [hU]; exact hP, va_K.moved hW.alike hK⟩⟩
      rfl hn hh.1 rfl (by show 2 * 0 + _ ≤ 8; omega) hd ⟨by omega, by omega⟩
    exact gk_after hrun hS fun H1 locs1 hP1 hS1 => h x z hkz ls H1 locs1 hh hP1 hS1
theorem gk_callS {idx dc maxL n : Nat} {y : MethodName} {bytes : ByteArray} {ret : Option FieldType} {As rest : List Value} {β : Type} {ρc : β → Option Value × gk_M} {kc : Option β} {kk : β → Option α} (hC : gk_C Z Y cc nL own d) (hM : ∀ l, gk_MF l Y y bytes maxL ret dc As M ρc kc) (hw : Cond.methodLink own idx y ∈ gk_U) (hO : gk_OS y bytes maxL ret n) (hd : decode cc pc = .ok (.invokestatic idx, 3))
    (hn : As.length = n) (hdc : dc + 1 ≤ d) (hr : (rest.map fun v => v.category).sum ≤ 8) (hst : st = As.reverse ++ rest) (hq : pc + 3 = q) (h : ∀ x, gk_K Z Y nL ρ q lv ((ρc x).1.toList ++ rest) (ρc x).2 (kk x)) : gk_K Z Y nL ρ pc lv st M (kc.bind kk) := by
  subst hq; subst hst
  obtain ⟨p, l, e, R, s, m, args, below, meth, c, cells, slots, Qf⟩ := Z
  obtain ⟨hx, hb, hml, hown, hts, hK, hY, hf1, hf2, hf3, hf4⟩ := hC
  obtain ⟨o1, o3, o4, o5, o6⟩ := hO
  intro z hkz ls H locs hh hP hS
  cases hkc : kc with
  | none => rw [hkc] at hkz; cases hkz
  | some x =>
    rw [hkc] at hkz
    have hrun := va_runS (p := p) (e := e) (below := below) (meth := meth) (locs := locs) (cells := cells) (slots := slots) (Ts := gk_U) (rest := rest) (g := F0 m pc ls (As.reverse ++ rest)) (R := R) (H := H) (As := As) ⟨hx, hb, hml, hown, hts⟩ (hM l x hkc)
      ⟨⟨rfl, rfl, by show dc + 1 ≤ _; omega, by show 8 + (maxL + 11) + 40 * dc ≤ _; omega, gk_words hts o4, List.mem_cons_self, hts _ o4, hts _ o3, ⟨o5.1, o5.2.1⟩, fun sig hs => (by have h2 := o5.2.2; rw [hs] at h2; exact (Option.some.inj h2).symm), hts _ hw⟩, hts _ o1⟩
      ⟨gk_blind, fun U hU hW => ⟨rfl, by rw [hU]; exact hP, va_K.moved hW.alike hK⟩⟩
      rfl hn hh.1 rfl (by show 2 * 0 + _ ≤ 8; omega) hd ⟨by omega, by omega⟩
    exact gk_after hrun hS fun H1 locs1 hP1 hS1 => h x z hkz ls H1 locs1 hh hP1 hS1
/-- switches -/
def gk_all (P : Nat → Option α → Prop) : List Nat → List (Option α) → Prop
  | [], [] => True
  | t :: ts, k :: ks => P t k ∧ gk_all P ts ks
  | _, _ => False
theorem gk_sw_spec {P : Nat → Option α → Prop} {x : Int32} {kd : Option α} {z : α} : ∀ (ts : List Nat) (ks : List (Option α)) (n : Int), gk_all P ts ks → gk_sw x n ks kd = some z → (∀ i : Nat, i < ts.length → -2147483648 ≤ n + i ∧ n + i < 2147483648) → (∃ (i t : Nat), ts[i]? = some t ∧ x.toInt = n + i ∧ ∃ k, k = some z ∧ P t k) ∨ ((x.toInt < n ∨ n + ts.length ≤ x.toInt) ∧ kd = some z)
  | [], [], n, _, h, _ => Or.inr ⟨by simp only [List.length_nil]; omega, h⟩
  | t :: ts, k :: ks, n, hA, h, hb => by
    unfold gk_sw at h
    by_cases hx : x = Int32.ofInt n
    · rw [if_pos hx] at h
      have hn := hb 0 (by simp)
      refine Or.inl ⟨0, t, rfl, ?_, k, h, hA.1⟩
      rw [hx, Int32.toInt_ofInt_of_le (by simpa using hn.1) (by simpa using hn.2)]; simp
    · rw [if_neg hx] at h
      have hn := hb 0 (by simp)
      have hxn : x.toInt ≠ n := fun g => hx (by rw [← g, Int32.ofInt_toInt])
      rcases gk_sw_spec ts ks (n + 1) hA.2 h (fun i hi => by have := hb (i + 1) (by simp; omega); push_cast at this; omega) with ⟨i, t', h1, h2, h3⟩ | ⟨h1, h2⟩
      · exact Or.inl ⟨i + 1, t', by simpa using h1, by push_cast; omega, h3⟩
      · exact Or.inr ⟨by simp only [List.length_cons]; push_cast; omega, h2⟩
theorem gk_table (hC : gk_C Z Y cc nL own d) {dflt lo hi : Int} {offs : Array Int} {len tg : Nat} {x : Int32} {ts : List Nat} {ks : List (Option α)} {kd : Option α} (hd : decode cc pc = .ok (.tableswitch dflt lo hi offs, len)) (hb : -1000 ≤ lo ∧ lo + ts.length = hi + 1 ∧ hi ≤ 1000) (ho : offs.toList.map (fun o => (pc : Int) + o) = ts.map (fun t : Nat => (t : Int))) (htd : (pc : Int) + dflt = (tg : Int))
    (h1 : gk_all (fun t k => gk_K Z Y nL ρ t lv st M k) ts ks) (h2 : gk_K Z Y nL ρ tg lv st M kd) : gk_K Z Y nL ρ pc lv (.int x :: st) M (gk_sw x lo ks kd) := by
  obtain ⟨p, l, e, R, s, m, args, below, meth, c, cells, slots, Qf⟩ := Z
  obtain ⟨hx, hbb, -⟩ := hC
  intro z hkz ls H locs hh hP hS
  rcases gk_sw_spec ts ks lo h1 hkz (fun i hi => by omega) with ⟨i, t, g1, g2, k, g3, g4⟩ | ⟨g1, g2⟩
  · have hi : i < ts.length := (List.getElem?_eq_some_iff.mp g1).1
    have hoi : (offs.toList.map (fun o => (pc : Int) + o))[i]? = some (t : Int) := by rw [ho, List.getElem?_map, g1]; rfl
    rw [List.getElem?_map] at hoi
    obtain ⟨o, ho1, ho2⟩ := Option.map_eq_some_iff.mp hoi
    refine lv_tableIn hx hbb hd (by omega) (by omega) (off := o) ?_ ho2 (g4 z g3 ls H locs hh hP hS)
    rw [show (x.toInt - lo).toNat = i by omega, ← Array.getElem?_toList]; exact ho1
  · exact lv_tableOut hx hbb hd (by omega) htd (h2 z g2 ls H locs hh hP hS)
theorem gk_lk_spec {P : Nat → Option α → Prop} {x : Int32} {dflt : Int} {kd : Option α} {z : α} : ∀ (ps : List (Int × Int)) (ts : List Nat) (ks : List (Int × Option α)) (pc : Nat), ks.map (·.1) = ps.map (·.1) → ps.map (fun o => (pc : Int) + o.2) = ts.map (fun t : Nat => (t : Int)) → gk_all P ts (ks.map (·.2)) → (∀ o ∈ ps, -1000 ≤ o.1 ∧ o.1 ≤ 1000) → gk_lk x ks kd = some z → (∃ (off : Int) (t : Nat) (k : Option α), Op.lookupswitch.offset ps dflt x.toInt = off ∧ (pc : Int) + off = t ∧ k = some z ∧ P t k) ∨ (Op.lookupswitch.offset ps dflt x.toInt = dflt ∧ kd = some z)
  | [], _, [], _, _, _, _, _, h => Or.inr ⟨rfl, h⟩
  | [], _, _ :: _, _, h, _, _, _, _ => by simp at h
  | _ :: _, _, [], _, h, _, _, _, _ => by simp at h
  | _ :: _, [], _ :: _, _, _, h, _, _, _ => by simp at h
  | (v, o) :: ps, t :: ts, (v', k) :: ks, pc, e1, e2, hA, hb, h => by
    simp only [List.map_cons, List.cons.injEq] at e1 e2
    obtain ⟨rfl, e1⟩ := e1
    obtain ⟨e2a, e2⟩ := e2
    unfold gk_lk at h
    have hv := hb (v', o) List.mem_cons_self
    by_cases hx : x = Int32.ofInt v'
    · rw [if_pos hx] at h
      refine Or.inl ⟨o, t, k, ?_, e2a, h, hA.1⟩
      rw [Op.lookupswitch.offset_cons, if_pos]
      rw [hx, Int32.toInt_ofInt_of_le (by omega) (by omega)]
    · rw [if_neg hx] at h
      have hxn : ¬ x.toInt = v' := fun g => hx (by rw [← g, Int32.ofInt_toInt])
      rw [lv_osw (k := Int32.ofInt v') hx (Int32.toInt_ofInt_of_le (by omega) (by omega))]
      exact gk_lk_spec ps ts ks pc e1 e2 hA.2 (fun o ho => hb o (List.mem_cons_of_mem _ ho)) h
theorem gk_lookup (hC : gk_C Z Y cc nL own d) {dflt : Int} {ps : Array (Int × Int)} {len tg : Nat} {x : Int32} {ts : List Nat} {ks : List (Int × Option α)} {kd : Option α} (hd : decode cc pc = .ok (.lookupswitch dflt ps, len)) (hs : (ps.toList.zip (ps.toList.drop 1)).all (fun (a, next) => a.1 < next.1) = true) (hb : ∀ o ∈ ps.toList, -1000 ≤ o.1 ∧ o.1 ≤ 1000) (e1 : ks.map (·.1) = ps.toList.map (·.1)) (e2 : ps.toList.map (fun o => (pc : Int) + o.2) = ts.map (fun t : Nat => (t : Int))) (htd : (pc : Int) + dflt = (tg : Int))
    (h1 : gk_all (fun t k => gk_K Z Y nL ρ t lv st M k) ts (ks.map (·.2))) (h2 : gk_K Z Y nL ρ tg lv st M kd) : gk_K Z Y nL ρ pc lv (.int x :: st) M (gk_lk x ks kd) := by
  obtain ⟨p, l, e, R, s, m, args, below, meth, c, cells, slots, Qf⟩ := Z
  obtain ⟨hx, hbb, -⟩ := hC
  intro z hkz ls H locs hh hP hS
  rcases gk_lk_spec (dflt := dflt) ps.toList ts ks pc e1 e2 h1 hb hkz with ⟨o, t, k, g1, g2, g3, g4⟩ | ⟨g1, g2⟩
  · exact lv_lookup hx hbb hd hs g1 g2 (g4 z g3 ls H locs hh hP hS)
  · exact lv_lookup hx hbb hd hs g1 htd (h2 z g2 ls H locs hh hP hS)
end GKC
