/-! The judgement over such a world: 'gk_K Z Y nL ρ pc lv st M k': from this frame the machine comes to its end as 'k' tells, where k tells anything at all. A rule an instruction. -/
abbrev gk_Z : Type := Program × Launch × Env × Room × State × MethodId × Array Value × List Frame × Method × Code × Nat × Nat × ((Option Value × gk_M) → State → Prop)
def gk_G : gk_Z → gk_Y → (Option Value × gk_M) → Nat → Nat → List (Nat × Value) → List Value → gk_M → Prop
  | (p, l, e, R, s, m, args, below, meth, c, cells, slots, Qf), Y, x, nL, pc, lv, st, M => ∀ (ls : Array Slot) (H : Heap) (locs : List Loc), lv_has ls nL lv → va_P (gk_D Y) vwCl (gk_ws Y M) H → va_S (gk_A Y) s.heap H locs → W p l e R s m args below meth c H locs cells slots (Qf x) (F0 m pc ls st)
def gk_K (Z : gk_Z) (Y : gk_Y) (nL : Nat) {α : Type} (ρ : α → Option Value × gk_M) (pc : Nat) (lv : List (Nat × Value)) (st : List Value) (M : gk_M) (k : Option α) : Prop := ∀ x, k = some x → gk_G Z Y (ρ x) nL pc lv st M
/-- what the rules need of the frame: machine, code, words, room for d frames more -/
def gk_C : gk_Z → gk_Y → ByteArray → Nat → String → Nat → Prop
  | (p, _, _, R, s, m, args, _, _, c, cells, slots, _), Y, cc, nL, own, d => p.tables.exec = Jvm.exec ∧ c.code = cc ∧ c.maxLocals = nL ∧ s.vm.findClass own = some m.cls ∧ (∀ w ∈ gk_U, w.before args s = true) ∧ va_K (gk_D Y) vwCl (gk_ty Y) s ∧ gk_WF Y ∧ d ≤ R.frames ∧ 40 * d ≤ R.locals ∧ cells ≤ R.cells ∧ slots ≤ R.slots
def gk_Q (Y : gk_Y) (x : Option Value × gk_M) : Array Value → State → Outcome → State → Prop := fun _ st oc t => oc = .returned x.1 ∧ va_P (gk_D Y) vwCl (gk_ws Y x.2) t.heap ∧ va_K (gk_D Y) vwCl (gk_ty Y) t ∧ va_F (gk_A Y) st t
/-- .. and of a method's end -/
def gk_R : gk_Z → gk_Y → Option FieldType → Prop
  | (_, _, _, _, s, _, args, below, meth, _, cells, slots, Qf), Y, ret => Qf = (fun x => MQ below (gk_Q Y x) args s 0 0 (gk_A Y)) ∧ cells = 0 ∧ slots = 0 ∧ meth.sig.returnType = ret ∧ meth.locks = false
section GKR
variable {Z : gk_Z} {Y : gk_Y} {cc : ByteArray} {nL d pc q : Nat} {own : String} {α : Type} {ρ : α → Option Value × gk_M} {lv lv' : List (Nat × Value)} {st : List Value} {M : gk_M} {k k1 k2 : Option α}
theorem gk_none : gk_K Z Y nL ρ pc lv st M none := fun _ h => by cases h
/-- a step that keeps heap and locals -/
theorem gk_go {st' : List Value} (hC : gk_C Z Y cc nL own d) (h : gk_K Z Y nL ρ q lv st' M k)
    (w : ∀ (p : Program) (l : Launch) (e : Env) (R : Room) (s : State) (m : MethodId) (args : Array Value) (below : List Frame) (meth : Method) (c : Code) (H : Heap) (locs : List Loc) (cells slots : Nat) (Q : State → Prop) (ls : Array Slot), p.tables.exec = Jvm.exec → c.code = cc → s.vm.findClass own = some m.cls → (∀ w ∈ gk_U, w.before args s = true) → lv_has ls nL lv → W p l e R s m args below meth c H locs cells slots Q (F0 m q ls st') → W p l e R s m args below meth c H locs cells slots Q (F0 m pc ls st)) : gk_K Z Y nL ρ pc lv st M k := by
  obtain ⟨p, l, e, R, s, m, args, below, meth, c, cells, slots, Qf⟩ := Z
  obtain ⟨hx, hb, -, hown, hts, -⟩ := hC
  intro x hk ls H locs hl hP hS
  exact w p l e R s m args below meth c H locs cells slots _ ls hx hb hown hts hl (h x hk ls H locs hl hP hS)
theorem gk_iconst (hC : gk_C Z Y cc nL own d) {n : Int} {v : Int32} (hd : decode cc pc = .ok (.iconst n, 1)) (hv : Int32.ofInt n = v) (hq : pc + 1 = q) (h : gk_K Z Y nL ρ q lv (.int v :: st) M k) : gk_K Z Y nL ρ pc lv st M k := by
  subst hq; exact gk_go hC h fun p l e R s m args below meth c H locs cells slots Q ls hx hb _ _ _ => lv_iconst hx hb hd hv
theorem gk_bipush (hC : gk_C Z Y cc nL own d) {n : Int} {v : Int32} (hd : decode cc pc = .ok (.bipush n, 2)) (hv : (Int8.ofInt n).toInt32 = v) (hq : pc + 2 = q) (h : gk_K Z Y nL ρ q lv (.int v :: st) M k) : gk_K Z Y nL ρ pc lv st M k := by
  subst hq; exact gk_go hC h fun p l e R s m args below meth c H locs cells slots Q ls hx hb _ _ _ => lv_bipush hx hb hd hv
theorem gk_sipush (hC : gk_C Z Y cc nL own d) {n : Int} {v : Int32} (hd : decode cc pc = .ok (.sipush n, 3)) (hv : (Int16.ofInt n).toInt32 = v) (hq : pc + 3 = q) (h : gk_K Z Y nL ρ q lv (.int v :: st) M k) : gk_K Z Y nL ρ pc lv st M k := by
  subst hq; exact gk_go hC h fun p l e R s m args below meth c H locs cells slots Q ls hx hb _ _ _ => lv_sipush hx hb hd hv
theorem gk_lconst (hC : gk_C Z Y cc nL own d) {n : Fin 2} {v : Int64} (hd : decode cc pc = .ok (.lconst n, 1)) (hv : Int64.ofNat (n : Nat) = v) (hq : pc + 1 = q) (h : gk_K Z Y nL ρ q lv (.long v :: st) M k) : gk_K Z Y nL ρ pc lv st M k := by
  subst hq; exact gk_go hC h fun p l e R s m args below meth c H locs cells slots Q ls hx hb _ _ _ => lv_lconst hx hb hd hv
theorem gk_ldc2 (hC : gk_C Z Y cc nL own d) {idx : Nat} {v : Int64} (hw : Cond.constantLong own idx v ∈ gk_U) (hd : decode cc pc = .ok (.ldc2_w idx, 3)) (hq : pc + 3 = q) (h : gk_K Z Y nL ρ q lv (.long v :: st) M k) : gk_K Z Y nL ρ pc lv st M k := by
  subst hq; exact gk_go hC h fun p l e R s m args below meth c H locs cells slots Q ls hx hb hown hts _ => lv_ldc2 hx hb hown (hts _ hw) hd
theorem gk_ldcw (hC : gk_C Z Y cc nL own d) {idx : Nat} {v : Int32} (hw : Cond.constant own idx v ∈ gk_U) (hd : decode cc pc = .ok (.ldc_w idx, 3)) (hq : pc + 3 = q) (h : gk_K Z Y nL ρ q lv (.int v :: st) M k) : gk_K Z Y nL ρ pc lv st M k := by
  subst hq; exact gk_go hC h fun p l e R s m args below meth c H locs cells slots Q ls hx hb hown hts _ => lv_ldcw hx hb hown (hts _ hw) hd
theorem gk_iload_n (hC : gk_C Z Y cc nL own d) {i : Fin 4} {x : Int32} (n : Nat) (hd : decode cc pc = .ok (.iload_n i, 1)) (hl : lv[n]? = some ((i : Nat), .int x)) (hq : pc + 1 = q) (h : gk_K Z Y nL ρ q lv (.int x :: st) M k) : gk_K Z Y nL ρ pc lv st M k := by
  subst hq; exact gk_go hC h fun p l e R s m args below meth c H locs cells slots Q ls hx hb _ _ hh => lv_iload_n hx hb hd rfl (lv_at hh n hl)
theorem gk_iload (hC : gk_C Z Y cc nL own d) {i : Nat} {x : Int32} (n : Nat) (hd : decode cc pc = .ok (.iload i, 2)) (hl : lv[n]? = some (i, .int x)) (hq : pc + 2 = q) (h : gk_K Z Y nL ρ q lv (.int x :: st) M k) : gk_K Z Y nL ρ pc lv st M k := by
  subst hq; exact gk_go hC h fun p l e R s m args below meth c H locs cells slots Q ls hx hb _ _ hh => lv_iload hx hb hd (lv_at hh n hl)
theorem gk_aload_n (hC : gk_C Z Y cc nL own d) {i : Fin 4} {x : Nat} (n : Nat) (hd : decode cc pc = .ok (.aload_n i, 1)) (hl : lv[n]? = some ((i : Nat), .ref x)) (hq : pc + 1 = q) (h : gk_K Z Y nL ρ q lv (.ref x :: st) M k) : gk_K Z Y nL ρ pc lv st M k := by
  subst hq; exact gk_go hC h fun p l e R s m args below meth c H locs cells slots Q ls hx hb _ _ hh => lv_aload_n hx hb hd rfl (lv_at hh n hl)
theorem gk_aload (hC : gk_C Z Y cc nL own d) {i : Nat} {x : Nat} (n : Nat) (hd : decode cc pc = .ok (.aload i, 2)) (hl : lv[n]? = some (i, .ref x)) (hq : pc + 2 = q) (h : gk_K Z Y nL ρ q lv (.ref x :: st) M k) : gk_K Z Y nL ρ pc lv st M k := by
  subst hq; exact gk_go hC h fun p l e R s m args below meth c H locs cells slots Q ls hx hb _ _ hh => lv_aload hx hb hd (lv_at hh n hl)
theorem gk_lload_n (hC : gk_C Z Y cc nL own d) {i : Fin 4} {x : Int64} (n : Nat) (hd : decode cc pc = .ok (.lload_n i, 1)) (hl : lv[n]? = some ((i : Nat), .long x)) (hq : pc + 1 = q) (h : gk_K Z Y nL ρ q lv (.long x :: st) M k) : gk_K Z Y nL ρ pc lv st M k := by
  subst hq; exact gk_go hC h fun p l e R s m args below meth c H locs cells slots Q ls hx hb _ _ hh => lv_lload_n hx hb hd rfl (lv_at hh n hl)
theorem gk_lload (hC : gk_C Z Y cc nL own d) {i : Nat} {x : Int64} (n : Nat) (hd : decode cc pc = .ok (.lload i, 2)) (hl : lv[n]? = some (i, .long x)) (hq : pc + 2 = q) (h : gk_K Z Y nL ρ q lv (.long x :: st) M k) : gk_K Z Y nL ρ pc lv st M k := by
  subst hq; exact gk_go hC h fun p l e R s m args below meth c H locs cells slots Q ls hx hb _ _ hh => lv_lload hx hb hd (lv_at hh n hl)
/-- a store: the new list of locals by places of the old -/
abbrev gk_sl (i : Nat) (v : Value) (lv : List (Nat × Value)) (ps : List Nat) : List (Nat × Value) := lv_pick ((i, v) :: lv.filter (fun q => !(q.1 == i) && !(q.1 + 1 == i && q.2.category == 2))) ps
theorem gk_istore_n (hC : gk_C Z Y cc nL own d) {i : Fin 4} {x : Int32} (ps : List Nat) (hd : decode cc pc = .ok (.istore_n i, 1)) (hn : (i : Nat) < nL) (hl : gk_sl i (.int x) lv ps = lv') (hq : pc + 1 = q) (h : gk_K Z Y nL ρ q lv' st M k) : gk_K Z Y nL ρ pc lv (.int x :: st) M k := by
  subst hq
  obtain ⟨p, l, e, R, s, m, args, below, meth, c, cells, slots, Qf⟩ := Z
  obtain ⟨hx, hb, -⟩ := hC
  intro y hk ls H locs hh hP hS
  exact lv_istore_n hx hb hd rfl hh hn rfl fun ls' h' => h y hk ls' H locs (lv_sub h' ps hl) hP hS
theorem gk_istore (hC : gk_C Z Y cc nL own d) {i : Nat} {x : Int32} (ps : List Nat) (hd : decode cc pc = .ok (.istore i, 2)) (hn : i < nL) (hl : gk_sl i (.int x) lv ps = lv') (hq : pc + 2 = q) (h : gk_K Z Y nL ρ q lv' st M k) : gk_K Z Y nL ρ pc lv (.int x :: st) M k := by
  subst hq
  obtain ⟨p, l, e, R, s, m, args, below, meth, c, cells, slots, Qf⟩ := Z
  obtain ⟨hx, hb, -⟩ := hC
  intro y hk ls H locs hh hP hS
  exact lv_istore hx hb hd hh hn rfl fun ls' h' => h y hk ls' H locs (lv_sub h' ps hl) hP hS
theorem gk_astore_n (hC : gk_C Z Y cc nL own d) {i : Fin 4} {x : Nat} (ps : List Nat) (hd : decode cc pc = .ok (.astore_n i, 1)) (hn : (i : Nat) < nL) (hl : gk_sl i (.ref x) lv ps = lv') (hq : pc + 1 = q) (h : gk_K Z Y nL ρ q lv' st M k) : gk_K Z Y nL ρ pc lv (.ref x :: st) M k := by
  subst hq
  obtain ⟨p, l, e, R, s, m, args, below, meth, c, cells, slots, Qf⟩ := Z
  obtain ⟨hx, hb, -⟩ := hC
  intro y hk ls H locs hh hP hS
  exact lv_astore_n hx hb hd rfl hh hn rfl fun ls' h' => h y hk ls' H locs (lv_sub h' ps hl) hP hS
theorem gk_astore (hC : gk_C Z Y cc nL own d) {i : Nat} {x : Nat} (ps : List Nat) (hd : decode cc pc = .ok (.astore i, 2)) (hn : i < nL) (hl : gk_sl i (.ref x) lv ps = lv') (hq : pc + 2 = q) (h : gk_K Z Y nL ρ q lv' st M k) : gk_K Z Y nL ρ pc lv (.ref x :: st) M k := by
  subst hq
  obtain ⟨p, l, e, R, s, m, args, below, meth, c, cells, slots, Qf⟩ := Z
  obtain ⟨hx, hb, -⟩ := hC
  intro y hk ls H locs hh hP hS
  exact lv_astore hx hb hd hh hn rfl fun ls' h' => h y hk ls' H locs (lv_sub h' ps hl) hP hS
theorem gk_iinc (hC : gk_C Z Y cc nL own d) {i : Nat} {n : Int} {x v : Int32} (pl : Nat) (ps : List Nat) (hd : decode cc pc = .ok (.iinc i n, 3)) (hi : lv[pl]? = some (i, .int x)) (hv : Int32.ofInt n = v) (hn : i < nL) (hl : gk_sl i (.int (x + v)) lv ps = lv') (hq : pc + 3 = q) (h : gk_K Z Y nL ρ q lv' st M k) : gk_K Z Y nL ρ pc lv st M k := by
  subst hq; subst hv
  obtain ⟨p, l, e, R, s, m, args, below, meth, c, cells, slots, Qf⟩ := Z
  obtain ⟨hx, hb, -⟩ := hC
  intro y hk ls H locs hh hP hS
  exact lv_iinc hx hb hd hh hi rfl hn rfl fun ls' h' => h y hk ls' H locs (lv_sub h' ps hl) hP hS
/-- fewer locals -/
theorem gk_pick (ps : List Nat) (hl : lv_pick lv ps = lv') (h : gk_K Z Y nL ρ pc lv' st M k) : gk_K Z Y nL ρ pc lv st M k := by
  obtain ⟨p, l, e, R, s, m, args, below, meth, c, cells, slots, Qf⟩ := Z
  intro y hk ls H locs hh hP hS
  exact h y hk ls H locs (lv_sub hh ps hl) hP hS
theorem gk_iadd (hC : gk_C Z Y cc nL own d) {x y : Int32} (hd : decode cc pc = .ok (.iadd, 1)) (hq : pc + 1 = q) (h : gk_K Z Y nL ρ q lv (.int (x + y) :: st) M k) : gk_K Z Y nL ρ pc lv (.int y :: .int x :: st) M k := by
  subst hq; exact gk_go hC h fun p l e R s m args below meth c H locs cells slots Q ls hx hb _ _ _ => lv_iadd hx hb hd
theorem gk_isub (hC : gk_C Z Y cc nL own d) {x y : Int32} (hd : decode cc pc = .ok (.isub, 1)) (hq : pc + 1 = q) (h : gk_K Z Y nL ρ q lv (.int (x - y) :: st) M k) : gk_K Z Y nL ρ pc lv (.int y :: .int x :: st) M k := by
  subst hq; exact gk_go hC h fun p l e R s m args below meth c H locs cells slots Q ls hx hb _ _ _ => lv_isub hx hb hd
theorem gk_imul (hC : gk_C Z Y cc nL own d) {x y : Int32} (hd : decode cc pc = .ok (.imul, 1)) (hq : pc + 1 = q) (h : gk_K Z Y nL ρ q lv (.int (x * y) :: st) M k) : gk_K Z Y nL ρ pc lv (.int y :: .int x :: st) M k := by
  subst hq; exact gk_go hC h fun p l e R s m args below meth c H locs cells slots Q ls hx hb _ _ _ => lv_imul hx hb hd
theorem gk_iand (hC : gk_C Z Y cc nL own d) {x y : Int32} (hd : decode cc pc = .ok (.iand, 1)) (hq : pc + 1 = q) (h : gk_K Z Y nL ρ q lv (.int (x &&& y) :: st) M k) : gk_K Z Y nL ρ pc lv (.int y :: .int x :: st) M k := by
  subst hq; exact gk_go hC h fun p l e R s m args below meth c H locs cells slots Q ls hx hb _ _ _ => lv_iand hx hb hd
theorem gk_ior (hC : gk_C Z Y cc nL own d) {x y : Int32} (hd : decode cc pc = .ok (.ior, 1)) (hq : pc + 1 = q) (h : gk_K Z Y nL ρ q lv (.int (x ||| y) :: st) M k) : gk_K Z Y nL ρ pc lv (.int y :: .int x :: st) M k := by
  subst hq; exact gk_go hC h fun p l e R s m args below meth c H locs cells slots Q ls hx hb _ _ _ => lv_ior hx hb hd
theorem gk_ixor (hC : gk_C Z Y cc nL own d) {x y : Int32} (hd : decode cc pc = .ok (.ixor, 1)) (hq : pc + 1 = q) (h : gk_K Z Y nL ρ q lv (.int (x ^^^ y) :: st) M k) : gk_K Z Y nL ρ pc lv (.int y :: .int x :: st) M k := by
  subst hq; exact gk_go hC h fun p l e R s m args below meth c H locs cells slots Q ls hx hb _ _ _ => lv_ixor hx hb hd
theorem gk_ishl (hC : gk_C Z Y cc nL own d) {x y : Int32} (hd : decode cc pc = .ok (.ishl, 1)) (hq : pc + 1 = q) (h : gk_K Z Y nL ρ q lv (.int (x <<< (y &&& 31)) :: st) M k) : gk_K Z Y nL ρ pc lv (.int y :: .int x :: st) M k := by
  subst hq; exact gk_go hC h fun p l e R s m args below meth c H locs cells slots Q ls hx hb _ _ _ => lv_ishl hx hb hd
theorem gk_ishr (hC : gk_C Z Y cc nL own d) {x y : Int32} (hd : decode cc pc = .ok (.ishr, 1)) (hq : pc + 1 = q) (h : gk_K Z Y nL ρ q lv (.int (x >>> (y &&& 31)) :: st) M k) : gk_K Z Y nL ρ pc lv (.int y :: .int x :: st) M k := by
  subst hq; exact gk_go hC h fun p l e R s m args below meth c H locs cells slots Q ls hx hb _ _ _ => lv_ishr hx hb hd
theorem gk_iushr (hC : gk_C Z Y cc nL own d) {x y : Int32} (hd : decode cc pc = .ok (.iushr, 1)) (hq : pc + 1 = q) (h : gk_K Z Y nL ρ q lv (.int (x.toUInt32 >>> (y.toUInt32 &&& Int32.toUInt32 31)).toInt32 :: st) M k) : gk_K Z Y nL ρ pc lv (.int y :: .int x :: st) M k := by
  subst hq; exact gk_go hC h fun p l e R s m args below meth c H locs cells slots Q ls hx hb _ _ _ => lv_iushr hx hb hd rfl
theorem gk_idiv (hC : gk_C Z Y cc nL own d) {x y : Int32} (hd : decode cc pc = .ok (.idiv, 1)) (hy : ¬ y = 0) (hq : pc + 1 = q) (h : gk_K Z Y nL ρ q lv (.int (x / y) :: st) M k) : gk_K Z Y nL ρ pc lv (.int y :: .int x :: st) M k := by
  subst hq; exact gk_go hC h fun p l e R s m args below meth c H locs cells slots Q ls hx hb _ _ _ => lv_idiv hx hb hd hy
theorem gk_irem (hC : gk_C Z Y cc nL own d) {x y : Int32} (hd : decode cc pc = .ok (.irem, 1)) (hy : ¬ y = 0) (hq : pc + 1 = q) (h : gk_K Z Y nL ρ q lv (.int (x - x / y * y) :: st) M k) : gk_K Z Y nL ρ pc lv (.int y :: .int x :: st) M k := by
  subst hq; exact gk_go hC h fun p l e R s m args below meth c H locs cells slots Q ls hx hb _ _ _ => lv_irem hx hb hd hy
/-- a guard on the divisor -/
theorem gk_nz {y : Int32} (h : ¬ y = 0 → gk_K Z Y nL ρ pc lv st M k) : gk_K Z Y nL ρ pc lv st M (if y = 0 then none else k) := by
  by_cases hy : y = 0
  · rw [if_pos hy]; exact gk_none
  · rw [if_neg hy]; exact h hy
theorem gk_ladd (hC : gk_C Z Y cc nL own d) {x y : Int64} (hd : decode cc pc = .ok (.ladd, 1)) (hq : pc + 1 = q) (h : gk_K Z Y nL ρ q lv (.long (x + y) :: st) M k) : gk_K Z Y nL ρ pc lv (.long y :: .long x :: st) M k := by
  subst hq; exact gk_go hC h fun p l e R s m args below meth c H locs cells slots Q ls hx hb _ _ _ => lv_ladd hx hb hd
theorem gk_land (hC : gk_C Z Y cc nL own d) {x y : Int64} (hd : decode cc pc = .ok (.land, 1)) (hq : pc + 1 = q) (h : gk_K Z Y nL ρ q lv (.long (x &&& y) :: st) M k) : gk_K Z Y nL ρ pc lv (.long y :: .long x :: st) M k := by
  subst hq; exact gk_go hC h fun p l e R s m args below meth c H locs cells slots Q ls hx hb _ _ _ => lv_land hx hb hd
theorem gk_lor (hC : gk_C Z Y cc nL own d) {x y : Int64} (hd : decode cc pc = .ok (.lor, 1)) (hq : pc + 1 = q) (h : gk_K Z Y nL ρ q lv (.long (x ||| y) :: st) M k) : gk_K Z Y nL ρ pc lv (.long y :: .long x :: st) M k := by
  subst hq; exact gk_go hC h fun p l e R s m args below meth c H locs cells slots Q ls hx hb _ _ _ => lv_lor hx hb hd
theorem gk_lshl (hC : gk_C Z Y cc nL own d) {x : Int64} {y : Int32} (hd : decode cc pc = .ok (.lshl, 1)) (hq : pc + 1 = q) (h : gk_K Z Y nL ρ q lv (.long (x <<< (y.toInt64 &&& 63)) :: st) M k) : gk_K Z Y nL ρ pc lv (.int y :: .long x :: st) M k := by
  subst hq; exact gk_go hC h fun p l e R s m args below meth c H locs cells slots Q ls hx hb _ _ _ => lv_lshl hx hb hd rfl
theorem gk_lushr (hC : gk_C Z Y cc nL own d) {x : Int64} {y : Int32} (hd : decode cc pc = .ok (.lushr, 1)) (hq : pc + 1 = q) (h : gk_K Z Y nL ρ q lv (.long (x.toUInt64 >>> (y.toInt64.toUInt64 &&& Int64.toUInt64 63)).toInt64 :: st) M k) : gk_K Z Y nL ρ pc lv (.int y :: .long x :: st) M k := by
  subst hq; exact gk_go hC h fun p l e R s m args below meth c H locs cells slots Q ls hx hb _ _ _ => lv_lushr hx hb hd rfl
theorem gk_i2l (hC : gk_C Z Y cc nL own d) {x : Int32} (hd : decode cc pc = .ok (.i2l, 1)) (hq : pc + 1 = q) (h : gk_K Z Y nL ρ q lv (.long x.toInt64 :: st) M k) : gk_K Z Y nL ρ pc lv (.int x :: st) M k := by
  subst hq; exact gk_go hC h fun p l e R s m args below meth c H locs cells slots Q ls hx hb _ _ _ => lv_i2l hx hb hd rfl
theorem gk_l2i (hC : gk_C Z Y cc nL own d) {x : Int64} (hd : decode cc pc = .ok (.l2i, 1)) (hq : pc + 1 = q) (h : gk_K Z Y nL ρ q lv (.int x.toInt32 :: st) M k) : gk_K Z Y nL ρ pc lv (.long x :: st) M k := by
  subst hq; exact gk_go hC h fun p l e R s m args below meth c H locs cells slots Q ls hx hb _ _ _ => lv_l2i hx hb hd rfl
theorem gk_i2b (hC : gk_C Z Y cc nL own d) {x : Int32} (hd : decode cc pc = .ok (.i2b, 1)) (hq : pc + 1 = q) (h : gk_K Z Y nL ρ q lv (.int x.toInt8.toInt32 :: st) M k) : gk_K Z Y nL ρ pc lv (.int x :: st) M k := by
  subst hq; exact gk_go hC h fun p l e R s m args below meth c H locs cells slots Q ls hx hb _ _ _ => lv_i2b hx hb hd rfl
theorem gk_lcmp (hC : gk_C Z Y cc nL own d) {x y : Int64} (hd : decode cc pc = .ok (.lcmp, 1)) (hq : pc + 1 = q) (h : gk_K Z Y nL ρ q lv (.int (lg_cmp x y) :: st) M k) : gk_K Z Y nL ρ pc lv (.long y :: .long x :: st) M k := by
  subst hq; exact gk_go hC h fun p l e R s m args below meth c H locs cells slots Q ls hx hb _ _ _ => W.lcmp hx hb hd
theorem gk_dup (hC : gk_C Z Y cc nL own d) {v : Value} (hd : decode cc pc = .ok (.dup, 1)) (hv : v.category = 1) (hq : pc + 1 = q) (h : gk_K Z Y nL ρ q lv (v :: v :: st) M k) : gk_K Z Y nL ρ pc lv (v :: st) M k := by
  subst hq; exact gk_go hC h fun p l e R s m args below meth c H locs cells slots Q ls hx hb _ _ _ => lv_dup hx hb hd hv
theorem gk_dup2 (hC : gk_C Z Y cc nL own d) {v w : Value} (hd : decode cc pc = .ok (.dup2, 1)) (hv : v.category = 1) (hw : w.category = 1) (hq : pc + 1 = q) (h : gk_K Z Y nL ρ q lv (v :: w :: v :: w :: st) M k) : gk_K Z Y nL ρ pc lv (v :: w :: st) M k := by
  subst hq; exact gk_go hC h fun p l e R s m args below meth c H locs cells slots Q ls hx hb _ _ _ => lv_dup2_11 hx hb hd hv hw
theorem gk_pop (hC : gk_C Z Y cc nL own d) {v : Value} (hd : decode cc pc = .ok (.pop, 1)) (hv : v.category = 1) (hq : pc + 1 = q) (h : gk_K Z Y nL ρ q lv st M k) : gk_K Z Y nL ρ pc lv (v :: st) M k := by
  subst hq; exact gk_go hC h fun p l e R s m args below meth c H locs cells slots Q ls hx hb _ _ _ => lv_pop hx hb hd hv
theorem gk_goto (hC : gk_C Z Y cc nL own d) {off : Int} (hd : decode cc pc = .ok (.goto off, 3)) (ht : (pc : Int) + off = (q : Int)) (h : gk_K Z Y nL ρ q lv st M k) : gk_K Z Y nL ρ pc lv st M k :=
  gk_go hC h fun p l e R s m args below meth c H locs cells slots Q ls hx hb _ _ _ => lv_goto hx hb hd ht
end GKR
