/-! .. rules of branches, fields, rows, calls, ends; the words in which the methods' pure pictures are written -/
def gk_ald (ln : Nat → Nat) (M : gk_M) (a : Nat) (j : Int32) {α : Type} (k : Int32 → Option α) : Option α := if 0 ≤ j.toInt ∧ j.toInt < (ln a : Int) then k (M.1 a j.toNatClampNeg) else none
def gk_aldr (ln : Nat → Nat) (rf : Nat → Nat → Nat) (a : Nat) (j : Int32) {α : Type} (k : Nat → Option α) : Option α := if 0 ≤ j.toInt ∧ j.toInt < (ln a : Int) then k (rf a j.toNatClampNeg) else none
def gk_ast (ln : Nat → Nat) (M : gk_M) (a : Nat) (j v : Int32) {α : Type} (k : gk_M → Option α) : Option α := if 0 ≤ j.toInt ∧ j.toInt < (ln a : Int) then k (gk_wr M a j.toNatClampNeg v) else none
def gk_put (M : gk_M) (a f : Nat) (v : Int32) {α : Type} (k : gk_M → Option α) : Option α := k (gk_wr M a f v)
def gk_putz (M : gk_M) (a f : Nat) (v : Int32) {α : Type} (k : gk_M → Option α) : Option α := if v = 0 ∨ v = 1 then k (gk_wr M a f v) else none
def gk_putl (M : gk_M) (a : Nat) (v : Int64) {α : Type} (k : gk_M → Option α) : Option α := k (gk_wl M a v)
def gk_zz (v : Int32) {α : Type} (k : Option α) : Option α := if v = 0 ∨ v = 1 then k else none
def gk_jn {β α : Type} (k : β → α) (t : (β → α) → α) : α := t k
def gk_sw (x : Int32) {α : Type} : Int → List α → α → α
  | _, [], d => d
  | n, k :: ks, d => if x = Int32.ofInt n then k else gk_sw x (n + 1) ks d
def gk_lk (x : Int32) {α : Type} : List (Int × α) → α → α
  | [], d => d
  | (v, k) :: ks, d => if x = Int32.ofInt v then k else gk_lk x ks d
section GKB
variable {Z : gk_Z} {Y : gk_Y} {cc : ByteArray} {nL d pc q : Nat} {own : String} {α : Type} {ρ : α → Option Value × gk_M} {lv lv' : List (Nat × Value)} {st : List Value} {M : gk_M} {k k1 k2 : Option α}
theorem gk_jnR {β : Type} {kk : β → Option α} {t : (β → Option α) → Option α} (P : (β → Option α) → Prop) (h1 : P kk) (h2 : ∀ k' : β → Option α, P k' → gk_K Z Y nL ρ pc lv st M (t k')) : gk_K Z Y nL ρ pc lv st M (gk_jn kk t) := h2 kk h1
theorem gk_icmp_eq (hC : gk_C Z Y cc nL own d) {x y : Int32} {off : Int} {tg : Nat} {inst : Decidable (x = y)} (hd : decode cc pc = .ok (.if_icmp .eq off, 3)) (ht : (pc : Int) + off = (tg : Int)) (hq : pc + 3 = q) (h1 : gk_K Z Y nL ρ tg lv st M k1) (h2 : gk_K Z Y nL ρ q lv st M k2) : gk_K Z Y nL ρ pc lv (.int y :: .int x :: st) M (if x = y then k1 else k2) := by
  subst hq
  obtain ⟨p, l, e, R, s, m, args, below, meth, c, cells, slots, Qf⟩ := Z
  obtain ⟨hx, hb, -⟩ := hC
  intro z hk ls H locs hh hP hS
  exact lv_icmp_eq hx hb hd ht (fun g => h1 z (by rw [if_pos g] at hk; exact hk) ls H locs hh hP hS) (fun g => h2 z (by rw [if_neg g] at hk; exact hk) ls H locs hh hP hS)
theorem gk_icmp_ne (hC : gk_C Z Y cc nL own d) {x y : Int32} {off : Int} {tg : Nat} {inst : Decidable (x = y)} (hd : decode cc pc = .ok (.if_icmp .ne off, 3)) (ht : (pc : Int) + off = (tg : Int)) (hq : pc + 3 = q) (h1 : gk_K Z Y nL ρ q lv st M k1) (h2 : gk_K Z Y nL ρ tg lv st M k2) : gk_K Z Y nL ρ pc lv (.int y :: .int x :: st) M (if x = y then k1 else k2) := by
  subst hq
  obtain ⟨p, l, e, R, s, m, args, below, meth, c, cells, slots, Qf⟩ := Z
  obtain ⟨hx, hb, -⟩ := hC
  intro z hk ls H locs hh hP hS
  exact lv_icmp_ne hx hb hd ht (fun g => h2 z (by rw [if_neg g] at hk; exact hk) ls H locs hh hP hS) (fun g => h1 z (by rw [if_pos g] at hk; exact hk) ls H locs hh hP hS)
theorem gk_icmp_lt (hC : gk_C Z Y cc nL own d) {x y : Int32} {off : Int} {tg : Nat} {inst : Decidable (x < y)} (hd : decode cc pc = .ok (.if_icmp .lt off, 3)) (ht : (pc : Int) + off = (tg : Int)) (hq : pc + 3 = q) (h1 : gk_K Z Y nL ρ tg lv st M k1) (h2 : gk_K Z Y nL ρ q lv st M k2) : gk_K Z Y nL ρ pc lv (.int y :: .int x :: st) M (if x < y then k1 else k2) := by
  subst hq
  obtain ⟨p, l, e, R, s, m, args, below, meth, c, cells, slots, Qf⟩ := Z
  obtain ⟨hx, hb, -⟩ := hC
  intro z hk ls H locs hh hP hS
  exact lv_icmp_lt hx hb hd ht (fun g => h1 z (by rw [if_pos g] at hk; exact hk) ls H locs hh hP hS) (fun g => h2 z (by rw [if_neg g] at hk; exact hk) ls H locs hh hP hS)
theorem gk_icmp_ge (hC : gk_C Z Y cc nL own d) {x y : Int32} {off : Int} {tg : Nat} {inst : Decidable (y ≤ x)} (hd : decode cc pc = .ok (.if_icmp .ge off, 3)) (ht : (pc : Int) + off = (tg : Int)) (hq : pc + 3 = q) (h1 : gk_K Z Y nL ρ tg lv st M k1) (h2 : gk_K Z Y nL ρ q lv st M k2) : gk_K Z Y nL ρ pc lv (.int y :: .int x :: st) M (if y ≤ x then k1 else k2) := by
  subst hq
  obtain ⟨p, l, e, R, s, m, args, below, meth, c, cells, slots, Qf⟩ := Z
  obtain ⟨hx, hb, -⟩ := hC
  intro z hk ls H locs hh hP hS
  exact lv_icmp_ge hx hb hd ht (fun g => h1 z (by rw [if_pos g] at hk; exact hk) ls H locs hh hP hS) (fun g => h2 z (by rw [if_neg g] at hk; exact hk) ls H locs hh hP hS)
theorem gk_icmp_gt (hC : gk_C Z Y cc nL own d) {x y : Int32} {off : Int} {tg : Nat} {inst : Decidable (y < x)} (hd : decode cc pc = .ok (.if_icmp .gt off, 3)) (ht : (pc : Int) + off = (tg : Int)) (hq : pc + 3 = q) (h1 : gk_K Z Y nL ρ tg lv st M k1) (h2 : gk_K Z Y nL ρ q lv st M k2) : gk_K Z Y nL ρ pc lv (.int y :: .int x :: st) M (if y < x then k1 else k2) := by
  subst hq
  obtain ⟨p, l, e, R, s, m, args, below, meth, c, cells, slots, Qf⟩ := Z
  obtain ⟨hx, hb, -⟩ := hC
  intro z hk ls H locs hh hP hS
  exact lv_icmp_gt hx hb hd ht (fun g => h1 z (by rw [if_pos g] at hk; exact hk) ls H locs hh hP hS) (fun g => h2 z (by rw [if_neg g] at hk; exact hk) ls H locs hh hP hS)
theorem gk_icmp_le (hC : gk_C Z Y cc nL own d) {x y : Int32} {off : Int} {tg : Nat} {inst : Decidable (x ≤ y)} (hd : decode cc pc = .ok (.if_icmp .le off, 3)) (ht : (pc : Int) + off = (tg : Int)) (hq : pc + 3 = q) (h1 : gk_K Z Y nL ρ tg lv st M k1) (h2 : gk_K Z Y nL ρ q lv st M k2) : gk_K Z Y nL ρ pc lv (.int y :: .int x :: st) M (if x ≤ y then k1 else k2) := by
  subst hq
  obtain ⟨p, l, e, R, s, m, args, below, meth, c, cells, slots, Qf⟩ := Z
  obtain ⟨hx, hb, -⟩ := hC
  intro z hk ls H locs hh hP hS
  exact lv_icmp_le hx hb hd ht (fun g => h1 z (by rw [if_pos g] at hk; exact hk) ls H locs hh hP hS) (fun g => h2 z (by rw [if_neg g] at hk; exact hk) ls H locs hh hP hS)
theorem gk_if_eq (hC : gk_C Z Y cc nL own d) {x : Int32} {off : Int} {tg : Nat} {inst : Decidable (x = 0)} (hd : decode cc pc = .ok (.ifCond .eq off, 3)) (ht : (pc : Int) + off = (tg : Int)) (hq : pc + 3 = q) (h1 : gk_K Z Y nL ρ tg lv st M k1) (h2 : gk_K Z Y nL ρ q lv st M k2) : gk_K Z Y nL ρ pc lv (.int x :: st) M (if x = 0 then k1 else k2) := by
  subst hq
  obtain ⟨p, l, e, R, s, m, args, below, meth, c, cells, slots, Qf⟩ := Z
  obtain ⟨hx, hb, -⟩ := hC
  intro z hk ls H locs hh hP hS
  exact lv_if_eq hx hb hd ht (fun g => h1 z (by rw [if_pos g] at hk; exact hk) ls H locs hh hP hS) (fun g => h2 z (by rw [if_neg g] at hk; exact hk) ls H locs hh hP hS)
theorem gk_if_ne (hC : gk_C Z Y cc nL own d) {x : Int32} {off : Int} {tg : Nat} {inst : Decidable (x = 0)} (hd : decode cc pc = .ok (.ifCond .ne off, 3)) (ht : (pc : Int) + off = (tg : Int)) (hq : pc + 3 = q) (h1 : gk_K Z Y nL ρ q lv st M k1) (h2 : gk_K Z Y nL ρ tg lv st M k2) : gk_K Z Y nL ρ pc lv (.int x :: st) M (if x = 0 then k1 else k2) := by
  subst hq
  obtain ⟨p, l, e, R, s, m, args, below, meth, c, cells, slots, Qf⟩ := Z
  obtain ⟨hx, hb, -⟩ := hC
  intro z hk ls H locs hh hP hS
  exact lv_if_ne hx hb hd ht (fun g => h2 z (by rw [if_neg g] at hk; exact hk) ls H locs hh hP hS) (fun g => h1 z (by rw [if_pos g] at hk; exact hk) ls H locs hh hP hS)
theorem gk_if_lt (hC : gk_C Z Y cc nL own d) {x : Int32} {off : Int} {tg : Nat} {inst : Decidable (x < 0)} (hd : decode cc pc = .ok (.ifCond .lt off, 3)) (ht : (pc : Int) + off = (tg : Int)) (hq : pc + 3 = q) (h1 : gk_K Z Y nL ρ tg lv st M k1) (h2 : gk_K Z Y nL ρ q lv st M k2) : gk_K Z Y nL ρ pc lv (.int x :: st) M (if x < 0 then k1 else k2) := by
  subst hq
  obtain ⟨p, l, e, R, s, m, args, below, meth, c, cells, slots, Qf⟩ := Z
  obtain ⟨hx, hb, -⟩ := hC
  intro z hk ls H locs hh hP hS
  exact lv_if_lt hx hb hd ht (fun g => h1 z (by rw [if_pos g] at hk; exact hk) ls H locs hh hP hS) (fun g => h2 z (by rw [if_neg g] at hk; exact hk) ls H locs hh hP hS)
theorem gk_if_ge (hC : gk_C Z Y cc nL own d) {x : Int32} {off : Int} {tg : Nat} {inst : Decidable (0 ≤ x)} (hd : decode cc pc = .ok (.ifCond .ge off, 3)) (ht : (pc : Int) + off = (tg : Int)) (hq : pc + 3 = q) (h1 : gk_K Z Y nL ρ tg lv st M k1) (h2 : gk_K Z Y nL ρ q lv st M k2) : gk_K Z Y nL ρ pc lv (.int x :: st) M (if 0 ≤ x then k1 else k2) := by
  subst hq
  obtain ⟨p, l, e, R, s, m, args, below, meth, c, cells, slots, Qf⟩ := Z
  obtain ⟨hx, hb, -⟩ := hC
  intro z hk ls H locs hh hP hS
  exact lv_if_ge hx hb hd ht (fun g => h1 z (by rw [if_pos g] at hk; exact hk) ls H locs hh hP hS) (fun g => h2 z (by rw [if_neg g] at hk; exact hk) ls H locs hh hP hS)
theorem gk_if_gt (hC : gk_C Z Y cc nL own d) {x : Int32} {off : Int} {tg : Nat} {inst : Decidable (0 < x)} (hd : decode cc pc = .ok (.ifCond .gt off, 3)) (ht : (pc : Int) + off = (tg : Int)) (hq : pc + 3 = q) (h1 : gk_K Z Y nL ρ tg lv st M k1) (h2 : gk_K Z Y nL ρ q lv st M k2) : gk_K Z Y nL ρ pc lv (.int x :: st) M (if 0 < x then k1 else k2) := by
  subst hq
  obtain ⟨p, l, e, R, s, m, args, below, meth, c, cells, slots, Qf⟩ := Z
  obtain ⟨hx, hb, -⟩ := hC
  intro z hk ls H locs hh hP hS
  exact lv_if_gt hx hb hd ht (fun g => h1 z (by rw [if_pos g] at hk; exact hk) ls H locs hh hP hS) (fun g => h2 z (by rw [if_neg g] at hk; exact hk) ls H locs hh hP hS)
theorem gk_if_le (hC : gk_C Z Y cc nL own d) {x : Int32} {off : Int} {tg : Nat} {inst : Decidable (x ≤ 0)} (hd : decode cc pc = .ok (.ifCond .le off, 3)) (ht : (pc : Int) + off = (tg : Int)) (hq : pc + 3 = q) (h1 : gk_K Z Y nL ρ tg lv st M k1) (h2 : gk_K Z Y nL ρ q lv st M k2) : gk_K Z Y nL ρ pc lv (.int x :: st) M (if x ≤ 0 then k1 else k2) := by
  subst hq
  obtain ⟨p, l, e, R, s, m, args, below, meth, c, cells, slots, Qf⟩ := Z
  obtain ⟨hx, hb, -⟩ := hC
  intro z hk ls H locs hh hP hS
  exact lv_if_le hx hb hd ht (fun g => h1 z (by rw [if_pos g] at hk; exact hk) ls H locs hh hP hS) (fun g => h2 z (by rw [if_neg g] at hk; exact hk) ls H locs hh hP hS)
theorem gk_vp {j : Int32} {n : Nat} (h : 0 ≤ j.toInt ∧ j.toInt < (n : Int)) : vp_in j n := vp_in_iff.mpr h
theorem gk_clamp {j : Int32} {n : Nat} (h : 0 ≤ j.toInt ∧ j.toInt < (n : Int)) : j.toNatClampNeg < n := Nat.not_le.mp fun g => gk_vp h (Or.inr g)
/-- getfield of an int -/
theorem gk_getI (hC : gk_C Z Y cc nL own d) {idx t f a : Nat} (hd : decode cc pc = .ok (.getfield idx, 3)) (hf : gk_FL own idx t f 0) (ha : gk_T Y t a) (hq : pc + 3 = q) (h : gk_K Z Y nL ρ q lv (.int (M.1 a f) :: st) M k) : gk_K Z Y nL ρ pc lv (.ref a :: st) M k := by
  subst hq
  obtain ⟨p, l, e, R, s, m, args, below, meth, c, cells, slots, Qf⟩ := Z
  obtain ⟨hx, hb, hml, hown, hts, hK, hY, -⟩ := hC
  obtain ⟨C, T, N, hc, ht, hN, hk, hft, hw⟩ := hf
  obtain ⟨hin, -⟩ := gk_cls _ C T N hc
  obtain ⟨q0, hq0, hat⟩ := gk_ws_at (M := M) ha
  intro z hkz ls H locs hh hP hS
  refine va_get (v := .int (M.1 a f)) hx hb hts hin hown hK hP q0 (fs := gk_fs (gk_rf Y) M a t) (by rw [hat]; simp [gk_ce, ht]) hc f hk (hts _ hw) (fun _ g => g) ?_ hd (h z hkz ls H locs hh hP hS)
  rw [gk_fs_at (by omega), hft]; rfl
theorem gk_getZ (hC : gk_C Z Y cc nL own d) {idx t f a : Nat} (hd : decode cc pc = .ok (.getfield idx, 3)) (hf : gk_FL own idx t f 2) (ha : gk_T Y t a) (hq : pc + 3 = q) (h : gk_K Z Y nL ρ q lv (.int (M.1 a f) :: st) M k) : gk_K Z Y nL ρ pc lv (.ref a :: st) M k := by
  subst hq
  obtain ⟨p, l, e, R, s, m, args, below, meth, c, cells, slots, Qf⟩ := Z
  obtain ⟨hx, hb, hml, hown, hts, hK, hY, -⟩ := hC
  obtain ⟨C, T, N, hc, ht, hN, hk, hft, hw⟩ := hf
  obtain ⟨hin, -⟩ := gk_cls _ C T N hc
  obtain ⟨q0, hq0, hat⟩ := gk_ws_at (M := M) ha
  intro z hkz ls H locs hh hP hS
  refine va_get (v := .int (M.1 a f)) hx hb hts hin hown hK hP q0 (fs := gk_fs (gk_rf Y) M a t) (by rw [hat]; simp [gk_ce, ht]) hc f hk (hts _ hw) (fun _ g => g) ?_ hd (h z hkz ls H locs hh hP hS)
  rw [gk_fs_at (by omega), hft]; rfl
theorem gk_getL (hC : gk_C Z Y cc nL own d) {idx t f a : Nat} (hd : decode cc pc = .ok (.getfield idx, 3)) (hf : gk_FL own idx t f 1) (ha : gk_T Y t a) (hq : pc + 3 = q) (h : gk_K Z Y nL ρ q lv (.long (M.2 a) :: st) M k) : gk_K Z Y nL ρ pc lv (.ref a :: st) M k := by
  subst hq
  obtain ⟨p, l, e, R, s, m, args, below, meth, c, cells, slots, Qf⟩ := Z
  obtain ⟨hx, hb, hml, hown, hts, hK, hY, -⟩ := hC
  obtain ⟨C, T, N, hc, ht, hN, hk, hft, hw⟩ := hf
  obtain ⟨hin, -⟩ := gk_cls _ C T N hc
  obtain ⟨q0, hq0, hat⟩ := gk_ws_at (M := M) ha
  intro z hkz ls H locs hh hP hS
  refine va_get (v := .long (M.2 a)) hx hb hts hin hown hK hP q0 (fs := gk_fs (gk_rf Y) M a t) (by rw [hat]; simp [gk_ce, ht]) hc f hk (hts _ hw) (fun _ g => g) ?_ hd (h z hkz ls H locs hh hP hS)
  rw [gk_fs_at (by omega), hft]; rfl
theorem gk_getR (hC : gk_C Z Y cc nL own d) {idx t f a u : Nat} (hd : decode cc pc = .ok (.getfield idx, 3)) (hf : gk_FL own idx t f u) (hu : 10 ≤ u) (ha : gk_T Y t a) (hq : pc + 3 = q) (h : gk_T Y u (gk_rf Y a f) → gk_K Z Y nL ρ q lv (.ref (gk_rf Y a f) :: st) M k) : gk_K Z Y nL ρ pc lv (.ref a :: st) M k := by
  subst hq
  obtain ⟨p, l, e, R, s, m, args, below, meth, c, cells, slots, Qf⟩ := Z
  obtain ⟨hx, hb, hml, hown, hts, hK, hY, -⟩ := hC
  obtain ⟨C, T, N, hc, ht, hN, hk, hft, hw⟩ := hf
  obtain ⟨hin, -⟩ := gk_cls _ C T N hc
  obtain ⟨q0, hq0, hat⟩ := gk_ws_at (M := M) ha
  have hT : gk_T Y u (gk_rf Y a f) := by
    have := hY.2.2.1 a t f ha ht (by omega) (by omega)
    rwa [hft] at this
  intro z hkz ls H locs hh hP hS
  refine va_get (v := .ref (gk_rf Y a f)) hx hb hts hin hown hK hP q0 (fs := gk_fs (gk_rf Y) M a t) (by rw [hat]; simp [gk_ce, ht]) hc f hk (hts _ hw) (fun _ g => g) ?_ hd (h hT z hkz ls H locs hh hP hS)
  rw [gk_fs_at (by omega), hft]
  simp [gk_fv, show ¬ u = 1 by omega, show ¬ u < 10 by omega]
/-- putfield -/
theorem gk_putI (hC : gk_C Z Y cc nL own d) {idx t f a : Nat} {v : Int32} {kk : gk_M → Option α} (hd : decode cc pc = .ok (.putfield idx, 3)) (hf : gk_FP own idx t f 0 .int) (ha : gk_T Y t a) (hq : pc + 3 = q) (h : ∀ M', gk_K Z Y nL ρ q lv st M' (kk M')) : gk_K Z Y nL ρ pc lv (.int v :: .ref a :: st) M (gk_put M a f v kk) := by
  subst hq
  obtain ⟨p, l, e, R, s, m, args, below, meth, c, cells, slots, Qf⟩ := Z
  obtain ⟨hx, hb, hml, hown, hts, hK, hY, -⟩ := hC
  obtain ⟨C, T, N, hc, ht, hN, hk, hft, hw, hfin, hpd⟩ := hf
  obtain ⟨hin, ty, hty, hnm⟩ := gk_cls _ C T N hc
  obtain ⟨q0, hq0, hat⟩ := gk_ws_at (M := M) ha
  intro z hkz ls H locs hh hP hS
  refine va_put (v := .int v) (ty := .int) hx hb hts hin ty hty hnm hown hK hP (gk_WD hY) hS q0 (fs := gk_fs (gk_rf Y) M a t) (by rw [hat]; simp [gk_ce, ht]) hc f hk (hts _ hw) (fun _ g => g) hfin hpd rfl rfl (by simp only [gk_fs, List.length_map, List.length_range]; omega) hd fun H1 locs1 hP1 _ hS1 => ?_
  have hse : (gk_ws Y M).set q0 (a, .inr (t - 10, (gk_fs (gk_rf Y) M a t).set f (.int v))) = gk_ws Y (gk_wr M a f v) := gk_ws_set hY hq0 (by simp only [gk_ce, ht, if_true]; rw [gk_fs_wr (by rw [hft]; decide) (by rw [hft]; decide)]) (fun b u hb => gk_ce_wr hb)
  rw [hse] at hP1
  exact h _ z hkz ls H1 locs1 hh hP1 hS1
theorem gk_putZ (hC : gk_C Z Y cc nL own d) {idx t f a : Nat} {v : Int32} {kk : gk_M → Option α} (hd : decode cc pc = .ok (.putfield idx, 3)) (hf : gk_FP own idx t f 2 .boolean) (ha : gk_T Y t a) (hq : pc + 3 = q) (h : ∀ M', gk_K Z Y nL ρ q lv st M' (kk M')) : gk_K Z Y nL ρ pc lv (.int v :: .ref a :: st) M (gk_putz M a f v kk) := by
  subst hq
  obtain ⟨p, l, e, R, s, m, args, below, meth, c, cells, slots, Qf⟩ := Z
  obtain ⟨hx, hb, hml, hown, hts, hK, hY, -⟩ := hC
  obtain ⟨C, T, N, hc, ht, hN, hk, hft, hw, hfin, hpd⟩ := hf
  obtain ⟨hin, ty, hty, hnm⟩ := gk_cls _ C T N hc
  obtain ⟨q0, hq0, hat⟩ := gk_ws_at (M := M) ha
  intro z hkz ls H locs hh hP hS
  unfold gk_putz at hkz
  by_cases hv : v = 0 ∨ v = 1
  · rw [if_pos hv] at hkz
    refine va_put (v := .int v) (ty := .boolean) hx hb hts hin ty hty hnm hown hK hP (gk_WD hY) hS q0 (fs := gk_fs (gk_rf Y) M a t) (by rw [hat]; simp [gk_ce, ht]) hc f hk (hts _ hw) (fun _ g => g) hfin hpd (by rcases hv with rfl | rfl <;> rfl) (by rcases hv with rfl | rfl <;> rfl) (by simp only [gk_fs, List.length_map, List.length_range]; omega) hd fun H1 locs1 hP1 _ hS1 => ?_
    have hse : (gk_ws Y M).set q0 (a, .inr (t - 10, (gk_fs (gk_rf Y) M a t).set f (.int v))) = gk_ws Y (gk_wr M a f v) := gk_ws_set hY hq0 (by simp only [gk_ce, ht, if_true]; rw [gk_fs_wr (by rw [hft]; decide) (by rw [hft]; decide)]) (fun b u hb => gk_ce_wr hb)
    rw [hse] at hP1
    exact h _ z hkz ls H1 locs1 hh hP1 hS1
  · rw [if_neg hv] at hkz; cases hkz
theorem gk_putL (hC : gk_C Z Y cc nL own d) {idx a : Nat} {v : Int64} {kk : gk_M → Option α} (hd : decode cc pc = .ok (.putfield idx, 3)) (hf : gk_FP own idx 11 10 1 .long) (ha : gk_T Y 11 a) (hq : pc + 3 = q) (h : ∀ M', gk_K Z Y nL ρ q lv st M' (kk M')) : gk_K Z Y nL ρ pc lv (.long v :: .ref a :: st) M (gk_putl M a v kk) := by
  subst hq
  obtain ⟨p, l, e, R, s, m, args, below, meth, c, cells, slots, Qf⟩ := Z
  obtain ⟨hx, hb, hml, hown, hts, hK, hY, -⟩ := hC
  obtain ⟨C, T, N, hc, ht, hN, hk, hft, hw, hfin, hpd⟩ := hf
  obtain ⟨hin, ty, hty, hnm⟩ := gk_cls _ C T N hc
  obtain ⟨q0, hq0, hat⟩ := gk_ws_at (M := M) ha
  intro z hkz ls H locs hh hP hS
  refine va_put (v := .long v) (ty := .long) hx hb hts hin ty hty hnm hown hK hP (gk_WD hY) hS q0 (fs := gk_fs (gk_rf Y) M a 11) (by rw [hat]; simp [gk_ce]) hc 10 hk (hts _ hw) (fun _ g => g) hfin hpd rfl rfl (by simp only [gk_fs, List.length_map, List.length_range]; omega) hd fun H1 locs1 hP1 _ hS1 => ?_
  have hse : (gk_ws Y M).set q0 (a, .inr (11 - 10, (gk_fs (gk_rf Y) M a 11).set 10 (.long v))) = gk_ws Y (gk_wl M a v) := gk_ws_set hY hq0 (by simp only [gk_ce]; rw [gk_fs_wl]; rfl) (fun b u hb => gk_ce_wl hb)
  rw [hse] at hP1
  exact h _ z hkz ls H1 locs1 hh hP1 hS1
/-- rows of ints -/
theorem gk_iald (hC : gk_C Z Y cc nL own d) {a : Nat} {j : Int32} {kk : Int32 → Option α} (hd : decode cc pc = .ok (.iaload, 1)) (ha : gk_T Y 100 a) (hq : pc + 1 = q) (h : ∀ x, gk_K Z Y nL ρ q lv (.int x :: st) M (kk x)) : gk_K Z Y nL ρ pc lv (.int j :: .ref a :: st) M (gk_ald (gk_ln Y) M a j kk) := by
  subst hq
  obtain ⟨p, l, e, R, s, m, args, below, meth, c, cells, slots, Qf⟩ := Z
  obtain ⟨hx, hb, hml, hown, hts, hK, hY, -⟩ := hC
  obtain ⟨q0, hq0, hat⟩ := gk_ws_at (M := M) ha
  intro z hkz ls H locs hh hP hS
  unfold gk_ald at hkz
  by_cases hj : 0 ≤ j.toInt ∧ j.toInt < (gk_ln Y a : Int)
  · rw [if_pos hj] at hkz
    exact va_iald hx hb hK hP q0 0 (cA := gk_cA Y 100) (n := gk_ln Y a) (f := M.1 a) (by rw [hat]; simp [gk_ce]) rfl (gk_vp hj) hd (h _ z hkz ls H locs hh hP hS)
  · rw [if_neg hj] at hkz; cases hkz
theorem gk_iast (hC : gk_C Z Y cc nL own d) {a : Nat} {j v : Int32} {kk : gk_M → Option α} (hd : decode cc pc = .ok (.iastore, 1)) (ha : gk_T Y 100 a) (hq : pc + 1 = q) (h : ∀ M', gk_K Z Y nL ρ q lv st M' (kk M')) : gk_K Z Y nL ρ pc lv (.int v :: .int j :: .ref a :: st) M (gk_ast (gk_ln Y) M a j v kk) := by
  subst hq
  obtain ⟨p, l, e, R, s, m, args, below, meth, c, cells, slots, Qf⟩ := Z
  obtain ⟨hx, hb, hml, hown, hts, hK, hY, -⟩ := hC
  obtain ⟨q0, hq0, hat⟩ := gk_ws_at (M := M) ha
  intro z hkz ls H locs hh hP hS
  unfold gk_ast at hkz
  by_cases hj : 0 ≤ j.toInt ∧ j.toInt < (gk_ln Y a : Int)
  · rw [if_pos hj] at hkz
    refine va_iast hx hb hK hP (gk_WD hY) hS q0 0 (cA := gk_cA Y 100) (n := gk_ln Y a) (f := M.1 a) (by rw [hat]; simp [gk_ce]) rfl (gk_vp hj) hd fun H1 locs1 hP1 _ hS1 => ?_
    have hse : (gk_ws Y M).set q0 (a, .inl (gk_cA Y 100, gk_ln Y a, .inl (upd (M.1 a) j.toNatClampNeg v))) = gk_ws Y (gk_wr M a j.toNatClampNeg v) := by
      refine gk_ws_set hY hq0 ?_ (fun b u hb => gk_ce_wr hb)
      have hf : (gk_wr M a j.toNatClampNeg v).1 a = upd (M.1 a) j.toNatClampNeg v := by
        funext i
        simp [gk_wr, upd]
      simp [gk_ce, hf]
    rw [hse] at hP1
    exact h _ z hkz ls H1 locs1 hh hP1 hS1
  · rw [if_neg hj] at hkz; cases hkz
theorem gk_alen (hC : gk_C Z Y cc nL own d) {a : Nat} (hd : decode cc pc = .ok (.arraylength, 1)) (ha : gk_T Y 100 a) (hq : pc + 1 = q) (h : gk_K Z Y nL ρ q lv (.int (nI (gk_ln Y a)) :: st) M k) : gk_K Z Y nL ρ pc lv (.ref a :: st) M k := by
  subst hq
  obtain ⟨p, l, e, R, s, m, args, below, meth, c, cells, slots, Qf⟩ := Z
  obtain ⟨hx, hb, hml, hown, hts, hK, hY, -⟩ := hC
  obtain ⟨q0, hq0, hat⟩ := gk_ws_at (M := M) ha
  intro z hkz ls H locs hh hP hS
  exact va_alen hx hb hK hP q0 0 (cA := gk_cA Y 100) (x := (gk_ln Y a, .inl (M.1 a))) (by rw [hat]; simp [gk_ce]) rfl rfl hd (h z hkz ls H locs hh hP hS)
/-- rows of references: tag 100 + j -/
theorem gk_aald (hC : gk_C Z Y cc nL own d) {a t : Nat} {j : Int32} {kk : Nat → Option α} (hd : decode cc pc = .ok (.aaload, 1)) (ht : t = 101 ∨ t = 102 ∨ t = 103) (ha : gk_T Y t a) (hq : pc + 1 = q) (h : ∀ x, gk_T Y (gk_el t) x → gk_K Z Y nL ρ q lv (.ref x :: st) M (kk x)) : gk_K Z Y nL ρ pc lv (.int j :: .ref a :: st) M (gk_aldr (gk_ln Y) (gk_rf Y) a j kk) := by
  subst hq
  obtain ⟨p, l, e, R, s, m, args, below, meth, c, cells, slots, Qf⟩ := Z
  obtain ⟨hx, hb, hml, hown, hts, hK, hY, -⟩ := hC
  obtain ⟨q0, hq0, hat⟩ := gk_ws_at (M := M) ha
  intro z hkz ls H locs hh hP hS
  unfold gk_aldr at hkz
  by_cases hj : 0 ≤ j.toInt ∧ j.toInt < (gk_ln Y a : Int)
  · rw [if_pos hj] at hkz
    have hT := hY.2.2.2 a t j.toNatClampNeg ha (by omega) (gk_clamp hj)
    have hat' : (gk_ws Y M)[q0]? = some (a, .inl (gk_cA Y t, gk_ln Y a, .inr (.inr (.inr (.inr (fun i => some (gk_rf Y a i))))))) := by
      rw [hat]; simp [gk_ce, show ¬ t < 100 by omega, show ¬ t = 100 by omega]
    rcases ht with rfl | rfl | rfl
    · exact va_aldq hx hb hK hP q0 1 hat' rfl (gk_vp hj) hd (h _ hT z hkz ls H locs hh hP hS)
    · exact va_aldq hx hb hK hP q0 2 hat' rfl (gk_vp hj) hd (h _ hT z hkz ls H locs hh hP hS)
    · exact va_aldq hx hb hK hP q0 3 hat' rfl (gk_vp hj) hd (h _ hT z hkz ls H locs hh hP hS)
  · rw [if_neg hj] at hkz; cases hkz
theorem gk_alenR (hC : gk_C Z Y cc nL own d) {a t : Nat} (hd : decode cc pc = .ok (.arraylength, 1)) (ht : t = 101 ∨ t = 102 ∨ t = 103) (ha : gk_T Y t a) (hq : pc + 1 = q) (h : gk_K Z Y nL ρ q lv (.int (nI (gk_ln Y a)) :: st) M k) : gk_K Z Y nL ρ pc lv (.ref a :: st) M k := by
  subst hq
  obtain ⟨p, l, e, R, s, m, args, below, meth, c, cells, slots, Qf⟩ := Z
  obtain ⟨hx, hb, hml, hown, hts, hK, hY, -⟩ := hC
  obtain ⟨q0, hq0, hat⟩ := gk_ws_at (M := M) ha
  intro z hkz ls H locs hh hP hS
  have hat' : (gk_ws Y M)[q0]? = some (a, .inl (gk_cA Y t, gk_ln Y a, .inr (.inr (.inr (.inr (fun i => some (gk_rf Y a i))))))) := by
    rw [hat]; simp [gk_ce, show ¬ t < 100 by omega, show ¬ t = 100 by omega]
  rcases ht with rfl | rfl | rfl
  · exact va_alen hx hb hK hP q0 1 (x := (gk_ln Y a, _)) hat' rfl rfl hd (h z hkz ls H locs hh hP hS)
  · exact va_alen hx hb hK hP q0 2 (x := (gk_ln Y a, _)) hat' rfl rfl hd (h z hkz ls H locs hh hP hS)
  · exact va_alen hx hb hK hP q0 3 (x := (gk_ln Y a, _)) hat' rfl rfl hd (h z hkz ls H locs hh hP hS)
/-- ends -/
theorem gk_iret (hC : gk_C Z Y cc nL own d) (hR : gk_R Z Y (some .int)) {v : Int32} {x : α} (hd : decode cc pc = .ok (.ireturn, 1)) (hx : ρ x = (some (.int v), M)) : gk_K Z Y nL ρ pc lv [.int v] M (some x) := by
  obtain ⟨p, l, e, R, s, m, args, below, meth, c, cells, slots, Qf⟩ := Z
  obtain ⟨hxx, hb, hml, hown, hts, hK, hY, -⟩ := hC
  obtain ⟨rfl, rfl, rfl, hr, hlocks⟩ := hR
  intro z hkz ls H locs hh hP hS
  cases hkz
  rw [hx]
  exact W.iret hxx hb hr (fun t ht hW => ⟨rfl, by rw [ht]; exact hP, va_K.moved hW.alike hK, hS.F ht⟩) hS.2.2 hd
theorem gk_zret (hC : gk_C Z Y cc nL own d) (hR : gk_R Z Y (some .boolean)) {v : Int32} {x : α} (hd : decode cc pc = .ok (.ireturn, 1)) (hv : v = 0 ∨ v = 1) (hx : ρ x = (some (.int v), M)) : gk_K Z Y nL ρ pc lv [.int v] M (some x) := by
  obtain ⟨p, l, e, R, s, m, args, below, meth, c, cells, slots, Qf⟩ := Z
  obtain ⟨hxx, hb, hml, hown, hts, hK, hY, -⟩ := hC
  obtain ⟨rfl, rfl, rfl, hr, hlocks⟩ := hR
  intro z hkz ls H locs hh hP hS
  cases hkz
  rw [hx]
  exact W.zret hxx hb hr (by rcases hv with rfl | rfl <;> rfl) (fun t ht hW => ⟨rfl, by rw [ht]; exact hP, va_K.moved hW.alike hK, hS.F ht⟩) hS.2.2 hd
theorem gk_zzR {v : Int32} (h : (v = 0 ∨ v = 1) → gk_K Z Y nL ρ pc lv st M k) : gk_K Z Y nL ρ pc lv st M (gk_zz v k) := by
  unfold gk_zz
  by_cases hv : v = 0 ∨ v = 1
  · rw [if_pos hv]; exact h hv
  · rw [if_neg hv]; exact gk_none
theorem gk_vret (hC : gk_C Z Y cc nL own d) (hR : gk_R Z Y none) {x : α} (hd : decode cc pc = .ok (.return_, 1)) (hx : ρ x = (none, M)) : gk_K Z Y nL ρ pc lv [] M (some x) := by
  obtain ⟨p, l, e, R, s, m, args, below, meth, c, cells, slots, Qf⟩ := Z
  obtain ⟨hxx, hb, hml, hown, hts, hK, hY, -⟩ := hC
  obtain ⟨rfl, rfl, rfl, hr, hlocks⟩ := hR
  intro z hkz ls H locs hh hP hS
  cases hkz
  rw [hx]
  exact W.vret hxx hb hr (fun t ht hW => ⟨rfl, by rw [ht]; exact hP, va_K.moved hW.alike hK, hS.F ht⟩) hS.2.2 hd
end GKB
