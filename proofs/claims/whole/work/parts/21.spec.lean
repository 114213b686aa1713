/-! What the house does, over naturals: W k w the wishes (0 owner, 1 kind, 2 rank, 3 target, 4 number, 5 on; W 6 0: how many), S k i the rest (6 caller, 7 state, 8 reason, 9 rows, 10 row at 9 c + i, 11 payers, 12 ringing, 13 line + 1, 14 rung, 15 acts, 16 acted at 10 c + i, 17 and 18 backs, 19 costs; S 20 0 lines, 2 calls, 3 tick, 4 backs) -/
abbrev zS : Type := Nat → Nat → Nat
def su (S : zS) (k i v : Nat) : zS := fun k' i' => if k' = k ∧ i' = i then v else S k' i'
theorem su_eq (S : zS) (k i v k' i' : Nat) : su S k i v k' i' = if k' = k ∧ i' = i then v else S k' i' := rfl
theorem su_k {S : zS} {k i v k' i' : Nat} (h : k' ≠ k) : su S k i v k' i' = S k' i' := by rw [su_eq, if_neg (fun g => h g.1)]
theorem su_i {S : zS} {k i v i' : Nat} : su S k i v k i' = if i' = i then v else S k i' := by
  rw [su_eq]; by_cases h : i' = i <;> simp [h]
theorem su_s {S : zS} {k i v : Nat} : su S k i v k i = v := by rw [su_i, if_pos rfl]
def inn (S : zS) (l c : Nat) : Bool := !(S 7 c == 3) && (S 6 c == l || (S 12 c).testBit l || (S 7 c == 1 && S 13 c == l + 1))
def cOf (S : zS) (l : Nat) : Nat := fsf (inn S l) (S 20 2) 0
def knk (S : zS) (l c : Nat) : Bool := S 7 c == 2 && S 13 c == l + 1
def kAt (S : zS) (l : Nat) : Nat := lsf (knk S l) (S 20 2) 0 0
def hasW (W : zS) (l k : Nat) : Bool := anf (fun w => W 0 w == l && W 1 w == k && W 5 w == 1) (W 6 0) 0 false
def keyW (W : zS) (w : Nat) : Nat := W 2 w * 24 + w
def halfS (S : zS) : Nat := if S 20 3 % 24 < 12 then 0 else 1
def act1 (W S : zS) (c t s w : Nat) : Bool :=
  if W 1 w = 2 then (W 3 w == S 6 c || ((W 4 w).testBit 2 && W 3 w == s)) && (W 4 w).testBit (halfS S)
  else if W 1 w = 1 then W 4 w == 0 || (W 4 w == 1 && (!(cOf S t == 0) || t == S 6 c))
  else if W 1 w = 4 then !(cOf S t == 0) && !(t == S 6 c) && kAt S t == 0
  else false
def onOf (W : zS) (t w : Nat) : Bool := !(W 5 w == 0) && W 0 w == t
def actsS (W S : zS) (c t s : Nat) : Nat := amin (keyW W) (fun w => onOf W t w && act1 W S c t s w) (W 6 0)
def inRow (S : zS) (c t : Nat) : Bool := anf (fun i => S 10 (9 * c + i) == t) (S 9 c) 0 false
def endS (S : zS) (c why : Nat) : zS := su (su (su (su S 7 c 3) 8 c why) 12 c 0) 13 c 0
def rngS (S : zS) (c lines : Nat) : zS := su (su (su (su S 7 c 0) 12 c lines) 13 c 0) 14 c 0
def notS (S : zS) (c w : Nat) : zS := su (if S 15 c < 10 then su S 16 (10 * c + S 15 c) w else S) 15 c (S 15 c + 1)
def comS (W S : zS) (c t s : Nat) : zS := su (su (su S 10 (9 * c + S 9 c) t) 11 (9 * c + S 9 c) (if S 9 c = 0 ∧ hasW W t 7 = true then t else s)) 9 c (S 9 c + 1)
def knoS (S : zS) (c t : Nat) : zS := su (su (su S 7 c 2) 12 c 0) 13 c (t + 1)
def orf (p : Nat → Bool) (v : Nat → Nat) : Nat → Nat → Nat → Nat
  | 0, _, a => a
  | r + 1, i, a => orf p v r (i + 1) (if p i then a ||| 2 ^ v i else a)
def lnsS (W S : zS) (c t : Nat) : Nat := orf (fun w => (W 0 w == t && W 1 w == 6 && W 5 w == 1) && cOf S (W 3 w) == 0 && !(W 3 w == S 6 c)) (fun w => W 3 w) (W 6 0) 0 (2 ^ t)
def isBk (S : zS) (f t : Nat) : Bool := anf (fun i => S 17 i == f && S 18 i == t) (S 20 4) 0 false
def bckS (S : zS) (f t : Nat) : zS := if S 20 4 = 8 ∨ isBk S f t = true then S else su (su (su S 17 (S 20 4) f) 18 (S 20 4) t) 20 4 (S 20 4 + 1)
def arrS (W S : zS) (c t : Nat) : zS := if cOf S t = 0 ∧ t ≠ S 6 c then rngS S c (lnsS W S c t) else if hasW W (S 6 c) 5 = true then bckS (endS S c 3) (S 6 c) t else endS S c 3
def goS (W : zS) : Nat → zS → Nat → Nat → Nat → zS
  | 0, S, _, _, _ => S
  | n + 1, S, c, t, s =>
    if inRow S c t = true ∨ (t = S 6 c ∧ 0 < S 9 c) then endS S c 2
    else if actsS W (comS W S c t s) c t s = 0 then arrS W (comS W S c t s) c t
    else if W 1 (actsS W (comS W S c t s) c t s - 1) = 2 then endS (notS (comS W S c t s) c (actsS W (comS W S c t s) c t s - 1)) c 1
    else if W 1 (actsS W (comS W S c t s) c t s - 1) = 4 then knoS (notS (comS W S c t s) c (actsS W (comS W S c t s) c t s - 1)) c t
    else goS W n (notS (comS W S c t s) c (actsS W (comS W S c t s) c t s - 1)) c (W 3 (actsS W (comS W S c t s) c t s - 1)) t
def set1 (S : zS) (l : Nat) : zS := if kAt S l ≠ 0 ∧ cOf S l = 0 then rngS S (kAt S l - 1) (2 ^ l) else S
def setS : Nat → Nat → zS → zS
  | 0, _, S => S
  | r + 1, l, S => setS r (l + 1) (set1 S l)
def settS (S : zS) : zS := setS (S 20 0) 0 S
def newS (S : zS) (l : Nat) : zS := su (su (su (su (su (su (su (su (su S 20 2 (S 20 2 + 1)) 6 (S 20 2) l) 7 (S 20 2) 0) 8 (S 20 2) 0) 9 (S 20 2) 0) 12 (S 20 2) 0) 13 (S 20 2) 0) 14 (S 20 2) 0) 15 (S 20 2) 0
def diaS (W S : zS) (l t : Nat) : zS := settS (goS W 9 (newS S l) (S 20 2) t l)
def takS (S : zS) (l : Nat) : zS := settS (su (su (su S 7 (cOf S l - 1) 1) 12 (cOf S l - 1) 0) 13 (cOf S l - 1) (l + 1))
def dowS (S : zS) (l : Nat) : zS := settS (endS S (cOf S l - 1) 4)
def rinS (S : zS) (l : Nat) : Bool := !(cOf S l == 0) && (S 12 (cOf S l - 1)).testBit l
def lastS (S : zS) (c : Nat) : Nat := S 10 (9 * c + (S 9 c - 1))
def onwS (W S : zS) (c : Nat) : Nat := amin (keyW W) (fun w => onOf W (lastS S c) w && (W 1 w == 1 && W 4 w == 2 + (S 14 c + 1))) (W 6 0)
def rgoS (W S : zS) (c : Nat) : zS := if onwS W S c = 0 then su S 14 c (S 14 c + 1) else goS W 9 (su (notS (su S 14 c (S 14 c + 1)) c (onwS W S c - 1)) 12 c 0) c (W 3 (onwS W S c - 1)) (lastS S c)
def pay1 (c : Nat) : Nat → Nat → zS → zS
  | 0, _, S => S
  | r + 1, i, S => pay1 c r (i + 1) (su S 19 (S 11 (9 * c + i)) (S 19 (S 11 (9 * c + i)) + 1))
def chgS : Nat → Nat → zS → zS
  | 0, _, S => S
  | r + 1, c, S => chgS r (c + 1) (if S 7 c = 1 then pay1 c (S 9 c) 0 S else S)
def rg1 (W S : zS) (c : Nat) : zS := if S 7 c = 0 then settS (rgoS W S c) else S
def rgaS (W : zS) : Nat → Nat → zS → zS
  | 0, _, S => S
  | r + 1, c, S => rgaS W r (c + 1) (rg1 W S c)
/-- the back at place p goes -/
def drpS (S : zS) (p : Nat) : zS := fun k i => if k = 17 ∨ k = 18 then (if p ≤ i ∧ i + 1 < S 20 4 then S k (i + 1) else S k i) else if k = 20 ∧ i = 4 then S 20 4 - 1 else S k i
def bk1 (W : zS) (N : Nat) (S : zS) (p : Nat) : zS := diaS W (drpS S p) (S 17 p) (S 18 p)
def bkgS (S : zS) (N p : Nat) : Bool := cOf S (S 17 p) == 0 && cOf S (S 18 p) == 0 && decide (S 20 2 < N)
def bkaS (W : zS) (N : Nat) : Nat → Nat → zS → zS
  | 0, _, S => S
  | r + 1, p, S => if bkgS S N p = true then bkaS W N r p (bk1 W N S p) else bkaS W N r (p + 1) S
def tckS (W : zS) (N : Nat) (S : zS) : zS :=
  bkaS W N ((rgaS W (S 20 2) 0 (chgS (S 20 2) 0 (su S 20 3 (S 20 3 + 1)))) 20 4) 0 (rgaS W (S 20 2) 0 (chgS (S 20 2) 0 (su S 20 3 (S 20 3 + 1))))
