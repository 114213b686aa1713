/-! The reference's memory and the abstract state; its questions -/
def mlen (k : Nat) : Nat := ([24, 24, 24, 24, 24, 24, 60, 60, 60, 60, 540, 540, 60, 60, 60, 60, 600, 8, 8, 8, 5, 2500, 2500] : List Nat).getD k 0
def mL (LN : Nat → Nat) (RF : Nat → Nat → Nat) (m : Nat) : Prop := (∀ k, k ≤ 22 → RF m k = m + 1 + k) ∧ (∀ k, k ≤ 22 → LN (m + 1 + k) = mlen k) ∧ (RF m 26 = m + 24 ∧ RF m 27 = m + 25 ∧ RF m 29 = m + 26 ∧ RF m 30 = m + 27 ∧ RF m 31 = m + 28 ∧ RF m 34 = m + 29 ∧ RF m 35 = m + 30 ∧ RF m 37 = m + 31 ∧ RF m 38 = m + 32 ∧ RF m 39 = m + 33) ∧ (LN (m + 24) = 8 ∧ LN (m + 25) = 8 ∧ LN (m + 26) = 14 ∧ LN (m + 27) = 3 ∧ LN (m + 28) = 3 ∧ LN (m + 29) = 24 ∧ LN (m + 30) = 50 ∧ LN (m + 31) = 4 ∧ LN (m + 32) = 4 ∧ LN (m + 33) = 160)
def MR (m : Nat) (M : gk_M) (W S : zS) : Prop := (∀ k i, k < 6 → i < 24 → M.1 (m + 1 + k) i = nI (W k i)) ∧ (∀ k i, 6 ≤ k → k < 20 → k ≠ 13 → i < mlen k → M.1 (m + 1 + k) i = nI (S k i)) ∧ (∀ i, i < 60 → M.1 (m + 14) i = nN (S 13 i)) ∧ M.1 (m + 21) 0 = nI (S 20 0) ∧ M.1 (m + 21) 1 = nI (W 6 0) ∧ M.1 (m + 21) 2 = nI (S 20 2) ∧ M.1 (m + 21) 3 = nI (S 20 3) ∧ M.1 (m + 21) 4 = nI (S 20 4)
/-- bounds -/
def WB (W : zS) : Prop := W 6 0 ≤ 24 ∧ ∀ w, w < W 6 0 → W 0 w < 8 ∧ W 1 w < 8 ∧ W 2 w < 10 ∧ W 3 w < 8 ∧ W 4 w < 32 ∧ W 5 w ≤ 1
def SB (S : zS) : Prop := (S 20 0 ≤ 8 ∧ S 20 2 ≤ 60 ∧ S 20 3 ≤ 1000 ∧ S 20 4 ≤ 8) ∧ (∀ c, c < S 20 2 → S 6 c < 8 ∧ S 7 c ≤ 3 ∧ S 9 c ≤ 8 ∧ S 12 c < 256 ∧ S 13 c ≤ 8 ∧ S 14 c ≤ 1000 ∧ S 15 c ≤ 2 * S 9 c + 1) ∧ (∀ i, i < S 20 4 → S 17 i < 8 ∧ S 18 i < 8) ∧ (∀ c i, c < S 20 2 → i < S 9 c → S 10 (9 * c + i) < 8 ∧ S 11 (9 * c + i) < 8)
theorem b31 {a : Nat} (h : a < 1000000) : a < 2 ^ 31 := by omega
section MRD
variable {LN : Nat → Nat} {RF : Nat → Nat → Nat} {m : Nat} {M : gk_M} {W S : zS} {α : Type} {K : Int32 → Option α} {KM : gk_M → Option α}
theorem mr_0 (hL : mL LN RF m) (h : MR m M W S) {i : Nat} (hi : i < 24) : gk_ald LN M (RF m 0) (nI i) K = K (nI (W 0 i)) := by rw [hL.1 0 (by decide), ald_n (by rw [hL.2.1 0 (by decide)]; exact hi) (b31 (by omega)), h.1 0 i (by decide) hi]
theorem mr_1 (hL : mL LN RF m) (h : MR m M W S) {i : Nat} (hi : i < 24) : gk_ald LN M (RF m 1) (nI i) K = K (nI (W 1 i)) := by rw [hL.1 1 (by decide), ald_n (by rw [hL.2.1 1 (by decide)]; exact hi) (b31 (by omega)), h.1 1 i (by decide) hi]
theorem mr_2 (hL : mL LN RF m) (h : MR m M W S) {i : Nat} (hi : i < 24) : gk_ald LN M (RF m 2) (nI i) K = K (nI (W 2 i)) := by rw [hL.1 2 (by decide), ald_n (by rw [hL.2.1 2 (by decide)]; exact hi) (b31 (by omega)), h.1 2 i (by decide) hi]
theorem mr_3 (hL : mL LN RF m) (h : MR m M W S) {i : Nat} (hi : i < 24) : gk_ald LN M (RF m 3) (nI i) K = K (nI (W 3 i)) := by rw [hL.1 3 (by decide), ald_n (by rw [hL.2.1 3 (by decide)]; exact hi) (b31 (by omega)), h.1 3 i (by decide) hi]
theorem mr_4 (hL : mL LN RF m) (h : MR m M W S) {i : Nat} (hi : i < 24) : gk_ald LN M (RF m 4) (nI i) K = K (nI (W 4 i)) := by rw [hL.1 4 (by decide), ald_n (by rw [hL.2.1 4 (by decide)]; exact hi) (b31 (by omega)), h.1 4 i (by decide) hi]
theorem mr_5 (hL : mL LN RF m) (h : MR m M W S) {i : Nat} (hi : i < 24) : gk_ald LN M (RF m 5) (nI i) K = K (nI (W 5 i)) := by rw [hL.1 5 (by decide), ald_n (by rw [hL.2.1 5 (by decide)]; exact hi) (b31 (by omega)), h.1 5 i (by decide) hi]
theorem mr_6 (hL : mL LN RF m) (h : MR m M W S) {i : Nat} (hi : i < 60) : gk_ald LN M (RF m 6) (nI i) K = K (nI (S 6 i)) := by rw [hL.1 6 (by decide), ald_n (by rw [hL.2.1 6 (by decide)]; exact hi) (b31 (by omega)), h.2.1 6 i (by decide) (by decide) (by decide) hi]
theorem mr_7 (hL : mL LN RF m) (h : MR m M W S) {i : Nat} (hi : i < 60) : gk_ald LN M (RF m 7) (nI i) K = K (nI (S 7 i)) := by rw [hL.1 7 (by decide), ald_n (by rw [hL.2.1 7 (by decide)]; exact hi) (b31 (by omega)), h.2.1 7 i (by decide) (by decide) (by decide) hi]
theorem mr_8 (hL : mL LN RF m) (h : MR m M W S) {i : Nat} (hi : i < 60) : gk_ald LN M (RF m 8) (nI i) K = K (nI (S 8 i)) := by rw [hL.1 8 (by decide), ald_n (by rw [hL.2.1 8 (by decide)]; exact hi) (b31 (by omega)), h.2.1 8 i (by decide) (by decide) (by decide) hi]
theorem mr_9 (hL : mL LN RF m) (h : MR m M W S) {i : Nat} (hi : i < 60) : gk_ald LN M (RF m 9) (nI i) K = K (nI (S 9 i)) := by rw [hL.1 9 (by decide), ald_n (by rw [hL.2.1 9 (by decide)]; exact hi) (b31 (by omega)), h.2.1 9 i (by decide) (by decide) (by decide) hi]
theorem mr_10 (hL : mL LN RF m) (h : MR m M W S) {i : Nat} (hi : i < 540) : gk_ald LN M (RF m 10) (nI i) K = K (nI (S 10 i)) := by rw [hL.1 10 (by decide), ald_n (by rw [hL.2.1 10 (by decide)]; exact hi) (b31 (by omega)), h.2.1 10 i (by decide) (by decide) (by decide) hi]
theorem mr_11 (hL : mL LN RF m) (h : MR m M W S) {i : Nat} (hi : i < 540) : gk_ald LN M (RF m 11) (nI i) K = K (nI (S 11 i)) := by rw [hL.1 11 (by decide), ald_n (by rw [hL.2.1 11 (by decide)]; exact hi) (b31 (by omega)), h.2.1 11 i (by decide) (by decide) (by decide) hi]
theorem mr_12 (hL : mL LN RF m) (h : MR m M W S) {i : Nat} (hi : i < 60) : gk_ald LN M (RF m 12) (nI i) K = K (nI (S 12 i)) := by rw [hL.1 12 (by decide), ald_n (by rw [hL.2.1 12 (by decide)]; exact hi) (b31 (by omega)), h.2.1 12 i (by decide) (by decide) (by decide) hi]
theorem mr_13 (hL : mL LN RF m) (h : MR m M W S) {i : Nat} (hi : i < 60) : gk_ald LN M (RF m 13) (nI i) K = K (nN (S 13 i)) := by rw [hL.1 13 (by decide), ald_n (by rw [hL.2.1 13 (by decide)]; exact hi) (b31 (by omega)), show m + 1 + 13 = m + 14 by omega, h.2.2.1 i hi]
theorem mr_14 (hL : mL LN RF m) (h : MR m M W S) {i : Nat} (hi : i < 60) : gk_ald LN M (RF m 14) (nI i) K = K (nI (S 14 i)) := by rw [hL.1 14 (by decide), ald_n (by rw [hL.2.1 14 (by decide)]; exact hi) (b31 (by omega)), h.2.1 14 i (by decide) (by decide) (by decide) hi]
theorem mr_15 (hL : mL LN RF m) (h : MR m M W S) {i : Nat} (hi : i < 60) : gk_ald LN M (RF m 15) (nI i) K = K (nI (S 15 i)) := by rw [hL.1 15 (by decide), ald_n (by rw [hL.2.1 15 (by decide)]; exact hi) (b31 (by omega)), h.2.1 15 i (by decide) (by decide) (by decide) hi]
theorem mr_16 (hL : mL LN RF m) (h : MR m M W S) {i : Nat} (hi : i < 600) : gk_ald LN M (RF m 16) (nI i) K = K (nI (S 16 i)) := by rw [hL.1 16 (by decide), ald_n (by rw [hL.2.1 16 (by decide)]; exact hi) (b31 (by omega)), h.2.1 16 i (by decide) (by decide) (by decide) hi]
theorem mr_17 (hL : mL LN RF m) (h : MR m M W S) {i : Nat} (hi : i < 8) : gk_ald LN M (RF m 17) (nI i) K = K (nI (S 17 i)) := by rw [hL.1 17 (by decide), ald_n (by rw [hL.2.1 17 (by decide)]; exact hi) (b31 (by omega)), h.2.1 17 i (by decide) (by decide) (by decide) hi]
theorem mr_18 (hL : mL LN RF m) (h : MR m M W S) {i : Nat} (hi : i < 8) : gk_ald LN M (RF m 18) (nI i) K = K (nI (S 18 i)) := by rw [hL.1 18 (by decide), ald_n (by rw [hL.2.1 18 (by decide)]; exact hi) (b31 (by omega)), h.2.1 18 i (by decide) (by decide) (by decide) hi]
theorem mr_19 (hL : mL LN RF m) (h : MR m M W S) {i : Nat} (hi : i < 8) : gk_ald LN M (RF m 19) (nI i) K = K (nI (S 19 i)) := by rw [hL.1 19 (by decide), ald_n (by rw [hL.2.1 19 (by decide)]; exact hi) (b31 (by omega)), h.2.1 19 i (by decide) (by decide) (by decide) hi]
theorem mr_L (hL : mL LN RF m) (h : MR m M W S) : gk_ald LN M (RF m 20) 0 K = K (nI (S 20 0)) := by rw [hL.1 20 (by decide), show (0 : Int32) = nI 0 from rfl, ald_n (by rw [hL.2.1 20 (by decide)]; decide) (by decide), show m + 1 + 20 = m + 21 by omega, h.2.2.2.1]
theorem mr_W (hL : mL LN RF m) (h : MR m M W S) : gk_ald LN M (RF m 20) 1 K = K (nI (W 6 0)) := by rw [hL.1 20 (by decide), show (1 : Int32) = nI 1 from rfl, ald_n (by rw [hL.2.1 20 (by decide)]; decide) (by decide), show m + 1 + 20 = m + 21 by omega, h.2.2.2.2.1]
theorem mr_C (hL : mL LN RF m) (h : MR m M W S) : gk_ald LN M (RF m 20) 2 K = K (nI (S 20 2)) := by rw [hL.1 20 (by decide), show (2 : Int32) = nI 2 from rfl, ald_n (by rw [hL.2.1 20 (by decide)]; decide) (by decide), show m + 1 + 20 = m + 21 by omega, h.2.2.2.2.2.1]
theorem mr_T (hL : mL LN RF m) (h : MR m M W S) : gk_ald LN M (RF m 20) 3 K = K (nI (S 20 3)) := by rw [hL.1 20 (by decide), show (3 : Int32) = nI 3 from rfl, ald_n (by rw [hL.2.1 20 (by decide)]; decide) (by decide), show m + 1 + 20 = m + 21 by omega, h.2.2.2.2.2.2.1]
theorem mr_B (hL : mL LN RF m) (h : MR m M W S) : gk_ald LN M (RF m 20) 4 K = K (nI (S 20 4)) := by rw [hL.1 20 (by decide), show (4 : Int32) = nI 4 from rfl, ald_n (by rw [hL.2.1 20 (by decide)]; decide) (by decide), show m + 1 + 20 = m + 21 by omega, h.2.2.2.2.2.2.2]
theorem mw_0 (hL : mL LN RF m) {i : Nat} {v : Int32} (hi : i < 24) : gk_ast LN M (RF m 0) (nI i) v KM = KM (gk_wr M (m + 1) i v) := by rw [hL.1 0 (by decide), ast_n (by rw [hL.2.1 0 (by decide)]; exact hi) (b31 (by omega)), show m + 1 + 0 = m + 1 by omega]
theorem mw_1 (hL : mL LN RF m) {i : Nat} {v : Int32} (hi : i < 24) : gk_ast LN M (RF m 1) (nI i) v KM = KM (gk_wr M (m + 2) i v) := by rw [hL.1 1 (by decide), ast_n (by rw [hL.2.1 1 (by decide)]; exact hi) (b31 (by omega)), show m + 1 + 1 = m + 2 by omega]
theorem mw_2 (hL : mL LN RF m) {i : Nat} {v : Int32} (hi : i < 24) : gk_ast LN M (RF m 2) (nI i) v KM = KM (gk_wr M (m + 3) i v) := by rw [hL.1 2 (by decide), ast_n (by rw [hL.2.1 2 (by decide)]; exact hi) (b31 (by omega)), show m + 1 + 2 = m + 3 by omega]
theorem mw_3 (hL : mL LN RF m) {i : Nat} {v : Int32} (hi : i < 24) : gk_ast LN M (RF m 3) (nI i) v KM = KM (gk_wr M (m + 4) i v) := by rw [hL.1 3 (by decide), ast_n (by rw [hL.2.1 3 (by decide)]; exact hi) (b31 (by omega)), show m + 1 + 3 = m + 4 by omega]
theorem mw_4 (hL : mL LN RF m) {i : Nat} {v : Int32} (hi : i < 24) : gk_ast LN M (RF m 4) (nI i) v KM = KM (gk_wr M (m + 5) i v) := by rw [hL.1 4 (by decide), ast_n (by rw [hL.2.1 4 (by decide)]; exact hi) (b31 (by omega)), show m + 1 + 4 = m + 5 by omega]
theorem mw_5 (hL : mL LN RF m) {i : Nat} {v : Int32} (hi : i < 24) : gk_ast LN M (RF m 5) (nI i) v KM = KM (gk_wr M (m + 6) i v) := by rw [hL.1 5 (by decide), ast_n (by rw [hL.2.1 5 (by decide)]; exact hi) (b31 (by omega)), show m + 1 + 5 = m + 6 by omega]
theorem mw_6 (hL : mL LN RF m) {i : Nat} {v : Int32} (hi : i < 60) : gk_ast LN M (RF m 6) (nI i) v KM = KM (gk_wr M (m + 7) i v) := by rw [hL.1 6 (by decide), ast_n (by rw [hL.2.1 6 (by decide)]; exact hi) (b31 (by omega)), show m + 1 + 6 = m + 7 by omega]
theorem mw_7 (hL : mL LN RF m) {i : Nat} {v : Int32} (hi : i < 60) : gk_ast LN M (RF m 7) (nI i) v KM = KM (gk_wr M (m + 8) i v) := by rw [hL.1 7 (by decide), ast_n (by rw [hL.2.1 7 (by decide)]; exact hi) (b31 (by omega)), show m + 1 + 7 = m + 8 by omega]
theorem mw_8 (hL : mL LN RF m) {i : Nat} {v : Int32} (hi : i < 60) : gk_ast LN M (RF m 8) (nI i) v KM = KM (gk_wr M (m + 9) i v) := by rw [hL.1 8 (by decide), ast_n (by rw [hL.2.1 8 (by decide)]; exact hi) (b31 (by omega)), show m + 1 + 8 = m + 9 by omega]
theorem mw_9 (hL : mL LN RF m) {i : Nat} {v : Int32} (hi : i < 60) : gk_ast LN M (RF m 9) (nI i) v KM = KM (gk_wr M (m + 10) i v) := by rw [hL.1 9 (by decide), ast_n (by rw [hL.2.1 9 (by decide)]; exact hi) (b31 (by omega)), show m + 1 + 9 = m + 10 by omega]
theorem mw_10 (hL : mL LN RF m) {i : Nat} {v : Int32} (hi : i < 540) : gk_ast LN M (RF m 10) (nI i) v KM = KM (gk_wr M (m + 11) i v) := by rw [hL.1 10 (by decide), ast_n (by rw [hL.2.1 10 (by decide)]; exact hi) (b31 (by omega)), show m + 1 + 10 = m + 11 by omega]
theorem mw_11 (hL : mL LN RF m) {i : Nat} {v : Int32} (hi : i < 540) : gk_ast LN M (RF m 11) (nI i) v KM = KM (gk_wr M (m + 12) i v) := by rw [hL.1 11 (by decide), ast_n (by rw [hL.2.1 11 (by decide)]; exact hi) (b31 (by omega)), show m + 1 + 11 = m + 12 by omega]
theorem mw_12 (hL : mL LN RF m) {i : Nat} {v : Int32} (hi : i < 60) : gk_ast LN M (RF m 12) (nI i) v KM = KM (gk_wr M (m + 13) i v) := by rw [hL.1 12 (by decide), ast_n (by rw [hL.2.1 12 (by decide)]; exact hi) (b31 (by omega)), show m + 1 + 12 = m + 13 by omega]
theorem mw_13 (hL : mL LN RF m) {i : Nat} {v : Int32} (hi : i < 60) : gk_ast LN M (RF m 13) (nI i) v KM = KM (gk_wr M (m + 14) i v) := by rw [hL.1 13 (by decide), ast_n (by rw [hL.2.1 13 (by decide)]; exact hi) (b31 (by omega)), show m + 1 + 13 = m + 14 by omega]
theorem mw_14 (hL : mL LN RF m) {i : Nat} {v : Int32} (hi : i < 60) : gk_ast LN M (RF m 14) (nI i) v KM = KM (gk_wr M (m + 15) i v) := by rw [hL.1 14 (by decide), ast_n (by rw [hL.2.1 14 (by decide)]; exact hi) (b31 (by omega)), show m + 1 + 14 = m + 15 by omega]
theorem mw_15 (hL : mL LN RF m) {i : Nat} {v : Int32} (hi : i < 60) : gk_ast LN M (RF m 15) (nI i) v KM = KM (gk_wr M (m + 16) i v) := by rw [hL.1 15 (by decide), ast_n (by rw [hL.2.1 15 (by decide)]; exact hi) (b31 (by omega)), show m + 1 + 15 = m + 16 by omega]
theorem mw_16 (hL : mL LN RF m) {i : Nat} {v : Int32} (hi : i < 600) : gk_ast LN M (RF m 16) (nI i) v KM = KM (gk_wr M (m + 17) i v) := by rw [hL.1 16 (by decide), ast_n (by rw [hL.2.1 16 (by decide)]; exact hi) (b31 (by omega)), show m + 1 + 16 = m + 17 by omega]
theorem mw_17 (hL : mL LN RF m) {i : Nat} {v : Int32} (hi : i < 8) : gk_ast LN M (RF m 17) (nI i) v KM = KM (gk_wr M (m + 18) i v) := by rw [hL.1 17 (by decide), ast_n (by rw [hL.2.1 17 (by decide)]; exact hi) (b31 (by omega)), show m + 1 + 17 = m + 18 by omega]
theorem mw_18 (hL : mL LN RF m) {i : Nat} {v : Int32} (hi : i < 8) : gk_ast LN M (RF m 18) (nI i) v KM = KM (gk_wr M (m + 19) i v) := by rw [hL.1 18 (by decide), ast_n (by rw [hL.2.1 18 (by decide)]; exact hi) (b31 (by omega)), show m + 1 + 18 = m + 19 by omega]
theorem mw_19 (hL : mL LN RF m) {i : Nat} {v : Int32} (hi : i < 8) : gk_ast LN M (RF m 19) (nI i) v KM = KM (gk_wr M (m + 20) i v) := by rw [hL.1 19 (by decide), ast_n (by rw [hL.2.1 19 (by decide)]; exact hi) (b31 (by omega)), show m + 1 + 19 = m + 20 by omega]
theorem mw_20_0 (hL : mL LN RF m) {v : Int32} : gk_ast LN M (RF m 20) 0 v KM = KM (gk_wr M (m + 21) 0 v) := by rw [hL.1 20 (by decide), show (0 : Int32) = nI 0 from rfl, ast_n (by rw [hL.2.1 20 (by decide)]; decide) (by decide), show m + 1 + 20 = m + 21 by omega]
theorem mw_20_1 (hL : mL LN RF m) {v : Int32} : gk_ast LN M (RF m 20) 1 v KM = KM (gk_wr M (m + 21) 1 v) := by rw [hL.1 20 (by decide), show (1 : Int32) = nI 1 from rfl, ast_n (by rw [hL.2.1 20 (by decide)]; decide) (by decide), show m + 1 + 20 = m + 21 by omega]
theorem mw_20_2 (hL : mL LN RF m) {v : Int32} : gk_ast LN M (RF m 20) 2 v KM = KM (gk_wr M (m + 21) 2 v) := by rw [hL.1 20 (by decide), show (2 : Int32) = nI 2 from rfl, ast_n (by rw [hL.2.1 20 (by decide)]; decide) (by decide), show m + 1 + 20 = m + 21 by omega]
theorem mw_20_3 (hL : mL LN RF m) {v : Int32} : gk_ast LN M (RF m 20) 3 v KM = KM (gk_wr M (m + 21) 3 v) := by rw [hL.1 20 (by decide), show (3 : Int32) = nI 3 from rfl, ast_n (by rw [hL.2.1 20 (by decide)]; decide) (by decide), show m + 1 + 20 = m + 21 by omega]
theorem mw_20_4 (hL : mL LN RF m) {v : Int32} : gk_ast LN M (RF m 20) 4 v KM = KM (gk_wr M (m + 21) 4 v) := by rw [hL.1 20 (by decide), show (4 : Int32) = nI 4 from rfl, ast_n (by rw [hL.2.1 20 (by decide)]; decide) (by decide), show m + 1 + 20 = m + 21 by omega]
end MRD
/-- writing a row of the reference: the abstract state's write -/
theorem MR_wr {m : Nat} {M : gk_M} {W S : zS} (h : MR m M W S) {k i v : Nat} (h6 : 6 ≤ k) (h20 : k < 20) (h13 : k ≠ 13) : MR m (gk_wr M (m + (k + 1)) i (nI v)) W (su S k i v) := by
  obtain ⟨h1, h2, h3, h4, h5, h7, h8, h9⟩ := h
  refine ⟨fun k' i' hk hi => ?_, fun k' i' a b c d => ?_, fun i' hi => ?_, ?_, ?_, ?_, ?_, ?_⟩
  · rw [wr_1, if_neg (by omega), h1 k' i' hk hi]
  · rw [wr_1, su_eq, h2 k' i' a b c d]
    by_cases e : k' = k ∧ i' = i
    · rw [if_pos (by omega), if_pos e]
    · rw [if_neg (by omega), if_neg e]
  · rw [wr_1, if_neg (by omega), h3 i' hi, su_k (by omega)]
  · rw [wr_1, if_neg (by omega), h4, su_k (by omega)]
  · rw [wr_1, if_neg (by omega), h5]
  · rw [wr_1, if_neg (by omega), h7, su_k (by omega)]
  · rw [wr_1, if_neg (by omega), h8, su_k (by omega)]
  · rw [wr_1, if_neg (by omega), h9, su_k (by omega)]
theorem MR_wr13 {m : Nat} {M : gk_M} {W S : zS} (h : MR m M W S) {i v : Nat} : MR m (gk_wr M (m + 14) i (nN v)) W (su S 13 i v) := by
  obtain ⟨h1, h2, h3, h4, h5, h7, h8, h9⟩ := h
  refine ⟨fun k' i' hk hi => ?_, fun k' i' a b c d => ?_, fun i' hi => ?_, ?_, ?_, ?_, ?_, ?_⟩
  · rw [wr_1, if_neg (by omega), h1 k' i' hk hi]
  · rw [wr_1, if_neg (by omega), su_k c, h2 k' i' a b c d]
  · rw [wr_1, su_i, h3 i' hi]
    by_cases e : i' = i
    · rw [if_pos (by omega), if_pos e]
    · rw [if_neg (by omega), if_neg e]
  · rw [wr_1, if_neg (by omega), h4, su_k (by omega)]
  · rw [wr_1, if_neg (by omega), h5]
  · rw [wr_1, if_neg (by omega), h7, su_k (by omega)]
  · rw [wr_1, if_neg (by omega), h8, su_k (by omega)]
  · rw [wr_1, if_neg (by omega), h9, su_k (by omega)]
theorem MR_wr20 {m : Nat} {M : gk_M} {W S : zS} (h : MR m M W S) {i v : Nat} (hi1 : i ≠ 1) : MR m (gk_wr M (m + 21) i (nI v)) W (su S 20 i v) := by
  obtain ⟨h1, h2, h3, h4, h5, h7, h8, h9⟩ := h
  refine ⟨fun k' i' hk hi => ?_, fun k' i' a b c d => ?_, fun i' hi => ?_, ?_, ?_, ?_, ?_, ?_⟩
  · rw [wr_1, if_neg (by omega), h1 k' i' hk hi]
  · rw [wr_1, if_neg (by omega), su_k (by omega), h2 k' i' a b c d]
  · rw [wr_1, if_neg (by omega), h3 i' hi, su_k (by omega)]
  · rw [wr_1, su_i, h4]; by_cases e : 0 = i <;> simp [e]
  · rw [wr_1, if_neg (by omega), h5]
  · rw [wr_1, su_i, h7]; by_cases e : 2 = i <;> simp [e]
  · rw [wr_1, su_i, h8]; by_cases e : 3 = i <;> simp [e]
  · rw [wr_1, su_i, h9]; by_cases e : 4 = i <;> simp [e]
theorem MR_wrW {m : Nat} {M : gk_M} {W S : zS} (h : MR m M W S) {k i v : Nat} (hk6 : k < 6) : MR m (gk_wr M (m + (k + 1)) i (nI v)) (su W k i v) S := by
  obtain ⟨h1, h2, h3, h4, h5, h7, h8, h9⟩ := h
  refine ⟨fun k' i' hk hi => ?_, fun k' i' a b c d => ?_, fun i' hi => ?_, ?_, ?_, ?_, ?_, ?_⟩
  · rw [wr_1, su_eq, h1 k' i' hk hi]
    by_cases e : k' = k ∧ i' = i
    · rw [if_pos (by omega), if_pos e]
    · rw [if_neg (by omega), if_neg e]
  · rw [wr_1, if_neg (by omega), h2 k' i' a b c d]
  · rw [wr_1, if_neg (by omega), h3 i' hi]
  · rw [wr_1, if_neg (by omega), h4]
  · rw [wr_1, if_neg (by omega), h5, su_k (by omega)]
  · rw [wr_1, if_neg (by omega), h7]
  · rw [wr_1, if_neg (by omega), h8]
  · rw [wr_1, if_neg (by omega), h9]
theorem MR_wrn {m : Nat} {M : gk_M} {W S : zS} (h : MR m M W S) {v : Nat} : MR m (gk_wr M (m + 21) 1 (nI v)) (su W 6 0 v) S := by
  obtain ⟨h1, h2, h3, h4, h5, h7, h8, h9⟩ := h
  refine ⟨fun k' i' hk hi => ?_, fun k' i' a b c d => ?_, fun i' hi => ?_, ?_, ?_, ?_, ?_, ?_⟩
  · rw [wr_1, if_neg (by omega), h1 k' i' hk hi, su_k (by omega)]
  · rw [wr_1, if_neg (by omega), h2 k' i' a b c d]
  · rw [wr_1, if_neg (by omega), h3 i' hi]
  · rw [wr_1, if_neg (by omega), h4]
  · rw [wr_1, if_pos ⟨rfl, rfl⟩, su_s]
  · rw [wr_1, if_neg (by omega), h7]
  · rw [wr_1, if_neg (by omega), h8]
  · rw [wr_1, if_neg (by omega), h9]
/-- a write elsewhere -/
theorem MR_out {m : Nat} {M M' : gk_M} {W S : zS} (h : MR m M W S) (he : ∀ a, m + 1 ≤ a → a ≤ m + 21 → M'.1 a = M.1 a) : MR m M' W S := by
  obtain ⟨h1, h2, h3, h4, h5, h7, h8, h9⟩ := h
  refine ⟨fun k' i' hk hi => ?_, fun k' i' a b c d => ?_, fun i' hi => ?_, ?_, ?_, ?_, ?_, ?_⟩
  · rw [he _ (by omega) (by omega), h1 k' i' hk hi]
  · rw [he _ (by omega) (by omega), h2 k' i' a b c d]
  · rw [he _ (by omega) (by omega), h3 i' hi]
  · rw [he _ (by omega) (by omega), h4]
  · rw [he _ (by omega) (by omega), h5]
  · rw [he _ (by omega) (by omega), h7]
  · rw [he _ (by omega) (by omega), h8]
  · rw [he _ (by omega) (by omega), h9]
