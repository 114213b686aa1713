/-! The start keeps the joint invariant -/
def zW : zS := fun _ _ => 0
def zH : zS := fun k _ => if k = 13 then 1 else 0
theorem Y0_hL {D : va_G} {cA : Nat → ClassId} {x i o n b : Nat} (h : rfo i 0 = b ∧ rfo i 1 = i + o + 5 ∧ rfo i 2 = i + o ∧ rfo i 3 = i + o + 1 ∧ rfo i 4 = i + o + 2 ∧ rfo i 5 = i + o + 3 ∧ rfo i 6 = i + o + 4) (h1 : ∀ c, c < n → rfo (i + o + 5) c = i + o + 6 + c) (h2 : lno (i + o) = 8 ∧ lno (i + o + 1) = 8 ∧ lno (i + o + 2) = 8 ∧ lno (i + o + 3) = 8 ∧ lno (i + o + 4) = 8 ∧ lno (i + o + 5) = n) (h3 : 1 ≤ o ∧ (b + 26 ≤ i ∨ (i < b ∧ b + 26 ≤ i + o)) ∧ n ≤ 60) (h4 : rfo b 0 = b + 1 ∧ lno (b + 1) = 24) (h5 : ∀ w, w < 24 → rfo (b + 1) w = b + 2 + w) : hL (gk_ln (Y0 D cA x)) (gk_rf (Y0 D cA x)) (x + i) o n (x + b) := by
  unfold hL
  simp only [show x + i + o = x + (i + o) by omega]
  simp only [show ∀ k, x + (i + o) + k = x + (i + o + k) from fun k => by omega, show ∀ k, x + b + k = x + (b + k) from fun k => by omega, Y0_rf, Y0_ln]
  refine ⟨by rw [h.1, h.2.1, h.2.2.1, h.2.2.2.1, h.2.2.2.2.1, h.2.2.2.2.2.1, h.2.2.2.2.2.2]; exact ⟨rfl, rfl, rfl, rfl, rfl, rfl, rfl⟩, fun c hc => by rw [h1 c hc]; omega, h2, ⟨h3.1, by omega, h3.2.2⟩, by rw [h4.1], h4.2, fun w hw => by rw [h5 w hw]; omega⟩
theorem Y0_LY {D : va_G} {cA : Nat → ClassId} {x : Nat} : LY (gk_ln (Y0 D cA x)) (gk_rf (Y0 D cA x)) x (x + 284) := by
  refine ⟨rfl, ⟨?_, ?_, ?_, ?_⟩, ⟨?_, ?_, ?_, ⟨?_, ?_, ?_, ?_⟩⟩, ⟨?_, ?_, ?_, ?_, ?_, ?_, ?_⟩, ⟨?_, ?_, ?_⟩, ⟨?_, ?_, ?_, ?_⟩⟩
  · exact Y0_rf (i := 0)
  · exact Y0_hL (i := 1) (b := 2) ⟨rfl, rfl, rfl, rfl, rfl, rfl, rfl⟩ (fun c _ => (show 33 + 1 + c = _ by omega)) ⟨rfl, rfl, rfl, rfl, rfl, rfl⟩ (by omega) ⟨rfl, rfl⟩ (fun w _ => (show 3 + 1 + w = _ by omega))
  · exact Y0_rf (i := 0)
  · exact Y0_hL (i := 94) (b := 95) ⟨rfl, rfl, rfl, rfl, rfl, rfl, rfl⟩ (fun c _ => (show 126 + 1 + c = _ by omega)) ⟨rfl, rfl, rfl, rfl, rfl, rfl⟩ (by omega) ⟨rfl, rfl⟩ (fun w _ => (show 96 + 1 + w = _ by omega))
  · exact Y0_rf (i := 0)
  · exact Y0_rf (i := 0)
  · exact Y0_ln (i := 283)
  · exact ⟨Y0_rf (i := 187), Y0_rf (i := 187), Y0_rf (i := 187), Y0_rf (i := 187)⟩
  · exact ⟨Y0_ln (i := 214), Y0_ln (i := 215), Y0_ln (i := 216)⟩
  · intro k hk
    exact (Y0_rf (i := 214)).trans (show x + (214 + 3 + 15 * k) = x + 187 + 30 + 15 * k by omega)
  · intro k hk
    have e : x + 187 + 30 + 15 * k = x + (217 + 15 * k) := by omega
    rw [e]
    match k, hk with
    | 0, _ => exact Y0_hL (i := 217) (b := 188) ⟨rfl, rfl, rfl, rfl, rfl, rfl, rfl⟩ (fun c _ => (show 223 + 1 + c = _ by omega)) ⟨rfl, rfl, rfl, rfl, rfl, rfl⟩ (by omega) ⟨rfl, rfl⟩ (fun w _ => (show 189 + 1 + w = _ by omega))
    | 1, _ => exact Y0_hL (i := 232) (b := 188) ⟨rfl, rfl, rfl, rfl, rfl, rfl, rfl⟩ (fun c _ => (show 238 + 1 + c = _ by omega)) ⟨rfl, rfl, rfl, rfl, rfl, rfl⟩ (by omega) ⟨rfl, rfl⟩ (fun w _ => (show 189 + 1 + w = _ by omega))
    | 2, _ => exact Y0_hL (i := 247) (b := 188) ⟨rfl, rfl, rfl, rfl, rfl, rfl, rfl⟩ (fun c _ => (show 253 + 1 + c = _ by omega)) ⟨rfl, rfl, rfl, rfl, rfl, rfl⟩ (by omega) ⟨rfl, rfl⟩ (fun w _ => (show 189 + 1 + w = _ by omega))
    | 3, _ => exact Y0_hL (i := 262) (b := 188) ⟨rfl, rfl, rfl, rfl, rfl, rfl, rfl⟩ (fun c _ => (show 268 + 1 + c = _ by omega)) ⟨rfl, rfl, rfl, rfl, rfl, rfl⟩ (by omega) ⟨rfl, rfl⟩ (fun w _ => (show 189 + 1 + w = _ by omega))
  · exact Y0_rf (i := 0)
  · exact Y0_rf (i := 279)
  · exact Y0_rf (i := 279)
  · exact Y0_rf (i := 279)
  · exact Y0_ln (i := 280)
  · exact Y0_ln (i := 281)
  · exact Y0_ln (i := 282)
  · exact Y0_rf (i := 0)
  · exact Y0_rf (i := 277)
  · exact Y0_ln (i := 278)
  · intro k hk
    refine (Y0_rf (i := 284)).trans ?_
    rw [show rfo 284 k = 285 + k by show (if k ≤ 22 then 284 + 1 + k else _) = _; rw [if_pos hk]]
    omega
  · intro k hk
    rw [show x + 284 + 1 + k = x + (285 + k) by omega, Y0_ln]
    exact (by decide +kernel : ∀ k, k ≤ 22 → lno (285 + k) = mlen k) k hk
  · exact ⟨Y0_rf (i := 284), Y0_rf (i := 284), Y0_rf (i := 284), Y0_rf (i := 284), Y0_rf (i := 284), Y0_rf (i := 284), Y0_rf (i := 284), Y0_rf (i := 284), Y0_rf (i := 284), Y0_rf (i := 284)⟩
  · exact ⟨Y0_ln (i := 308), Y0_ln (i := 309), Y0_ln (i := 310), Y0_ln (i := 311), Y0_ln (i := 312), Y0_ln (i := 313), Y0_ln (i := 314), Y0_ln (i := 315), Y0_ln (i := 316), Y0_ln (i := 317)⟩
theorem M0_z {x i k : Nat} (h : spo i = 0) : (M0 x).1 (x + i) k = 0 := by rw [M0_at, m0_z h]
theorem M0_m {x i k : Nat} (h : spo i = 1) (hk : k < 8) : (M0 x).1 (x + i) k = -1 := by
  rw [M0_at]; unfold m0; rw [if_neg (by omega), if_pos h, if_pos hk]
theorem M0_s {x i k : Nat} (h : spo i = 2) (hk : k < 4) : (M0 x).1 (x + i) k = -1 := by
  rw [M0_at]; unfold m0; rw [if_neg (by omega), if_neg (by omega), if_pos hk]
theorem zH_IV : IV zW zH := by
  refine ⟨⟨by decide, fun w hw => absurd hw (Nat.not_lt_zero w)⟩, ⟨⟨by decide, by decide, by decide, by decide⟩, fun c hc => absurd hc (Nat.not_lt_zero c), fun l c c' hc => absurd hc (Nat.not_lt_zero c), fun l c c' hc => absurd hc (Nat.not_lt_zero c), fun i hi => absurd hi (Nat.not_lt_zero i), fun i j hi => absurd hi (Nat.not_lt_zero i)⟩, fun c hc => absurd hc (Nat.not_lt_zero c), fun l hl => absurd hl (Nat.not_lt_zero l), fun w hw => absurd hw (Nat.not_lt_zero w)⟩
theorem M0_JJ {x : Nat} : JJ x (x + 284) (M0 x) := by
  refine ⟨((zW, zH), (zW, zH), (zW, fun _ => 0), [], (0, fun _ => 0), (0, false, 0)), ?_, ?_, ?_⟩
  · exact ⟨zH_IV, fun h => absurd h (by decide), fun s _ => ⟨Nat.zero_le _, Nat.zero_le _⟩, by decide, by decide, by decide⟩
  · refine ⟨⟨⟨⟨M0_z (i := 1) rfl, M0_z (i := 1) rfl, M0_z (i := 1) rfl, M0_z (i := 1) rfl⟩, fun c hc => absurd hc (Nat.not_lt_zero c), fun l hl => ⟨M0_m (i := 28) rfl hl, M0_m (i := 29) rfl hl, M0_z (i := 30) rfl⟩, fun i hi => absurd hi (Nat.not_lt_zero i)⟩, ⟨M0_z (i := 2) rfl, fun w k hw => absurd hw (Nat.not_lt_zero w)⟩⟩, fun h => absurd h (by decide), ⟨M0_z (i := 0) rfl, M0_z (i := 0) rfl, M0_z (i := 0) rfl, M0_z (i := 0) rfl⟩, fun q hq => absurd hq (Nat.not_lt_zero q), ⟨fun s hs => ⟨M0_s (i := 280) rfl hs, M0_z (i := 281) rfl⟩, fun i _ => M0_z (i := 282) rfl⟩, ⟨M0_z (i := 277) rfl, fun i hi => absurd hi (Nat.not_lt_zero i)⟩, ⟨⟨M0_z (i := 217) rfl, M0_z (i := 217) rfl, M0_z (i := 217) rfl⟩, fun l hl => ⟨M0_m (i := 218) rfl hl, M0_m (i := 219) rfl hl, M0_z (i := 220) rfl⟩⟩⟩
  · have hm : ∀ k i, k ≤ 33 → (M0 x).1 (x + 284 + k) i = 0 := fun k i hk => by
      rw [show x + 284 + k = x + (284 + k) by omega]
      exact M0_z ((by decide +kernel : ∀ k, k ≤ 33 → spo (284 + k) = 0) k hk)
    refine ⟨⟨fun k i hk _ => ?_, fun k i h6 h20 h13 _ => ?_, fun i _ => (hm 14 i (by decide)).trans (show (0 : Int32) = nN 1 by decide), hm 21 0 (by decide), hm 21 1 (by decide), hm 21 2 (by decide), hm 21 3 (by decide), hm 21 4 (by decide)⟩, fun h => absurd h (by decide), ⟨hm 0 33 (by decide), hm 0 23 (by decide), hm 0 24 (by decide), hm 0 25 (by decide)⟩, fun q hq => absurd hq (Nat.not_lt_zero q), ⟨fun s hs => ⟨hm 31 s (by decide), hm 32 s (by decide)⟩, fun i _ => hm 33 i (by decide)⟩, ⟨hm 0 36 (by decide), fun i hi => absurd hi (Nat.not_lt_zero i)⟩⟩
    · rw [show x + 284 + 1 + k = x + 284 + (1 + k) by omega]; exact hm _ i (by omega)
    · rw [show x + 284 + 1 + k = x + 284 + (1 + k) by omega, hm _ i (by omega)]
      show _ = nI (if k = 13 then 1 else 0)
      rw [if_neg h13]; rfl
