noncomputable section
def lp_X8_lineTold_102 (LN : Nat → Nat) (RF : Nat → Nat → Nat) (v0 : Nat) (v1 : Int32) (M : gk_M) (k146 : Int32 → Option (Int32)) : Nat → (Int32 × Int32) → Option (Int32)
  | 0, _ => none
  | n + 1, x =>
    gk_ald LN M (RF v0 20) 1 fun x2 =>
    if x2 ≤ x.2 then
      k146 x.1
    else
    gk_ald LN M (RF v0 0) x.2 fun x4 =>
    gk_jn (fun y5 : Int32 =>
      lp_X8_lineTold_102 LN RF v0 v1 M k146 n ((x.1 + y5), (x.2 + 1))) fun k137_5 =>
    if x4 = v1 then
      gk_ald LN M (RF v0 5) x.2 fun x8 =>
      k137_5 x8
    else
    k137_5 0
def lp_X8_lineTold_160 (LN : Nat → Nat) (RF : Nat → Nat → Nat) (v0 : Nat) (v1 : Int32) (v2 : Int32) (M : gk_M) (k186 : Int32 → Option (Int32)) : Nat → (Int32 × Int32) → Option (Int32)
  | 0, _ => none
  | n + 1, x =>
    if v2 ≤ x.2 then
      k186 x.1
    else
    if x.1 < 0 then
      k186 x.1
    else
    (f_X8_wishBehind LN RF v0 v1 x.1 M).bind fun r1 =>
    lp_X8_lineTold_160 LN RF v0 v1 v2 M k186 n (r1, (x.2 + 1))
def f_X8_lineTold (LN : Nat → Nat) (RF : Nat → Nat → Nat) (a0 : Nat) (a1 : Int32) (a2 : Int32) (M : gk_M) : Option (Int32) :=
  (f_X8_isLine LN RF a0 a1 M).bind fun r21 =>
  gk_jn (fun y22 : Unit =>
    some (-1)) fun k12_22 =>
  if r21 = 0 then
    k12_22 ()
  else
  if 0 ≤ a2 then
    (f_X8_callOf LN RF a0 a1 M).bind fun r24 =>
    gk_sw a2 0 [some r24,
      (f_X8_knockAt LN RF a0 a1 M).bind fun r25 =>
      some r25,
      gk_ald LN M (RF a0 19) a1 fun x27 =>
      some x27,
      gk_jn (fun y28 : Int32 =>
        some y28) fun k98_28 =>
      gk_jn (fun y30 : Unit =>
        k98_28 0) fun k97_30 =>
      if r24 < 0 then
        k97_30 ()
      else
      gk_ald LN M (RF a0 12) r24 fun x33 =>
      if ((x33 >>> (a1 &&& 31)) &&& 1) = 1 then
        k98_28 1
      else
      k97_30 (),
      gk_jn (fun y34 : Int32 =>
        some y34) fun k146_34 =>
      lp_X8_lineTold_102 LN RF a0 a1 M k146_34 gk_fuel (0, 0)]
    ((f_X8_wishBehind LN RF a0 a1 (-1) M).bind fun r37 =>
    gk_jn (fun y38 : Int32 =>
      some y38) fun k186_38 =>
    lp_X8_lineTold_160 LN RF a0 a1 a2 M k186_38 gk_fuel (r37, 5))
  else
  k12_22 ()
set_option maxHeartbeats 4000000 in
set_option maxRecDepth 100000 in
theorem lk_X8_lineTold_102 {Z : gk_Z} {Y : gk_Y} (hY : gk_WF Y) (hC : gk_C Z Y cX8_lineTold 7 RX8 1) (hR : gk_R Z Y (some .int)) (v0 : Nat) (v1 : Int32) (M : gk_M) (tv0 : gk_T Y 18 v0) (k146 : Int32 → Option (Int32)) (hk146 : ∀ z36 : Int32, gk_K Z Y 7 (gk_rR M) 146 [(4, .int z36)] [] M (k146 z36)) : ∀ (n : Nat) (x : Int32 × Int32), gk_K Z Y 7 (gk_rR M) 102 [(0, .ref v0), (1, .int v1), (4, .int x.1), (5, .int x.2)] [] M (lp_X8_lineTold_102 (gk_ln Y) (gk_rf Y) v0 v1 M k146 n x) := by
  intro n
  induction n with
  | zero => intro x; exact gk_none
  | succ n ih =>
    intro x
    rw [lp_X8_lineTold_102]
    refine gk_iload hC 3 dX8_lineTold_102 rfl (q := 104) rfl ?_
    refine gk_aload_n hC 0 dX8_lineTold_104 rfl (q := 105) rfl ?_
    refine gk_getR hC dX8_lineTold_105 fl_RX8_70 (by decide) tv0 (q := 108) rfl (fun t1 => ?_)
    refine gk_iconst hC (v := 1) dX8_lineTold_108 kc_i_1 (q := 109) rfl ?_
    refine gk_iald hC dX8_lineTold_109 t1 (q := 110) rfl (fun x2 => ?_)
    refine gk_icmp_ge hC dX8_lineTold_110 (tg := 146) rfl (q := 113) rfl ?_ ?_
    · refine gk_pick [2] rfl ?_
      exact hk146 x.1
    · refine gk_iload hC 2 dX8_lineTold_113 rfl (q := 115) rfl ?_
      refine gk_aload_n hC 0 dX8_lineTold_115 rfl (q := 116) rfl ?_
      refine gk_getR hC dX8_lineTold_116 fl_RX8_7 (by decide) tv0 (q := 119) rfl (fun t3 => ?_)
      refine gk_iload hC 3 dX8_lineTold_119 rfl (q := 121) rfl ?_
      refine gk_iald hC dX8_lineTold_121 t3 (q := 122) rfl (fun x4 => ?_)
      refine gk_iload_n hC 1 dX8_lineTold_122 rfl (q := 123) rfl ?_
      refine gk_jnR (fun k137_5 => ∀ z6 : Int32, gk_K Z Y 7 (gk_rR M) 137 [(0, .ref v0), (1, .int v1), (5, .int x.2)] [.int z6, .int x.1] M (k137_5 z6)) (fun y5 => ?_) (fun k137_5 hk137_5 => ?_)
      · show gk_K Z Y 7 (gk_rR M) 137 [(0, .ref v0), (1, .int v1), (5, .int x.2)] [.int y5, .int x.1] M _
        refine gk_iadd hC dX8_lineTold_137 (q := 138) rfl ?_
        refine gk_istore hC (lv' := [(0, .ref v0), (1, .int v1), (4, .int (x.1 + y5)), (5, .int x.2)]) [1, 2, 0, 3] dX8_lineTold_138 (by decide) rfl (q := 140) rfl ?_
        refine gk_iinc hC (v := 1) 3 (lv' := [(0, .ref v0), (1, .int v1), (4, .int (x.1 + y5)), (5, .int (x.2 + 1))]) [1, 2, 3, 0] dX8_lineTold_140 rfl kc_i_1 (by decide) rfl (q := 143) rfl ?_
        refine gk_goto hC dX8_lineTold_143 (q := 102) rfl ?_
        exact ih ((x.1 + y5), (x.2 + 1))
      · refine gk_icmp_ne hC dX8_lineTold_123 (tg := 136) rfl (q := 126) rfl ?_ ?_
        · refine gk_aload_n hC 0 dX8_lineTold_126 rfl (q := 127) rfl ?_
          refine gk_getR hC dX8_lineTold_127 fl_RX8_25 (by decide) tv0 (q := 130) rfl (fun t7 => ?_)
          refine gk_iload hC 3 dX8_lineTold_130 rfl (q := 132) rfl ?_
          refine gk_iald hC dX8_lineTold_132 t7 (q := 133) rfl (fun x8 => ?_)
          refine gk_goto hC dX8_lineTold_133 (q := 137) rfl ?_
          refine gk_pick [0, 1, 3] rfl ?_
          exact hk137_5 x8
        · refine gk_iconst hC (v := 0) dX8_lineTold_136 kc_i_0 (q := 137) rfl ?_
          refine gk_pick [0, 1, 3] rfl ?_
          exact hk137_5 0
set_option maxHeartbeats 4000000 in
set_option maxRecDepth 100000 in
theorem lk_X8_lineTold_160 {Z : gk_Z} {Y : gk_Y} (hY : gk_WF Y) (hC : gk_C Z Y cX8_lineTold 7 RX8 1) (hR : gk_R Z Y (some .int)) (v0 : Nat) (v1 : Int32) (v2 : Int32) (M : gk_M) (tv0 : gk_T Y 18 v0) (k186 : Int32 → Option (Int32)) (hk186 : ∀ z40 : Int32, gk_K Z Y 7 (gk_rR M) 186 [(5, .int z40)] [] M (k186 z40)) : ∀ (n : Nat) (x : Int32 × Int32), gk_K Z Y 7 (gk_rR M) 160 [(0, .ref v0), (1, .int v1), (2, .int v2), (5, .int x.1), (6, .int x.2)] [] M (lp_X8_lineTold_160 (gk_ln Y) (gk_rf Y) v0 v1 v2 M k186 n x) := by
  intro n
  induction n with
  | zero => intro x; exact gk_none
  | succ n ih =>
    intro x
    rw [lp_X8_lineTold_160]
    refine gk_iload hC 4 dX8_lineTold_160 rfl (q := 162) rfl ?_
    refine gk_iload_n hC 2 dX8_lineTold_162 rfl (q := 163) rfl ?_
    refine gk_icmp_ge hC dX8_lineTold_163 (tg := 186) rfl (q := 166) rfl ?_ ?_
    · refine gk_pick [3] rfl ?_
      exact hk186 x.1
    · refine gk_iload hC 3 dX8_lineTold_166 rfl (q := 168) rfl ?_
      refine gk_if_lt hC dX8_lineTold_168 (tg := 186) rfl (q := 171) rfl ?_ ?_
      · refine gk_pick [3] rfl ?_
        exact hk186 x.1
      · refine gk_aload_n hC 0 dX8_lineTold_171 rfl (q := 172) rfl ?_
        refine gk_iload_n hC 1 dX8_lineTold_172 rfl (q := 173) rfl ?_
        refine gk_iload hC 3 dX8_lineTold_173 rfl (q := 175) rfl ?_
        refine gk_callV (As := [.int v1, .int x.1]) (rest := []) hC (fun l => m_X8_wishBehind l hY v0 v1 x.1 M tv0) ml_RX8_157 ok_X8_wishBehind dX8_lineTold_175 tv0 ⟨by decide, rfl⟩ rfl (by decide) (Nat.le_of_ble_eq_true rfl) rfl (q := 178) rfl (fun r1 => ?_)
        show gk_K Z Y 7 (gk_rR M) 178 [(0, .ref v0), (1, .int v1), (2, .int v2), (5, .int x.1), (6, .int x.2)] [.int r1] M _
        refine gk_istore hC (lv' := [(0, .ref v0), (1, .int v1), (2, .int v2), (5, .int r1), (6, .int x.2)]) [1, 2, 3, 0, 4] dX8_lineTold_178 (by decide) rfl (q := 180) rfl ?_
        refine gk_iinc hC (v := 1) 4 (lv' := [(0, .ref v0), (1, .int v1), (2, .int v2), (5, .int r1), (6, .int (x.2 + 1))]) [1, 2, 3, 4, 0] dX8_lineTold_180 rfl kc_i_1 (by decide) rfl (q := 183) rfl ?_
        refine gk_goto hC dX8_lineTold_183 (q := 160) rfl ?_
        exact ih (r1, (x.2 + 1))
set_option maxHeartbeats 4000000 in
set_option maxRecDepth 100000 in
theorem m_X8_lineTold (l : Launch) {Y : gk_Y} (hY : gk_WF Y) (a0 : Nat) (a1 : Int32) (a2 : Int32) (M : gk_M) (t0 : gk_T Y 18 a0) : gk_MF l Y yX8_lineTold cX8_lineTold 7 (some .int) 1 [.ref a0, .int a1, .int a2] M (gk_rR M) (f_X8_lineTold (gk_ln Y) (gk_rf Y) a0 a1 a2 M) := by
  refine gk_met hY (plainFor_of_name (by decide)) (Nat.le_of_ble_eq_true rfl) fun Z hC hR => ?_
  show gk_K Z Y 7 (gk_rR M) 0 [(0, .ref a0), (1, .int a1), (2, .int a2)] [] M _
  unfold f_X8_lineTold
  refine gk_aload_n hC 0 dX8_lineTold_0 rfl (q := 1) rfl ?_
  refine gk_iload_n hC 1 dX8_lineTold_1 rfl (q := 2) rfl ?_
  refine gk_callV (As := [.int a1]) (rest := []) hC (fun l => m_X8_isLine l hY a0 a1 M t0) ml_RX8_120 ok_X8_isLine dX8_lineTold_2 t0 ⟨by decide, rfl⟩ rfl (by decide) (Nat.le_of_ble_eq_true rfl) rfl (q := 5) rfl (fun r21 => ?_)
  show gk_K Z Y 7 (gk_rR M) 5 [(0, .ref a0), (1, .int a1), (2, .int a2)] [.int r21] M _
  refine gk_jnR (fun k12_22 => ∀ z23 : Unit, gk_K Z Y 7 (gk_rR M) 12 [] [] M (k12_22 z23)) (fun y22 => ?_) (fun k12_22 hk12_22 => ?_)
  · show gk_K Z Y 7 (gk_rR M) 12 [] [] M _
    refine gk_iconst hC (v := (-1)) dX8_lineTold_12 kc_i_m1 (q := 13) rfl ?_
    exact gk_iret hC hR dX8_lineTold_13 rfl
  · refine gk_if_eq hC dX8_lineTold_5 (tg := 12) rfl (q := 8) rfl ?_ ?_
    · refine gk_pick [] rfl ?_
      exact hk12_22 ()
    · refine gk_iload_n hC 2 dX8_lineTold_8 rfl (q := 9) rfl ?_
      refine gk_if_ge hC dX8_lineTold_9 (tg := 14) rfl (q := 12) rfl ?_ ?_
      · refine gk_aload_n hC 0 dX8_lineTold_14 rfl (q := 15) rfl ?_
        refine gk_iload_n hC 1 dX8_lineTold_15 rfl (q := 16) rfl ?_
        refine gk_callV (As := [.int a1]) (rest := []) hC (fun l => m_X8_callOf l hY a0 a1 M t0) ml_RX8_145 ok_X8_callOf dX8_lineTold_16 t0 ⟨by decide, rfl⟩ rfl (by decide) (Nat.le_of_ble_eq_true rfl) rfl (q := 19) rfl (fun r24 => ?_)
        show gk_K Z Y 7 (gk_rR M) 19 [(0, .ref a0), (1, .int a1), (2, .int a2)] [.int r24] M _
        refine gk_istore_n hC (lv' := [(0, .ref a0), (1, .int a1), (2, .int a2), (3, .int r24)]) [1, 2, 3, 0] dX8_lineTold_19 (by decide) rfl (q := 20) rfl ?_
        refine gk_iconst hC (v := 0) dX8_lineTold_20 kc_i_0 (q := 21) rfl ?_
        refine gk_istore hC (lv' := [(0, .ref a0), (1, .int a1), (2, .int a2), (3, .int r24), (4, .int 0)]) [1, 2, 3, 4, 0] dX8_lineTold_21 (by decide) rfl (q := 23) rfl ?_
        refine gk_iload_n hC 2 dX8_lineTold_23 rfl (q := 24) rfl ?_
        refine gk_table hC (ts := [60, 62, 68, 75, 99]) (tg := 149) dX8_lineTold_24 (by decide) (by decide) rfl ⟨?_, ?_, ?_, ?_, ?_, trivial⟩ ?_
        · refine gk_iload_n hC 3 dX8_lineTold_60 rfl (q := 61) rfl ?_
          exact gk_iret hC hR dX8_lineTold_61 rfl
        · refine gk_aload_n hC 0 dX8_lineTold_62 rfl (q := 63) rfl ?_
          refine gk_iload_n hC 1 dX8_lineTold_63 rfl (q := 64) rfl ?_
          refine gk_callV (As := [.int a1]) (rest := []) hC (fun l => m_X8_knockAt l hY a0 a1 M t0) ml_RX8_154 ok_X8_knockAt dX8_lineTold_64 t0 ⟨by decide, rfl⟩ rfl (by decide) (Nat.le_of_ble_eq_true rfl) rfl (q := 67) rfl (fun r25 => ?_)
          show gk_K Z Y 7 (gk_rR M) 67 [(0, .ref a0), (1, .int a1), (2, .int a2), (3, .int r24), (4, .int 0)] [.int r25] M _
          exact gk_iret hC hR dX8_lineTold_67 rfl
        · refine gk_aload_n hC 0 dX8_lineTold_68 rfl (q := 69) rfl ?_
          refine gk_getR hC dX8_lineTold_69 fl_RX8_67 (by decide) t0 (q := 72) rfl (fun t26 => ?_)
          refine gk_iload_n hC 1 dX8_lineTold_72 rfl (q := 73) rfl ?_
          refine gk_iald hC dX8_lineTold_73 t26 (q := 74) rfl (fun x27 => ?_)
          exact gk_iret hC hR dX8_lineTold_74 rfl
        · refine gk_iload_n hC 3 dX8_lineTold_75 rfl (q := 76) rfl ?_
          refine gk_jnR (fun k98_28 => ∀ z29 : Int32, gk_K Z Y 7 (gk_rR M) 98 [] [.int z29] M (k98_28 z29)) (fun y28 => ?_) (fun k98_28 hk98_28 => ?_)
          · show gk_K Z Y 7 (gk_rR M) 98 [] [.int y28] M _
            exact gk_iret hC hR dX8_lineTold_98 rfl
          · refine gk_jnR (fun k97_30 => ∀ z31 : Unit, gk_K Z Y 7 (gk_rR M) 97 [] [] M (k97_30 z31)) (fun y30 => ?_) (fun k97_30 hk97_30 => ?_)
            · show gk_K Z Y 7 (gk_rR M) 97 [] [] M _
              refine gk_iconst hC (v := 0) dX8_lineTold_97 kc_i_0 (q := 98) rfl ?_
              exact hk98_28 0
            · refine gk_if_lt hC dX8_lineTold_76 (tg := 97) rfl (q := 79) rfl ?_ ?_
              · refine gk_pick [] rfl ?_
                exact hk97_30 ()
              · refine gk_aload_n hC 0 dX8_lineTold_79 rfl (q := 80) rfl ?_
                refine gk_getR hC dX8_lineTold_80 fl_RX8_46 (by decide) t0 (q := 83) rfl (fun t32 => ?_)
                refine gk_iload_n hC 3 dX8_lineTold_83 rfl (q := 84) rfl ?_
                refine gk_iald hC dX8_lineTold_84 t32 (q := 85) rfl (fun x33 => ?_)
                refine gk_iload_n hC 1 dX8_lineTold_85 rfl (q := 86) rfl ?_
                refine gk_ishr hC dX8_lineTold_86 (q := 87) rfl ?_
                refine gk_iconst hC (v := 1) dX8_lineTold_87 kc_i_1 (q := 88) rfl ?_
                refine gk_iand hC dX8_lineTold_88 (q := 89) rfl ?_
                refine gk_iconst hC (v := 1) dX8_lineTold_89 kc_i_1 (q := 90) rfl ?_
                refine gk_icmp_ne hC dX8_lineTold_90 (tg := 97) rfl (q := 93) rfl ?_ ?_
                · refine gk_iconst hC (v := 1) dX8_lineTold_93 kc_i_1 (q := 94) rfl ?_
                  refine gk_goto hC dX8_lineTold_94 (q := 98) rfl ?_
                  refine gk_pick [] rfl ?_
                  exact hk98_28 1
                · refine gk_pick [] rfl ?_
                  exact hk97_30 ()
        · refine gk_iconst hC (v := 0) dX8_lineTold_99 kc_i_0 (q := 100) rfl ?_
          refine gk_istore hC (lv' := [(0, .ref a0), (1, .int a1), (4, .int 0), (5, .int 0)]) [1, 2, 5, 0] dX8_lineTold_100 (by decide) rfl (q := 102) rfl ?_
          refine gk_jnR (fun k146_34 => ∀ z35 : Int32, gk_K Z Y 7 (gk_rR M) 146 [(4, .int z35)] [] M (k146_34 z35)) (fun y34 => ?_) (fun k146_34 hk146_34 => ?_)
          · show gk_K Z Y 7 (gk_rR M) 146 [(4, .int y34)] [] M _
            refine gk_iload hC 0 dX8_lineTold_146 rfl (q := 148) rfl ?_
            exact gk_iret hC hR dX8_lineTold_148 rfl
          · exact lk_X8_lineTold_102 hY hC hR a0 a1 M t0 k146_34 hk146_34 gk_fuel (0, 0)
        · refine gk_aload_n hC 0 dX8_lineTold_149 rfl (q := 150) rfl ?_
          refine gk_iload_n hC 1 dX8_lineTold_150 rfl (q := 151) rfl ?_
          refine gk_iconst hC (v := (-1)) dX8_lineTold_151 kc_i_m1 (q := 152) rfl ?_
          refine gk_callV (As := [.int a1, .int (-1)]) (rest := []) hC (fun l => m_X8_wishBehind l hY a0 a1 (-1) M t0) ml_RX8_157 ok_X8_wishBehind dX8_lineTold_152 t0 ⟨by decide, rfl⟩ rfl (by decide) (Nat.le_of_ble_eq_true rfl) rfl (q := 155) rfl (fun r37 => ?_)
          show gk_K Z Y 7 (gk_rR M) 155 [(0, .ref a0), (1, .int a1), (2, .int a2), (3, .int r24), (4, .int 0)] [.int r37] M _
          refine gk_istore hC (lv' := [(0, .ref a0), (1, .int a1), (2, .int a2), (5, .int r37)]) [1, 2, 3, 0] dX8_lineTold_155 (by decide) rfl (q := 157) rfl ?_
          refine gk_iconst hC (v := 5) dX8_lineTold_157 kc_i_5 (q := 158) rfl ?_
          refine gk_istore hC (lv' := [(0, .ref a0), (1, .int a1), (2, .int a2), (5, .int r37), (6, .int 5)]) [1, 2, 3, 4, 0] dX8_lineTold_158 (by decide) rfl (q := 160) rfl ?_
          refine gk_jnR (fun k186_38 => ∀ z39 : Int32, gk_K Z Y 7 (gk_rR M) 186 [(5, .int z39)] [] M (k186_38 z39)) (fun y38 => ?_) (fun k186_38 hk186_38 => ?_)
          · show gk_K Z Y 7 (gk_rR M) 186 [(5, .int y38)] [] M _
            refine gk_iload hC 0 dX8_lineTold_186 rfl (q := 188) rfl ?_
            exact gk_iret hC hR dX8_lineTold_188 rfl
          · exact lk_X8_lineTold_160 hY hC hR a0 a1 a2 M t0 k186_38 hk186_38 gk_fuel (r37, 5)
      · refine gk_pick [] rfl ?_
        exact hk12_22 ()
def f_X8_call (LN : Nat → Nat) (RF : Nat → Nat → Nat) (a0 : Nat) (a1 : Int32) (a2 : Int32) (M : gk_M) : Option (Int32) :=
  (f_X8_isCall LN RF a0 a1 M).bind fun r21 =>
  if r21 = 0 then
    some (-1)
  else
  gk_sw a2 0 [gk_ald LN M (RF a0 6) a1 fun x23 =>
    some x23,
    gk_ald LN M (RF a0 7) a1 fun x25 =>
    some x25,
    gk_ald LN M (RF a0 8) a1 fun x27 =>
    some x27,
    gk_ald LN M (RF a0 9) a1 fun x29 =>
    some x29,
    gk_ald LN M (RF a0 12) a1 fun x31 =>
    some x31,
    gk_ald LN M (RF a0 13) a1 fun x33 =>
    some x33,
    gk_ald LN M (RF a0 14) a1 fun x35 =>
    some x35,
    gk_ald LN M (RF a0 15) a1 fun x37 =>
    some x37]
  (some (-1))
set_option maxHeartbeats 4000000 in
set_option maxRecDepth 100000 in
theorem m_X8_call (l : Launch) {Y : gk_Y} (hY : gk_WF Y) (a0 : Nat) (a1 : Int32) (a2 : Int32) (M : gk_M) (t0 : gk_T Y 18 a0) : gk_MF l Y yX8_call cX8_call 3 (some .int) 1 [.ref a0, .int a1, .int a2] M (gk_rR M) (f_X8_call (gk_ln Y) (gk_rf Y) a0 a1 a2 M) := by
  refine gk_met hY (plainFor_of_name (by decide)) (Nat.le_of_ble_eq_true rfl) fun Z hC hR => ?_
  show gk_K Z Y 3 (gk_rR M) 0 [(0, .ref a0), (1, .int a1), (2, .int a2)] [] M _
  unfold f_X8_call
  refine gk_aload_n hC 0 dX8_call_0 rfl (q := 1) rfl ?_
  refine gk_iload_n hC 1 dX8_call_1 rfl (q := 2) rfl ?_
  refine gk_callV (As := [.int a1]) (rest := []) hC (fun l => m_X8_isCall l hY a0 a1 M t0) ml_RX8_230 ok_X8_isCall dX8_call_2 t0 ⟨by decide, rfl⟩ rfl (by decide) (Nat.le_of_ble_eq_true rfl) rfl (q := 5) rfl (fun r21 => ?_)
  show gk_K Z Y 3 (gk_rR M) 5 [(0, .ref a0), (1, .int a1), (2, .int a2)] [.int r21] M _
  refine gk_if_ne hC dX8_call_5 (tg := 10) rfl (q := 8) rfl ?_ ?_
  · refine gk_iconst hC (v := (-1)) dX8_call_8 kc_i_m1 (q := 9) rfl ?_
    exact gk_iret hC hR dX8_call_9 rfl
  · refine gk_iload_n hC 2 dX8_call_10 rfl (q := 11) rfl ?_
    refine gk_table hC (ts := [56, 63, 70, 77, 84, 91, 98, 105]) (tg := 112) dX8_call_11 (by decide) (by decide) rfl ⟨?_, ?_, ?_, ?_, ?_, ?_, ?_, ?_, trivial⟩ ?_
    · refine gk_aload_n hC 0 dX8_call_56 rfl (q := 57) rfl ?_
      refine gk_getR hC dX8_call_57 fl_RX8_28 (by decide) t0 (q := 60) rfl (fun t22 => ?_)
      refine gk_iload_n hC 1 dX8_call_60 rfl (q := 61) rfl ?_
      refine gk_iald hC dX8_call_61 t22 (q := 62) rfl (fun x23 => ?_)
      exact gk_iret hC hR dX8_call_62 rfl
    · refine gk_aload_n hC 0 dX8_call_63 rfl (q := 64) rfl ?_
      refine gk_getR hC dX8_call_64 fl_RX8_31 (by decide) t0 (q := 67) rfl (fun t24 => ?_)
      refine gk_iload_n hC 1 dX8_call_67 rfl (q := 68) rfl ?_
      refine gk_iald hC dX8_call_68 t24 (q := 69) rfl (fun x25 => ?_)
      exact gk_iret hC hR dX8_call_69 rfl
    · refine gk_aload_n hC 0 dX8_call_70 rfl (q := 71) rfl ?_
      refine gk_getR hC dX8_call_71 fl_RX8_34 (by decide) t0 (q := 74) rfl (fun t26 => ?_)
      refine gk_iload_n hC 1 dX8_call_74 rfl (q := 75) rfl ?_
      refine gk_iald hC dX8_call_75 t26 (q := 76) rfl (fun x27 => ?_)
      exact gk_iret hC hR dX8_call_76 rfl
    · refine gk_aload_n hC 0 dX8_call_77 rfl (q := 78) rfl ?_
      refine gk_getR hC dX8_call_78 fl_RX8_37 (by decide) t0 (q := 81) rfl (fun t28 => ?_)
      refine gk_iload_n hC 1 dX8_call_81 rfl (q := 82) rfl ?_
      refine gk_iald hC dX8_call_82 t28 (q := 83) rfl (fun x29 => ?_)
      exact gk_iret hC hR dX8_call_83 rfl
    · refine gk_aload_n hC 0 dX8_call_84 rfl (q := 85) rfl ?_
      refine gk_getR hC dX8_call_85 fl_RX8_46 (by decide) t0 (q := 88) rfl (fun t30 => ?_)
      refine gk_iload_n hC 1 dX8_call_88 rfl (q := 89) rfl ?_
      refine gk_iald hC dX8_call_89 t30 (q := 90) rfl (fun x31 => ?_)
      exact gk_iret hC hR dX8_call_90 rfl
    · refine gk_aload_n hC 0 dX8_call_91 rfl (q := 92) rfl ?_
      refine gk_getR hC dX8_call_92 fl_RX8_49 (by decide) t0 (q := 95) rfl (fun t32 => ?_)
      refine gk_iload_n hC 1 dX8_call_95 rfl (q := 96) rfl ?_
      refine gk_iald hC dX8_call_96 t32 (q := 97) rfl (fun x33 => ?_)
      exact gk_iret hC hR dX8_call_97 rfl
    · refine gk_aload_n hC 0 dX8_call_98 rfl (q := 99) rfl ?_
      refine gk_getR hC dX8_call_99 fl_RX8_52 (by decide) t0 (q := 102) rfl (fun t34 => ?_)
      refine gk_iload_n hC 1 dX8_call_102 rfl (q := 103) rfl ?_
      refine gk_iald hC dX8_call_103 t34 (q := 104) rfl (fun x35 => ?_)
      exact gk_iret hC hR dX8_call_104 rfl
    · refine gk_aload_n hC 0 dX8_call_105 rfl (q := 106) rfl ?_
      refine gk_getR hC dX8_call_106 fl_RX8_55 (by decide) t0 (q := 109) rfl (fun t36 => ?_)
      refine gk_iload_n hC 1 dX8_call_109 rfl (q := 110) rfl ?_
      refine gk_iald hC dX8_call_110 t36 (q := 111) rfl (fun x37 => ?_)
      exact gk_iret hC hR dX8_call_111 rfl
    · refine gk_iconst hC (v := (-1)) dX8_call_112 kc_i_m1 (q := 113) rfl ?_
      exact gk_iret hC hR dX8_call_113 rfl
def f_X8_row (LN : Nat → Nat) (RF : Nat → Nat → Nat) (a0 : Nat) (a1 : Int32) (a2 : Int32) (M : gk_M) : Option (Int32) :=
  (f_X8_isCall LN RF a0 a1 M).bind fun r21 =>
  gk_jn (fun y22 : Int32 =>
    some y22) fun k41_22 =>
  gk_jn (fun y24 : Unit =>
    k41_22 (-1)) fun k40_24 =>
  if r21 = 0 then
    k40_24 ()
  else
  gk_ald LN M (RF a0 9) a1 fun x27 =>
  (f_X8_isIn LN RF (Int32.toInt64 a2) 0 (Int32.toInt64 (x27 - 1)) M).bind fun r28 =>
  if r28 = 0 then
    k40_24 ()
  else
  gk_ald LN M (RF a0 10) ((9 * a1) + a2) fun x30 =>
  k41_22 x30
set_option maxHeartbeats 4000000 in
set_option maxRecDepth 100000 in
theorem m_X8_row (l : Launch) {Y : gk_Y} (hY : gk_WF Y) (a0 : Nat) (a1 : Int32) (a2 : Int32) (M : gk_M) (t0 : gk_T Y 18 a0) : gk_MF l Y yX8_row cX8_row 3 (some .int) 1 [.ref a0, .int a1, .int a2] M (gk_rR M) (f_X8_row (gk_ln Y) (gk_rf Y) a0 a1 a2 M) := by
  refine gk_met hY (plainFor_of_name (by decide)) (Nat.le_of_ble_eq_true rfl) fun Z hC hR => ?_
  show gk_K Z Y 3 (gk_rR M) 0 [(0, .ref a0), (1, .int a1), (2, .int a2)] [] M _
  unfold f_X8_row
  refine gk_aload_n hC 0 dX8_row_0 rfl (q := 1) rfl ?_
  refine gk_iload_n hC 1 dX8_row_1 rfl (q := 2) rfl ?_
  refine gk_callV (As := [.int a1]) (rest := []) hC (fun l => m_X8_isCall l hY a0 a1 M t0) ml_RX8_230 ok_X8_isCall dX8_row_2 t0 ⟨by decide, rfl⟩ rfl (by decide) (Nat.le_of_ble_eq_true rfl) rfl (q := 5) rfl (fun r21 => ?_)
  show gk_K Z Y 3 (gk_rR M) 5 [(0, .ref a0), (1, .int a1), (2, .int a2)] [.int r21] M _
  refine gk_jnR (fun k41_22 => ∀ z23 : Int32, gk_K Z Y 3 (gk_rR M) 41 [] [.int z23] M (k41_22 z23)) (fun y22 => ?_) (fun k41_22 hk41_22 => ?_)
  · show gk_K Z Y 3 (gk_rR M) 41 [] [.int y22] M _
    exact gk_iret hC hR dX8_row_41 rfl
  · refine gk_jnR (fun k40_24 => ∀ z25 : Unit, gk_K Z Y 3 (gk_rR M) 40 [] [] M (k40_24 z25)) (fun y24 => ?_) (fun k40_24 hk40_24 => ?_)
    · show gk_K Z Y 3 (gk_rR M) 40 [] [] M _
      refine gk_iconst hC (v := (-1)) dX8_row_40 kc_i_m1 (q := 41) rfl ?_
      exact hk41_22 (-1)
    · refine gk_if_eq hC dX8_row_5 (tg := 40) rfl (q := 8) rfl ?_ ?_
      · refine gk_pick [] rfl ?_
        exact hk40_24 ()
      · refine gk_iload_n hC 2 dX8_row_8 rfl (q := 9) rfl ?_
        refine gk_i2l hC dX8_row_9 (q := 10) rfl ?_
        refine gk_lconst hC (v := 0) dX8_row_10 kc_l_0 (q := 11) rfl ?_
        refine gk_aload_n hC 0 dX8_row_11 rfl (q := 12) rfl ?_
        refine gk_getR hC dX8_row_12 fl_RX8_37 (by decide) t0 (q := 15) rfl (fun t26 => ?_)
        refine gk_iload_n hC 1 dX8_row_15 rfl (q := 16) rfl ?_
        refine gk_iald hC dX8_row_16 t26 (q := 17) rfl (fun x27 => ?_)
        refine gk_iconst hC (v := 1) dX8_row_17 kc_i_1 (q := 18) rfl ?_
        refine gk_isub hC dX8_row_18 (q := 19) rfl ?_
        refine gk_i2l hC dX8_row_19 (q := 20) rfl ?_
        refine gk_callS (As := [.long (Int32.toInt64 a2), .long 0, .long (Int32.toInt64 (x27 - 1))]) (rest := []) hC (fun l => m_X8_isIn l hY (Int32.toInt64 a2) 0 (Int32.toInt64 (x27 - 1)) M) ml_RX8_126 ok_X8_isIn dX8_row_20 rfl (by decide) (Nat.le_of_ble_eq_true rfl) rfl (q := 23) rfl (fun r28 => ?_)
        show gk_K Z Y 3 (gk_rR M) 23 [(0, .ref a0), (1, .int a1), (2, .int a2)] [.int r28] M _
        refine gk_if_eq hC dX8_row_23 (tg := 40) rfl (q := 26) rfl ?_ ?_
        · refine gk_pick [] rfl ?_
          exact hk40_24 ()
        · refine gk_aload_n hC 0 dX8_row_26 rfl (q := 27) rfl ?_
          refine gk_getR hC dX8_row_27 fl_RX8_40 (by decide) t0 (q := 30) rfl (fun t29 => ?_)
          refine gk_bipush hC (v := 9) dX8_row_30 kc_b_9 (q := 32) rfl ?_
          refine gk_iload_n hC 1 dX8_row_32 rfl (q := 33) rfl ?_
          refine gk_imul hC dX8_row_33 (q := 34) rfl ?_
          refine gk_iload_n hC 2 dX8_row_34 rfl (q := 35) rfl ?_
          refine gk_iadd hC dX8_row_35 (q := 36) rfl ?_
          refine gk_iald hC dX8_row_36 t29 (q := 37) rfl (fun x30 => ?_)
          refine gk_goto hC dX8_row_37 (q := 41) rfl ?_
          refine gk_pick [] rfl ?_
          exact hk41_22 x30
def f_X8_piece (LN : Nat → Nat) (RF : Nat → Nat → Nat) (a0 : Nat) (a1 : Int32) (a2 : Int32) (M : gk_M) : Option (Int32) :=
  (f_X8_isCall LN RF a0 a1 M).bind fun r21 =>
  gk_jn (fun y22 : Int32 =>
    some y22) fun k41_22 =>
  gk_jn (fun y24 : Unit =>
    k41_22 (-1)) fun k40_24 =>
  if r21 = 0 then
    k40_24 ()
  else
  gk_ald LN M (RF a0 9) a1 fun x27 =>
  (f_X8_isIn LN RF (Int32.toInt64 a2) 0 (Int32.toInt64 (x27 - 1)) M).bind fun r28 =>
  if r28 = 0 then
    k40_24 ()
  else
  gk_ald LN M (RF a0 11) ((9 * a1) + a2) fun x30 =>
  k41_22 x30
set_option maxHeartbeats 4000000 in
set_option maxRecDepth 100000 in
theorem m_X8_piece (l : Launch) {Y : gk_Y} (hY : gk_WF Y) (a0 : Nat) (a1 : Int32) (a2 : Int32) (M : gk_M) (t0 : gk_T Y 18 a0) : gk_MF l Y yX8_piece cX8_piece 3 (some .int) 1 [.ref a0, .int a1, .int a2] M (gk_rR M) (f_X8_piece (gk_ln Y) (gk_rf Y) a0 a1 a2 M) := by
  refine gk_met hY (plainFor_of_name (by decide)) (Nat.le_of_ble_eq_true rfl) fun Z hC hR => ?_
  show gk_K Z Y 3 (gk_rR M) 0 [(0, .ref a0), (1, .int a1), (2, .int a2)] [] M _
  unfold f_X8_piece
  refine gk_aload_n hC 0 dX8_piece_0 rfl (q := 1) rfl ?_
  refine gk_iload_n hC 1 dX8_piece_1 rfl (q := 2) rfl ?_
  refine gk_callV (As := [.int a1]) (rest := []) hC (fun l => m_X8_isCall l hY a0 a1 M t0) ml_RX8_230 ok_X8_isCall dX8_piece_2 t0 ⟨by decide, rfl⟩ rfl (by decide) (Nat.le_of_ble_eq_true rfl) rfl (q := 5) rfl (fun r21 => ?_)
  show gk_K Z Y 3 (gk_rR M) 5 [(0, .ref a0), (1, .int a1), (2, .int a2)] [.int r21] M _
  refine gk_jnR (fun k41_22 => ∀ z23 : Int32, gk_K Z Y 3 (gk_rR M) 41 [] [.int z23] M (k41_22 z23)) (fun y22 => ?_) (fun k41_22 hk41_22 => ?_)
  · show gk_K Z Y 3 (gk_rR M) 41 [] [.int y22] M _
    exact gk_iret hC hR dX8_piece_41 rfl
  · refine gk_jnR (fun k40_24 => ∀ z25 : Unit, gk_K Z Y 3 (gk_rR M) 40 [] [] M (k40_24 z25)) (fun y24 => ?_) (fun k40_24 hk40_24 => ?_)
    · show gk_K Z Y 3 (gk_rR M) 40 [] [] M _
      refine gk_iconst hC (v := (-1)) dX8_piece_40 kc_i_m1 (q := 41) rfl ?_
      exact hk41_22 (-1)
    · refine gk_if_eq hC dX8_piece_5 (tg := 40) rfl (q := 8) rfl ?_ ?_
      · refine gk_pick [] rfl ?_
        exact hk40_24 ()
      · refine gk_iload_n hC 2 dX8_piece_8 rfl (q := 9) rfl ?_
        refine gk_i2l hC dX8_piece_9 (q := 10) rfl ?_
        refine gk_lconst hC (v := 0) dX8_piece_10 kc_l_0 (q := 11) rfl ?_
        refine gk_aload_n hC 0 dX8_piece_11 rfl (q := 12) rfl ?_
        refine gk_getR hC dX8_piece_12 fl_RX8_37 (by decide) t0 (q := 15) rfl (fun t26 => ?_)
        refine gk_iload_n hC 1 dX8_piece_15 rfl (q := 16) rfl ?_
        refine gk_iald hC dX8_piece_16 t26 (q := 17) rfl (fun x27 => ?_)
        refine gk_iconst hC (v := 1) dX8_piece_17 kc_i_1 (q := 18) rfl ?_
        refine gk_isub hC dX8_piece_18 (q := 19) rfl ?_
        refine gk_i2l hC dX8_piece_19 (q := 20) rfl ?_
        refine gk_callS (As := [.long (Int32.toInt64 a2), .long 0, .long (Int32.toInt64 (x27 - 1))]) (rest := []) hC (fun l => m_X8_isIn l hY (Int32.toInt64 a2) 0 (Int32.toInt64 (x27 - 1)) M) ml_RX8_126 ok_X8_isIn dX8_piece_20 rfl (by decide) (Nat.le_of_ble_eq_true rfl) rfl (q := 23) rfl (fun r28 => ?_)
        show gk_K Z Y 3 (gk_rR M) 23 [(0, .ref a0), (1, .int a1), (2, .int a2)] [.int r28] M _
        refine gk_if_eq hC dX8_piece_23 (tg := 40) rfl (q := 26) rfl ?_ ?_
        · refine gk_pick [] rfl ?_
          exact hk40_24 ()
        · refine gk_aload_n hC 0 dX8_piece_26 rfl (q := 27) rfl ?_
          refine gk_getR hC dX8_piece_27 fl_RX8_43 (by decide) t0 (q := 30) rfl (fun t29 => ?_)
          refine gk_bipush hC (v := 9) dX8_piece_30 kc_b_9 (q := 32) rfl ?_
          refine gk_iload_n hC 1 dX8_piece_32 rfl (q := 33) rfl ?_
          refine gk_imul hC dX8_piece_33 (q := 34) rfl ?_
          refine gk_iload_n hC 2 dX8_piece_34 rfl (q := 35) rfl ?_
          refine gk_iadd hC dX8_piece_35 (q := 36) rfl ?_
          refine gk_iald hC dX8_piece_36 t29 (q := 37) rfl (fun x30 => ?_)
          refine gk_goto hC dX8_piece_37 (q := 41) rfl ?_
          refine gk_pick [] rfl ?_
          exact hk41_22 x30
def f_X8_acted (LN : Nat → Nat) (RF : Nat → Nat → Nat) (a0 : Nat) (a1 : Int32) (a2 : Int32) (M : gk_M) : Option (Int32) :=
  (f_X8_isCall LN RF a0 a1 M).bind fun r21 =>
  gk_jn (fun y22 : Int32 =>
    some y22) fun k57_22 =>
  gk_jn (fun y24 : Unit =>
    k57_22 (-1)) fun k56_24 =>
  if r21 = 0 then
    k56_24 ()
  else
  gk_ald LN M (RF a0 15) a1 fun x27 =>
  gk_jn (fun y28 : Int32 =>
    (f_X8_isIn LN RF (Int32.toInt64 a2) 0 (Int32.toInt64 (y28 - 1)) M).bind fun r30 =>
    if r30 = 0 then
      k56_24 ()
    else
    gk_ald LN M (RF a0 16) ((10 * a1) + a2) fun x32 =>
    k57_22 x32) fun k33_28 =>
  if 10 ≤ x27 then
    k33_28 10
  else
  gk_ald LN M (RF a0 15) a1 fun x34 =>
  k33_28 x34
set_option maxHeartbeats 4000000 in
set_option maxRecDepth 100000 in
theorem m_X8_acted (l : Launch) {Y : gk_Y} (hY : gk_WF Y) (a0 : Nat) (a1 : Int32) (a2 : Int32) (M : gk_M) (t0 : gk_T Y 18 a0) : gk_MF l Y yX8_acted cX8_acted 3 (some .int) 1 [.ref a0, .int a1, .int a2] M (gk_rR M) (f_X8_acted (gk_ln Y) (gk_rf Y) a0 a1 a2 M) := by
  refine gk_met hY (plainFor_of_name (by decide)) (Nat.le_of_ble_eq_true rfl) fun Z hC hR => ?_
  show gk_K Z Y 3 (gk_rR M) 0 [(0, .ref a0), (1, .int a1), (2, .int a2)] [] M _
  unfold f_X8_acted
  refine gk_aload_n hC 0 dX8_acted_0 rfl (q := 1) rfl ?_
  refine gk_iload_n hC 1 dX8_acted_1 rfl (q := 2) rfl ?_
  refine gk_callV (As := [.int a1]) (rest := []) hC (fun l => m_X8_isCall l hY a0 a1 M t0) ml_RX8_230 ok_X8_isCall dX8_acted_2 t0 ⟨by decide, rfl⟩ rfl (by decide) (Nat.le_of_ble_eq_true rfl) rfl (q := 5) rfl (fun r21 => ?_)
  show gk_K Z Y 3 (gk_rR M) 5 [(0, .ref a0), (1, .int a1), (2, .int a2)] [.int r21] M _
  refine gk_jnR (fun k57_22 => ∀ z23 : Int32, gk_K Z Y 3 (gk_rR M) 57 [] [.int z23] M (k57_22 z23)) (fun y22 => ?_) (fun k57_22 hk57_22 => ?_)
  · show gk_K Z Y 3 (gk_rR M) 57 [] [.int y22] M _
    exact gk_iret hC hR dX8_acted_57 rfl
  · refine gk_jnR (fun k56_24 => ∀ z25 : Unit, gk_K Z Y 3 (gk_rR M) 56 [] [] M (k56_24 z25)) (fun y24 => ?_) (fun k56_24 hk56_24 => ?_)
    · show gk_K Z Y 3 (gk_rR M) 56 [] [] M _
      refine gk_iconst hC (v := (-1)) dX8_acted_56 kc_i_m1 (q := 57) rfl ?_
      exact hk57_22 (-1)
    · refine gk_if_eq hC dX8_acted_5 (tg := 56) rfl (q := 8) rfl ?_ ?_
      · refine gk_pick [] rfl ?_
        exact hk56_24 ()
      · refine gk_iload_n hC 2 dX8_acted_8 rfl (q := 9) rfl ?_
        refine gk_i2l hC dX8_acted_9 (q := 10) rfl ?_
        refine gk_lconst hC (v := 0) dX8_acted_10 kc_l_0 (q := 11) rfl ?_
        refine gk_aload_n hC 0 dX8_acted_11 rfl (q := 12) rfl ?_
        refine gk_getR hC dX8_acted_12 fl_RX8_55 (by decide) t0 (q := 15) rfl (fun t26 => ?_)
        refine gk_iload_n hC 1 dX8_acted_15 rfl (q := 16) rfl ?_
        refine gk_iald hC dX8_acted_16 t26 (q := 17) rfl (fun x27 => ?_)
        refine gk_bipush hC (v := 10) dX8_acted_17 kc_b_10 (q := 19) rfl ?_
        refine gk_jnR (fun k33_28 => ∀ z29 : Int32, gk_K Z Y 3 (gk_rR M) 33 [(0, .ref a0), (1, .int a1), (2, .int a2)] [.int z29, .long 0, .long (Int32.toInt64 a2)] M (k33_28 z29)) (fun y28 => ?_) (fun k33_28 hk33_28 => ?_)
        · show gk_K Z Y 3 (gk_rR M) 33 [(0, .ref a0), (1, .int a1), (2, .int a2)] [.int y28, .long 0, .long (Int32.toInt64 a2)] M _
          refine gk_iconst hC (v := 1) dX8_acted_33 kc_i_1 (q := 34) rfl ?_
          refine gk_isub hC dX8_acted_34 (q := 35) rfl ?_
          refine gk_i2l hC dX8_acted_35 (q := 36) rfl ?_
          refine gk_callS (As := [.long (Int32.toInt64 a2), .long 0, .long (Int32.toInt64 (y28 - 1))]) (rest := []) hC (fun l => m_X8_isIn l hY (Int32.toInt64 a2) 0 (Int32.toInt64 (y28 - 1)) M) ml_RX8_126 ok_X8_isIn dX8_acted_36 rfl (by decide) (Nat.le_of_ble_eq_true rfl) rfl (q := 39) rfl (fun r30 => ?_)
          show gk_K Z Y 3 (gk_rR M) 39 [(0, .ref a0), (1, .int a1), (2, .int a2)] [.int r30] M _
          refine gk_if_eq hC dX8_acted_39 (tg := 56) rfl (q := 42) rfl ?_ ?_
          · refine gk_pick [] rfl ?_
            exact hk56_24 ()
          · refine gk_aload_n hC 0 dX8_acted_42 rfl (q := 43) rfl ?_
            refine gk_getR hC dX8_acted_43 fl_RX8_58 (by decide) t0 (q := 46) rfl (fun t31 => ?_)
            refine gk_bipush hC (v := 10) dX8_acted_46 kc_b_10 (q := 48) rfl ?_
            refine gk_iload_n hC 1 dX8_acted_48 rfl (q := 49) rfl ?_
            refine gk_imul hC dX8_acted_49 (q := 50) rfl ?_
            refine gk_iload_n hC 2 dX8_acted_50 rfl (q := 51) rfl ?_
            refine gk_iadd hC dX8_acted_51 (q := 52) rfl ?_
            refine gk_iald hC dX8_acted_52 t31 (q := 53) rfl (fun x32 => ?_)
            refine gk_goto hC dX8_acted_53 (q := 57) rfl ?_
            refine gk_pick [] rfl ?_
            exact hk57_22 x32
        · refine gk_icmp_ge hC dX8_acted_19 (tg := 31) rfl (q := 22) rfl ?_ ?_
          · refine gk_bipush hC (v := 10) dX8_acted_31 kc_b_10 (q := 33) rfl ?_
            exact hk33_28 10
          · refine gk_aload_n hC 0 dX8_acted_22 rfl (q := 23) rfl ?_
            refine gk_getR hC dX8_acted_23 fl_RX8_55 (by decide) t0 (q := 26) rfl (fun t33 => ?_)
            refine gk_iload_n hC 1 dX8_acted_26 rfl (q := 27) rfl ?_
            refine gk_iald hC dX8_acted_27 t33 (q := 28) rfl (fun x34 => ?_)
            refine gk_goto hC dX8_acted_28 (q := 33) rfl ?_
            exact hk33_28 x34
def lp_X8_isTold_43 (LN : Nat → Nat) (RF : Nat → Nat → Nat) (v0 : Nat) (v1 : Int32) (v2 : Int32) (M : gk_M) (k119 : Int32 → Option (Int32)) : Nat → (Int32 × Int32) → Option (Int32)
  | 0, _ => none
  | n + 1, x =>
    gk_ald LN M (RF v0 20) 1 fun x2 =>
    if x2 ≤ x.2 then
      k119 x.1
    else
    gk_jn (fun y3 : Int32 =>
      lp_X8_isTold_43 LN RF v0 v1 v2 M k119 n (y3, (x.2 + 1))) fun k112_3 =>
    gk_jn (fun y5 : Unit =>
      k112_3 0) fun k111_5 =>
    if x.1 = 0 then
      k111_5 ()
    else
    gk_ald LN M (RF v0 0) x.2 fun x8 =>
    gk_ald LN M (RF v0 6) v1 fun x10 =>
    gk_jn (fun y11 : Unit =>
      k112_3 1) fun k107_11 =>
    if x8 = x10 then
      gk_ald LN M (RF v0 1) x.2 fun x14 =>
      if x14 = 3 then
        gk_ald LN M (RF v0 5) x.2 fun x16 =>
        if x16 = 1 then
          gk_ald LN M (RF v0 3) x.2 fun x18 =>
          if x18 = v2 then
            k107_11 ()
          else
          k111_5 ()
        else
        k107_11 ()
      else
      k107_11 ()
    else
    k107_11 ()
def f_X8_isTold (LN : Nat → Nat) (RF : Nat → Nat → Nat) (a0 : Nat) (a1 : Int32) (a2 : Int32) (M : gk_M) : Option (Int32) :=
  gk_ald LN M (RF a0 12) a1 fun x22 =>
  gk_jn (fun y23 : Int32 =>
    gk_jn (fun y25 : Int32 =>
      gk_zz y25 (some y25)) fun k119_25 =>
    lp_X8_isTold_43 LN RF a0 a1 a2 M k119_25 gk_fuel (y23, 0)) fun k39_23 =>
  gk_jn (fun y28 : Unit =>
    k39_23 1) fun k34_28 =>
  if ((x22 >>> (a2 &&& 31)) &&& 1) = 1 then
    k34_28 ()
  else
  gk_ald LN M (RF a0 7) a1 fun x31 =>
  gk_jn (fun y32 : Unit =>
    k39_23 0) fun k38_32 =>
  if x31 = 2 then
    gk_ald LN M (RF a0 13) a1 fun x35 =>
    if x35 = a2 then
      k34_28 ()
    else
    k38_32 ()
  else
  k38_32 ()
set_option maxHeartbeats 4000000 in
set_option maxRecDepth 100000 in
theorem lk_X8_isTold_43 {Z : gk_Z} {Y : gk_Y} (hY : gk_WF Y) (hC : gk_C Z Y cX8_isTold 5 RX8 0) (hR : gk_R Z Y (some .boolean)) (v0 : Nat) (v1 : Int32) (v2 : Int32) (M : gk_M) (tv0 : gk_T Y 18 v0) (k119 : Int32 → Option (Int32)) (hk119 : ∀ z27 : Int32, gk_K Z Y 5 (gk_rR M) 119 [(3, .int z27)] [] M (k119 z27)) : ∀ (n : Nat) (x : Int32 × Int32), gk_K Z Y 5 (gk_rR M) 43 [(0, .ref v0), (1, .int v1), (2, .int v2), (3, .int x.1), (4, .int x.2)] [] M (lp_X8_isTold_43 (gk_ln Y) (gk_rf Y) v0 v1 v2 M k119 n x) := by
  intro n
  induction n with
  | zero => intro x; exact gk_none
  | succ n ih =>
    intro x
    rw [lp_X8_isTold_43]
    refine gk_iload hC 4 dX8_isTold_43 rfl (q := 45) rfl ?_
    refine gk_aload_n hC 0 dX8_isTold_45 rfl (q := 46) rfl ?_
    refine gk_getR hC dX8_isTold_46 fl_RX8_70 (by decide) tv0 (q := 49) rfl (fun t1 => ?_)
    refine gk_iconst hC (v := 1) dX8_isTold_49 kc_i_1 (q := 50) rfl ?_
    refine gk_iald hC dX8_isTold_50 t1 (q := 51) rfl (fun x2 => ?_)
    refine gk_icmp_ge hC dX8_isTold_51 (tg := 119) rfl (q := 54) rfl ?_ ?_
    · refine gk_pick [3] rfl ?_
      exact hk119 x.1
    · refine gk_iload_n hC 3 dX8_isTold_54 rfl (q := 55) rfl ?_
      refine gk_jnR (fun k112_3 => ∀ z4 : Int32, gk_K Z Y 5 (gk_rR M) 112 [(0, .ref v0), (1, .int v1), (2, .int v2), (4, .int x.2)] [.int z4] M (k112_3 z4)) (fun y3 => ?_) (fun k112_3 hk112_3 => ?_)
      · show gk_K Z Y 5 (gk_rR M) 112 [(0, .ref v0), (1, .int v1), (2, .int v2), (4, .int x.2)] [.int y3] M _
        refine gk_istore_n hC (lv' := [(0, .ref v0), (1, .int v1), (2, .int v2), (3, .int y3), (4, .int x.2)]) [1, 2, 3, 0, 4] dX8_isTold_112 (by decide) rfl (q := 113) rfl ?_
        refine gk_iinc hC (v := 1) 4 (lv' := [(0, .ref v0), (1, .int v1), (2, .int v2), (3, .int y3), (4, .int (x.2 + 1))]) [1, 2, 3, 4, 0] dX8_isTold_113 rfl kc_i_1 (by decide) rfl (q := 116) rfl ?_
        refine gk_goto hC dX8_isTold_116 (q := 43) rfl ?_
        exact ih (y3, (x.2 + 1))
      · refine gk_jnR (fun k111_5 => ∀ z6 : Unit, gk_K Z Y 5 (gk_rR M) 111 [(0, .ref v0), (1, .int v1), (2, .int v2), (4, .int x.2)] [] M (k111_5 z6)) (fun y5 => ?_) (fun k111_5 hk111_5 => ?_)
        · show gk_K Z Y 5 (gk_rR M) 111 [(0, .ref v0), (1, .int v1), (2, .int v2), (4, .int x.2)] [] M _
          refine gk_iconst hC (v := 0) dX8_isTold_111 kc_i_0 (q := 112) rfl ?_
          exact hk112_3 0
        · refine gk_if_eq hC dX8_isTold_55 (tg := 111) rfl (q := 58) rfl ?_ ?_
          · refine gk_pick [0, 1, 2, 4] rfl ?_
            exact hk111_5 ()
          · refine gk_aload_n hC 0 dX8_isTold_58 rfl (q := 59) rfl ?_
            refine gk_getR hC dX8_isTold_59 fl_RX8_7 (by decide) tv0 (q := 62) rfl (fun t7 => ?_)
            refine gk_iload hC 4 dX8_isTold_62 rfl (q := 64) rfl ?_
            refine gk_iald hC dX8_isTold_64 t7 (q := 65) rfl (fun x8 => ?_)
            refine gk_aload_n hC 0 dX8_isTold_65 rfl (q := 66) rfl ?_
            refine gk_getR hC dX8_isTold_66 fl_RX8_28 (by decide) tv0 (q := 69) rfl (fun t9 => ?_)
            refine gk_iload_n hC 1 dX8_isTold_69 rfl (q := 70) rfl ?_
            refine gk_iald hC dX8_isTold_70 t9 (q := 71) rfl (fun x10 => ?_)
            refine gk_jnR (fun k107_11 => ∀ z12 : Unit, gk_K Z Y 5 (gk_rR M) 107 [(0, .ref v0), (1, .int v1), (2, .int v2), (4, .int x.2)] [] M (k107_11 z12)) (fun y11 => ?_) (fun k107_11 hk107_11 => ?_)
            · show gk_K Z Y 5 (gk_rR M) 107 [(0, .ref v0), (1, .int v1), (2, .int v2), (4, .int x.2)] [] M _
              refine gk_iconst hC (v := 1) dX8_isTold_107 kc_i_1 (q := 108) rfl ?_
              refine gk_goto hC dX8_isTold_108 (q := 112) rfl ?_
              exact hk112_3 1
            · refine gk_icmp_ne hC dX8_isTold_71 (tg := 107) rfl (q := 74) rfl ?_ ?_
              · refine gk_aload_n hC 0 dX8_isTold_74 rfl (q := 75) rfl ?_
                refine gk_getR hC dX8_isTold_75 fl_RX8_13 (by decide) tv0 (q := 78) rfl (fun t13 => ?_)
                refine gk_iload hC 4 dX8_isTold_78 rfl (q := 80) rfl ?_
                refine gk_iald hC dX8_isTold_80 t13 (q := 81) rfl (fun x14 => ?_)
                refine gk_iconst hC (v := 3) dX8_isTold_81 kc_i_3 (q := 82) rfl ?_
                refine gk_icmp_ne hC dX8_isTold_82 (tg := 107) rfl (q := 85) rfl ?_ ?_
                · refine gk_aload_n hC 0 dX8_isTold_85 rfl (q := 86) rfl ?_
                  refine gk_getR hC dX8_isTold_86 fl_RX8_25 (by decide) tv0 (q := 89) rfl (fun t15 => ?_)
                  refine gk_iload hC 4 dX8_isTold_89 rfl (q := 91) rfl ?_
                  refine gk_iald hC dX8_isTold_91 t15 (q := 92) rfl (fun x16 => ?_)
                  refine gk_iconst hC (v := 1) dX8_isTold_92 kc_i_1 (q := 93) rfl ?_
                  refine gk_icmp_ne hC dX8_isTold_93 (tg := 107) rfl (q := 96) rfl ?_ ?_
                  · refine gk_aload_n hC 0 dX8_isTold_96 rfl (q := 97) rfl ?_
                    refine gk_getR hC dX8_isTold_97 fl_RX8_19 (by decide) tv0 (q := 100) rfl (fun t17 => ?_)
                    refine gk_iload hC 4 dX8_isTold_100 rfl (q := 102) rfl ?_
                    refine gk_iald hC dX8_isTold_102 t17 (q := 103) rfl (fun x18 => ?_)
                    refine gk_iload_n hC 2 dX8_isTold_103 rfl (q := 104) rfl ?_
                    refine gk_icmp_ne hC dX8_isTold_104 (tg := 111) rfl (q := 107) rfl ?_ ?_
                    · refine gk_pick [0, 1, 2, 4] rfl ?_
                      exact hk107_11 ()
                    · refine gk_pick [0, 1, 2, 4] rfl ?_
                      exact hk111_5 ()
                  · refine gk_pick [0, 1, 2, 4] rfl ?_
                    exact hk107_11 ()
                · refine gk_pick [0, 1, 2, 4] rfl ?_
                  exact hk107_11 ()
              · refine gk_pick [0, 1, 2, 4] rfl ?_
                exact hk107_11 ()
set_option maxHeartbeats 4000000 in
set_option maxRecDepth 100000 in
theorem m_X8_isTold (l : Launch) {Y : gk_Y} (hY : gk_WF Y) (a0 : Nat) (a1 : Int32) (a2 : Int32) (M : gk_M) (t0 : gk_T Y 18 a0) : gk_MF l Y yX8_isTold cX8_isTold 5 (some .boolean) 0 [.ref a0, .int a1, .int a2] M (gk_rR M) (f_X8_isTold (gk_ln Y) (gk_rf Y) a0 a1 a2 M) := by
  refine gk_met hY (plainFor_of_name (by decide)) (Nat.le_of_ble_eq_true rfl) fun Z hC hR => ?_
  show gk_K Z Y 5 (gk_rR M) 0 [(0, .ref a0), (1, .int a1), (2, .int a2)] [] M _
  unfold f_X8_isTold
  refine gk_aload_n hC 0 dX8_isTold_0 rfl (q := 1) rfl ?_
  refine gk_getR hC dX8_isTold_1 fl_RX8_46 (by decide) t0 (q := 4) rfl (fun t21 => ?_)
  refine gk_iload_n hC 1 dX8_isTold_4 rfl (q := 5) rfl ?_
  refine gk_iald hC dX8_isTold_5 t21 (q := 6) rfl (fun x22 => ?_)
  refine gk_iload_n hC 2 dX8_isTold_6 rfl (q := 7) rfl ?_
  refine gk_ishr hC dX8_isTold_7 (q := 8) rfl ?_
  refine gk_iconst hC (v := 1) dX8_isTold_8 kc_i_1 (q := 9) rfl ?_
  refine gk_iand hC dX8_isTold_9 (q := 10) rfl ?_
  refine gk_iconst hC (v := 1) dX8_isTold_10 kc_i_1 (q := 11) rfl ?_
  refine gk_jnR (fun k39_23 => ∀ z24 : Int32, gk_K Z Y 5 (gk_rR M) 39 [(0, .ref a0), (1, .int a1), (2, .int a2)] [.int z24] M (k39_23 z24)) (fun y23 => ?_) (fun k39_23 hk39_23 => ?_)
  · show gk_K Z Y 5 (gk_rR M) 39 [(0, .ref a0), (1, .int a1), (2, .int a2)] [.int y23] M _
    refine gk_istore_n hC (lv' := [(0, .ref a0), (1, .int a1), (2, .int a2), (3, .int y23)]) [1, 2, 3, 0] dX8_isTold_39 (by decide) rfl (q := 40) rfl ?_
    refine gk_iconst hC (v := 0) dX8_isTold_40 kc_i_0 (q := 41) rfl ?_
    refine gk_istore hC (lv' := [(0, .ref a0), (1, .int a1), (2, .int a2), (3, .int y23), (4, .int 0)]) [1, 2, 3, 4, 0] dX8_isTold_41 (by decide) rfl (q := 43) rfl ?_
    refine gk_jnR (fun k119_25 => ∀ z26 : Int32, gk_K Z Y 5 (gk_rR M) 119 [(3, .int z26)] [] M (k119_25 z26)) (fun y25 => ?_) (fun k119_25 hk119_25 => ?_)
    · show gk_K Z Y 5 (gk_rR M) 119 [(3, .int y25)] [] M _
      refine gk_iload_n hC 0 dX8_isTold_119 rfl (q := 120) rfl ?_
      exact gk_zzR (fun hv => gk_zret hC hR dX8_isTold_120 hv rfl)
    · exact lk_X8_isTold_43 hY hC hR a0 a1 a2 M t0 k119_25 hk119_25 gk_fuel (y23, 0)
  · refine gk_jnR (fun k34_28 => ∀ z29 : Unit, gk_K Z Y 5 (gk_rR M) 34 [(0, .ref a0), (1, .int a1), (2, .int a2)] [] M (k34_28 z29)) (fun y28 => ?_) (fun k34_28 hk34_28 => ?_)
    · show gk_K Z Y 5 (gk_rR M) 34 [(0, .ref a0), (1, .int a1), (2, .int a2)] [] M _
      refine gk_iconst hC (v := 1) dX8_isTold_34 kc_i_1 (q := 35) rfl ?_
      refine gk_goto hC dX8_isTold_35 (q := 39) rfl ?_
      exact hk39_23 1
    · refine gk_icmp_eq hC dX8_isTold_11 (tg := 34) rfl (q := 14) rfl ?_ ?_
      · exact hk34_28 ()
      · refine gk_aload_n hC 0 dX8_isTold_14 rfl (q := 15) rfl ?_
        refine gk_getR hC dX8_isTold_15 fl_RX8_31 (by decide) t0 (q := 18) rfl (fun t30 => ?_)
        refine gk_iload_n hC 1 dX8_isTold_18 rfl (q := 19) rfl ?_
        refine gk_iald hC dX8_isTold_19 t30 (q := 20) rfl (fun x31 => ?_)
        refine gk_iconst hC (v := 2) dX8_isTold_20 kc_i_2 (q := 21) rfl ?_
        refine gk_jnR (fun k38_32 => ∀ z33 : Unit, gk_K Z Y 5 (gk_rR M) 38 [(0, .ref a0), (1, .int a1), (2, .int a2)] [] M (k38_32 z33)) (fun y32 => ?_) (fun k38_32 hk38_32 => ?_)
        · show gk_K Z Y 5 (gk_rR M) 38 [(0, .ref a0), (1, .int a1), (2, .int a2)] [] M _
          refine gk_iconst hC (v := 0) dX8_isTold_38 kc_i_0 (q := 39) rfl ?_
          exact hk39_23 0
        · refine gk_icmp_ne hC dX8_isTold_21 (tg := 38) rfl (q := 24) rfl ?_ ?_
          · refine gk_aload_n hC 0 dX8_isTold_24 rfl (q := 25) rfl ?_
            refine gk_getR hC dX8_isTold_25 fl_RX8_49 (by decide) t0 (q := 28) rfl (fun t34 => ?_)
            refine gk_iload_n hC 1 dX8_isTold_28 rfl (q := 29) rfl ?_
            refine gk_iald hC dX8_isTold_29 t34 (q := 30) rfl (fun x35 => ?_)
            refine gk_iload_n hC 2 dX8_isTold_30 rfl (q := 31) rfl ?_
            refine gk_icmp_ne hC dX8_isTold_31 (tg := 38) rfl (q := 34) rfl ?_ ?_
            · exact hk34_28 ()
            · exact hk38_32 ()
          · exact hk38_32 ()
def f_X8_tells (LN : Nat → Nat) (RF : Nat → Nat → Nat) (a0 : Nat) (a1 : Int32) (a2 : Int32) (M : gk_M) : Option (Int32) :=
  (f_X8_isCall LN RF a0 a1 M).bind fun r21 =>
  gk_jn (fun y22 : Int32 =>
    some y22) fun k34_22 =>
  gk_jn (fun y24 : Unit =>
    k34_22 (-1)) fun k16_24 =>
  if r21 = 0 then
    k16_24 ()
  else
  (f_X8_isLine LN RF a0 a2 M).bind fun r26 =>
  if r26 = 0 then
    k16_24 ()
  else
  (f_X8_isTold LN RF a0 a1 a2 M).bind fun r27 =>
  if r27 = 0 then
    k34_22 0
  else
  k34_22 1
set_option maxHeartbeats 4000000 in
set_option maxRecDepth 100000 in
theorem m_X8_tells (l : Launch) {Y : gk_Y} (hY : gk_WF Y) (a0 : Nat) (a1 : Int32) (a2 : Int32) (M : gk_M) (t0 : gk_T Y 18 a0) : gk_MF l Y yX8_tells cX8_tells 3 (some .int) 1 [.ref a0, .int a1, .int a2] M (gk_rR M) (f_X8_tells (gk_ln Y) (gk_rf Y) a0 a1 a2 M) := by
  refine gk_met hY (plainFor_of_name (by decide)) (Nat.le_of_ble_eq_true rfl) fun Z hC hR => ?_
  show gk_K Z Y 3 (gk_rR M) 0 [(0, .ref a0), (1, .int a1), (2, .int a2)] [] M _
  unfold f_X8_tells
  refine gk_aload_n hC 0 dX8_tells_0 rfl (q := 1) rfl ?_
  refine gk_iload_n hC 1 dX8_tells_1 rfl (q := 2) rfl ?_
  refine gk_callV (As := [.int a1]) (rest := []) hC (fun l => m_X8_isCall l hY a0 a1 M t0) ml_RX8_230 ok_X8_isCall dX8_tells_2 t0 ⟨by decide, rfl⟩ rfl (by decide) (Nat.le_of_ble_eq_true rfl) rfl (q := 5) rfl (fun r21 => ?_)
  show gk_K Z Y 3 (gk_rR M) 5 [(0, .ref a0), (1, .int a1), (2, .int a2)] [.int r21] M _
  refine gk_jnR (fun k34_22 => ∀ z23 : Int32, gk_K Z Y 3 (gk_rR M) 34 [] [.int z23] M (k34_22 z23)) (fun y22 => ?_) (fun k34_22 hk34_22 => ?_)
  · show gk_K Z Y 3 (gk_rR M) 34 [] [.int y22] M _
    exact gk_iret hC hR dX8_tells_34 rfl
  · refine gk_jnR (fun k16_24 => ∀ z25 : Unit, gk_K Z Y 3 (gk_rR M) 16 [] [] M (k16_24 z25)) (fun y24 => ?_) (fun k16_24 hk16_24 => ?_)
    · show gk_K Z Y 3 (gk_rR M) 16 [] [] M _
      refine gk_iconst hC (v := (-1)) dX8_tells_16 kc_i_m1 (q := 17) rfl ?_
      refine gk_goto hC dX8_tells_17 (q := 34) rfl ?_
      exact hk34_22 (-1)
    · refine gk_if_eq hC dX8_tells_5 (tg := 16) rfl (q := 8) rfl ?_ ?_
      · refine gk_pick [] rfl ?_
        exact hk16_24 ()
      · refine gk_aload_n hC 0 dX8_tells_8 rfl (q := 9) rfl ?_
        refine gk_iload_n hC 2 dX8_tells_9 rfl (q := 10) rfl ?_
        refine gk_callV (As := [.int a2]) (rest := []) hC (fun l => m_X8_isLine l hY a0 a2 M t0) ml_RX8_120 ok_X8_isLine dX8_tells_10 t0 ⟨by decide, rfl⟩ rfl (by decide) (Nat.le_of_ble_eq_true rfl) rfl (q := 13) rfl (fun r26 => ?_)
        show gk_K Z Y 3 (gk_rR M) 13 [(0, .ref a0), (1, .int a1), (2, .int a2)] [.int r26] M _
        refine gk_if_ne hC dX8_tells_13 (tg := 20) rfl (q := 16) rfl ?_ ?_
        · refine gk_pick [] rfl ?_
          exact hk16_24 ()
        · refine gk_aload_n hC 0 dX8_tells_20 rfl (q := 21) rfl ?_
          refine gk_iload_n hC 1 dX8_tells_21 rfl (q := 22) rfl ?_
          refine gk_iload_n hC 2 dX8_tells_22 rfl (q := 23) rfl ?_
          refine gk_callV (As := [.int a1, .int a2]) (rest := []) hC (fun l => m_X8_isTold l hY a0 a1 a2 M t0) ml_RX8_233 ok_X8_isTold dX8_tells_23 t0 ⟨by decide, rfl⟩ rfl (by decide) (Nat.le_of_ble_eq_true rfl) rfl (q := 26) rfl (fun r27 => ?_)
          show gk_K Z Y 3 (gk_rR M) 26 [(0, .ref a0), (1, .int a1), (2, .int a2)] [.int r27] M _
          refine gk_if_eq hC dX8_tells_26 (tg := 33) rfl (q := 29) rfl ?_ ?_
          · refine gk_iconst hC (v := 0) dX8_tells_33 kc_i_0 (q := 34) rfl ?_
            refine gk_pick [] rfl ?_
            exact hk34_22 0
          · refine gk_iconst hC (v := 1) dX8_tells_29 kc_i_1 (q := 30) rfl ?_
            refine gk_goto hC dX8_tells_30 (q := 34) rfl ?_
            refine gk_pick [] rfl ?_
            exact hk34_22 1
def f_X8_backs (LN : Nat → Nat) (RF : Nat → Nat → Nat) (a0 : Nat) (a1 : Int32) (a2 : Int32) (M : gk_M) : Option (Int32) :=
  gk_ald LN M (RF a0 20) 4 fun x22 =>
  (f_X8_isIn LN RF (Int32.toInt64 a1) 0 (Int32.toInt64 (x22 - 1)) M).bind fun r23 =>
  gk_jn (fun y24 : Int32 =>
    some y24) fun k51_24 =>
  gk_jn (fun y26 : Unit =>
    k51_24 (-1)) fun k28_26 =>
  if r23 = 0 then
    k28_26 ()
  else
  (f_X8_isIn LN RF (Int32.toInt64 a2) 0 1 M).bind fun r28 =>
  if r28 = 0 then
    k28_26 ()
  else
  if a2 = 0 then
    gk_ald LN M (RF a0 17) a1 fun x30 =>
    k51_24 x30
  else
  gk_ald LN M (RF a0 18) a1 fun x32 =>
  k51_24 x32
set_option maxHeartbeats 4000000 in
set_option maxRecDepth 100000 in
theorem m_X8_backs (l : Launch) {Y : gk_Y} (hY : gk_WF Y) (a0 : Nat) (a1 : Int32) (a2 : Int32) (M : gk_M) (t0 : gk_T Y 18 a0) : gk_MF l Y yX8_backs cX8_backs 3 (some .int) 1 [.ref a0, .int a1, .int a2] M (gk_rR M) (f_X8_backs (gk_ln Y) (gk_rf Y) a0 a1 a2 M) := by
  refine gk_met hY (plainFor_of_name (by decide)) (Nat.le_of_ble_eq_true rfl) fun Z hC hR => ?_
  show gk_K Z Y 3 (gk_rR M) 0 [(0, .ref a0), (1, .int a1), (2, .int a2)] [] M _
  unfold f_X8_backs
  refine gk_iload_n hC 1 dX8_backs_0 rfl (q := 1) rfl ?_
  refine gk_i2l hC dX8_backs_1 (q := 2) rfl ?_
  refine gk_lconst hC (v := 0) dX8_backs_2 kc_l_0 (q := 3) rfl ?_
  refine gk_aload_n hC 0 dX8_backs_3 rfl (q := 4) rfl ?_
  refine gk_getR hC dX8_backs_4 fl_RX8_70 (by decide) t0 (q := 7) rfl (fun t21 => ?_)
  refine gk_iconst hC (v := 4) dX8_backs_7 kc_i_4 (q := 8) rfl ?_
  refine gk_iald hC dX8_backs_8 t21 (q := 9) rfl (fun x22 => ?_)
  refine gk_iconst hC (v := 1) dX8_backs_9 kc_i_1 (q := 10) rfl ?_
  refine gk_isub hC dX8_backs_10 (q := 11) rfl ?_
  refine gk_i2l hC dX8_backs_11 (q := 12) rfl ?_
  refine gk_callS (As := [.long (Int32.toInt64 a1), .long 0, .long (Int32.toInt64 (x22 - 1))]) (rest := []) hC (fun l => m_X8_isIn l hY (Int32.toInt64 a1) 0 (Int32.toInt64 (x22 - 1)) M) ml_RX8_126 ok_X8_isIn dX8_backs_12 rfl (by decide) (Nat.le_of_ble_eq_true rfl) rfl (q := 15) rfl (fun r23 => ?_)
  show gk_K Z Y 3 (gk_rR M) 15 [(0, .ref a0), (1, .int a1), (2, .int a2)] [.int r23] M _
  refine gk_jnR (fun k51_24 => ∀ z25 : Int32, gk_K Z Y 3 (gk_rR M) 51 [] [.int z25] M (k51_24 z25)) (fun y24 => ?_) (fun k51_24 hk51_24 => ?_)
  · show gk_K Z Y 3 (gk_rR M) 51 [] [.int y24] M _
    exact gk_iret hC hR dX8_backs_51 rfl
  · refine gk_jnR (fun k28_26 => ∀ z27 : Unit, gk_K Z Y 3 (gk_rR M) 28 [] [] M (k28_26 z27)) (fun y26 => ?_) (fun k28_26 hk28_26 => ?_)
    · show gk_K Z Y 3 (gk_rR M) 28 [] [] M _
      refine gk_iconst hC (v := (-1)) dX8_backs_28 kc_i_m1 (q := 29) rfl ?_
      refine gk_goto hC dX8_backs_29 (q := 51) rfl ?_
      exact hk51_24 (-1)
    · refine gk_if_eq hC dX8_backs_15 (tg := 28) rfl (q := 18) rfl ?_ ?_
      · refine gk_pick [] rfl ?_
        exact hk28_26 ()
      · refine gk_iload_n hC 2 dX8_backs_18 rfl (q := 19) rfl ?_
        refine gk_i2l hC dX8_backs_19 (q := 20) rfl ?_
        refine gk_lconst hC (v := 0) dX8_backs_20 kc_l_0 (q := 21) rfl ?_
        refine gk_lconst hC (v := 1) dX8_backs_21 kc_l_1 (q := 22) rfl ?_
        refine gk_callS (As := [.long (Int32.toInt64 a2), .long 0, .long 1]) (rest := []) hC (fun l => m_X8_isIn l hY (Int32.toInt64 a2) 0 1 M) ml_RX8_126 ok_X8_isIn dX8_backs_22 rfl (by decide) (Nat.le_of_ble_eq_true rfl) rfl (q := 25) rfl (fun r28 => ?_)
        show gk_K Z Y 3 (gk_rR M) 25 [(0, .ref a0), (1, .int a1), (2, .int a2)] [.int r28] M _
        refine gk_if_ne hC dX8_backs_25 (tg := 32) rfl (q := 28) rfl ?_ ?_
        · refine gk_pick [] rfl ?_
          exact hk28_26 ()
        · refine gk_iload_n hC 2 dX8_backs_32 rfl (q := 33) rfl ?_
          refine gk_if_ne hC dX8_backs_33 (tg := 45) rfl (q := 36) rfl ?_ ?_
          · refine gk_aload_n hC 0 dX8_backs_36 rfl (q := 37) rfl ?_
            refine gk_getR hC dX8_backs_37 fl_RX8_61 (by decide) t0 (q := 40) rfl (fun t29 => ?_)
            refine gk_iload_n hC 1 dX8_backs_40 rfl (q := 41) rfl ?_
            refine gk_iald hC dX8_backs_41 t29 (q := 42) rfl (fun x30 => ?_)
            refine gk_goto hC dX8_backs_42 (q := 51) rfl ?_
            refine gk_pick [] rfl ?_
            exact hk51_24 x30
          · refine gk_aload_n hC 0 dX8_backs_45 rfl (q := 46) rfl ?_
            refine gk_getR hC dX8_backs_46 fl_RX8_64 (by decide) t0 (q := 49) rfl (fun t31 => ?_)
            refine gk_iload_n hC 1 dX8_backs_49 rfl (q := 50) rfl ?_
            refine gk_iald hC dX8_backs_50 t31 (q := 51) rfl (fun x32 => ?_)
            refine gk_pick [] rfl ?_
            exact hk51_24 x32
def lp_X8_findDeeds_95 (LN : Nat → Nat) (RF : Nat → Nat → Nat) (v0 : Nat) (v1 : Int32) (v2 : Int32) (k147 : gk_M → Option (gk_M)) : Nat → (Int32 × gk_M) → Option (gk_M)
  | 0, _ => none
  | n + 1, x =>
    if 8 ≤ x.1 then
      k147 x.2
    else
    gk_jn (fun y1 : gk_M =>
      lp_X8_findDeeds_95 LN RF v0 v1 v2 k147 n ((x.1 + 1), y1)) fun k141_1 =>
    if ((v1 >>> (x.1 &&& 31)) &&& 1) = 0 then
      k141_1 x.2
    else
    gk_ast LN x.2 (RF v0 29) (x.2.1 v0 32) ((1000 * v2) + (10 * x.1)) fun M4 =>
    gk_put M4 v0 32 ((M4.1 v0 32) + 1) fun M5 =>
    k141_1 M5
def lp_X8_findDeeds_88 (LN : Nat → Nat) (RF : Nat → Nat → Nat) (v0 : Nat) (v1 : Int32) (k153 : gk_M → Option (gk_M)) : Nat → (Int32 × gk_M) → Option (gk_M)
  | 0, _ => none
  | n + 1, x =>
    if 4 ≤ x.1 then
      k153 x.2
    else
    gk_jn (fun y1 : gk_M =>
      lp_X8_findDeeds_88 LN RF v0 v1 k153 n ((x.1 + 1), y1)) fun k147_1 =>
    lp_X8_findDeeds_95 LN RF v0 v1 x.1 k147_1 gk_fuel (0, x.2)
def lp_X8_findDeeds_15 (LN : Nat → Nat) (RF : Nat → Nat → Nat) (v0 : Nat) (v1 : Int32) (v2 : Int32) (k80 : gk_M → Option (gk_M)) : Nat → (Int32 × gk_M) → Option (gk_M)
  | 0, _ => none
  | n + 1, x =>
    if 8 ≤ x.1 then
      k80 x.2
    else
    gk_jn (fun y1 : gk_M =>
      lp_X8_findDeeds_15 LN RF v0 v1 v2 k80 n ((x.1 + 1), y1)) fun k74_1 =>
    if v2 = x.1 then
      k74_1 x.2
    else
    if ((v1 >>> (v2 &&& 31)) &&& 1) = 0 then
      k74_1 x.2
    else
    if ((v1 >>> (x.1 &&& 31)) &&& 1) = 0 then
      k74_1 x.2
    else
    gk_ast LN x.2 (RF v0 29) (x.2.1 v0 32) ((1000 + (10 * v2)) + x.1) fun M4 =>
    gk_put M4 v0 32 ((M4.1 v0 32) + 1) fun M5 =>
    k74_1 M5
def lp_X8_findDeeds_7 (LN : Nat → Nat) (RF : Nat → Nat → Nat) (v0 : Nat) (v1 : Int32) (k86 : gk_M → Option (gk_M)) : Nat → (Int32 × gk_M) → Option (gk_M)
  | 0, _ => none
  | n + 1, x =>
    if 8 ≤ x.1 then
      k86 x.2
    else
    gk_jn (fun y1 : gk_M =>
      lp_X8_findDeeds_7 LN RF v0 v1 k86 n ((x.1 + 1), y1)) fun k80_1 =>
    lp_X8_findDeeds_15 LN RF v0 v1 x.1 k80_1 gk_fuel (0, x.2)
def f_X8_findDeeds (LN : Nat → Nat) (RF : Nat → Nat → Nat) (a0 : Nat) (a1 : Int32) (M : gk_M) : Option (gk_M) :=
  gk_put M a0 32 0 fun M21 =>
  gk_jn (fun y22 : gk_M =>
    gk_jn (fun y24 : gk_M =>
      gk_ast LN y24 (RF a0 29) (y24.1 a0 32) 4000 fun M27 =>
      gk_put M27 a0 32 ((M27.1 a0 32) + 1) fun M28 =>
      some M28) fun k153_24 =>
    lp_X8_findDeeds_88 LN RF a0 a1 k153_24 gk_fuel (2, y22)) fun k86_22 =>
  lp_X8_findDeeds_7 LN RF a0 a1 k86_22 gk_fuel (0, M21)
set_option maxHeartbeats 4000000 in
set_option maxRecDepth 100000 in
theorem lk_X8_findDeeds_95 {Z : gk_Z} {Y : gk_Y} (hY : gk_WF Y) (hC : gk_C Z Y cX8_findDeeds 4 RX8 0) (hR : gk_R Z Y none) (v0 : Nat) (v1 : Int32) (v2 : Int32) (tv0 : gk_T Y 18 v0) (k147 : gk_M → Option (gk_M)) (hk147 : ∀ z6 : gk_M, gk_K Z Y 4 gk_rV 147 [(0, .ref v0), (1, .int v1), (2, .int v2)] [] z6 (k147 z6)) : ∀ (n : Nat) (x : Int32 × gk_M), gk_K Z Y 4 gk_rV 95 [(0, .ref v0), (1, .int v1), (2, .int v2), (3, .int x.1)] [] x.2 (lp_X8_findDeeds_95 (gk_ln Y) (gk_rf Y) v0 v1 v2 k147 n x) := by
  intro n
  induction n with
  | zero => intro x; exact gk_none
  | succ n ih =>
    intro x
    rw [lp_X8_findDeeds_95]
    refine gk_iload_n hC 3 dX8_findDeeds_95 rfl (q := 96) rfl ?_
    refine gk_bipush hC (v := 8) dX8_findDeeds_96 kc_b_8 (q := 98) rfl ?_
    refine gk_icmp_ge hC dX8_findDeeds_98 (tg := 147) rfl (q := 101) rfl ?_ ?_
    · refine gk_pick [0, 1, 2] rfl ?_
      exact hk147 x.2
    · refine gk_iload_n hC 1 dX8_findDeeds_101 rfl (q := 102) rfl ?_
      refine gk_iload_n hC 3 dX8_findDeeds_102 rfl (q := 103) rfl ?_
      refine gk_ishr hC dX8_findDeeds_103 (q := 104) rfl ?_
      refine gk_iconst hC (v := 1) dX8_findDeeds_104 kc_i_1 (q := 105) rfl ?_
      refine gk_iand hC dX8_findDeeds_105 (q := 106) rfl ?_
      refine gk_jnR (fun k141_1 => ∀ z2 : gk_M, gk_K Z Y 4 gk_rV 141 [(0, .ref v0), (1, .int v1), (2, .int v2), (3, .int x.1)] [] z2 (k141_1 z2)) (fun y1 => ?_) (fun k141_1 hk141_1 => ?_)
      · show gk_K Z Y 4 gk_rV 141 [(0, .ref v0), (1, .int v1), (2, .int v2), (3, .int x.1)] [] y1 _
        refine gk_iinc hC (v := 1) 3 (lv' := [(0, .ref v0), (1, .int v1), (2, .int v2), (3, .int (x.1 + 1))]) [1, 2, 3, 0] dX8_findDeeds_141 rfl kc_i_1 (by decide) rfl (q := 144) rfl ?_
        refine gk_goto hC dX8_findDeeds_144 (q := 95) rfl ?_
        exact ih ((x.1 + 1), y1)
      · refine gk_if_ne hC dX8_findDeeds_106 (tg := 112) rfl (q := 109) rfl ?_ ?_
        · refine gk_goto hC dX8_findDeeds_109 (q := 141) rfl ?_
          exact hk141_1 x.2
        · refine gk_aload_n hC 0 dX8_findDeeds_112 rfl (q := 113) rfl ?_
          refine gk_getR hC dX8_findDeeds_113 fl_RX8_85 (by decide) tv0 (q := 116) rfl (fun t3 => ?_)
          refine gk_aload_n hC 0 dX8_findDeeds_116 rfl (q := 117) rfl ?_
          refine gk_getI hC dX8_findDeeds_117 fl_RX8_236 tv0 (q := 120) rfl ?_
          refine gk_sipush hC (v := 1000) dX8_findDeeds_120 kc_s_1000 (q := 123) rfl ?_
          refine gk_iload_n hC 2 dX8_findDeeds_123 rfl (q := 124) rfl ?_
          refine gk_imul hC dX8_findDeeds_124 (q := 125) rfl ?_
          refine gk_bipush hC (v := 10) dX8_findDeeds_125 kc_b_10 (q := 127) rfl ?_
          refine gk_iload_n hC 3 dX8_findDeeds_127 rfl (q := 128) rfl ?_
          refine gk_imul hC dX8_findDeeds_128 (q := 129) rfl ?_
          refine gk_iadd hC dX8_findDeeds_129 (q := 130) rfl ?_
          refine gk_iast hC dX8_findDeeds_130 t3 (q := 131) rfl (fun M4 => ?_)
          refine gk_aload_n hC 0 dX8_findDeeds_131 rfl (q := 132) rfl ?_
          refine gk_dup hC dX8_findDeeds_132 rfl (q := 133) rfl ?_
          refine gk_getI hC dX8_findDeeds_133 fl_RX8_236 tv0 (q := 136) rfl ?_
          refine gk_iconst hC (v := 1) dX8_findDeeds_136 kc_i_1 (q := 137) rfl ?_
          refine gk_iadd hC dX8_findDeeds_137 (q := 138) rfl ?_
          refine gk_putI hC dX8_findDeeds_138 fp_RX8_236 tv0 (q := 141) rfl (fun M5 => ?_)
          exact hk141_1 M5
set_option maxHeartbeats 4000000 in
set_option maxRecDepth 100000 in
theorem lk_X8_findDeeds_88 {Z : gk_Z} {Y : gk_Y} (hY : gk_WF Y) (hC : gk_C Z Y cX8_findDeeds 4 RX8 0) (hR : gk_R Z Y none) (v0 : Nat) (v1 : Int32) (tv0 : gk_T Y 18 v0) (k153 : gk_M → Option (gk_M)) (hk153 : ∀ z29 : gk_M, gk_K Z Y 4 gk_rV 153 [(0, .ref v0)] [] z29 (k153 z29)) : ∀ (n : Nat) (x : Int32 × gk_M), gk_K Z Y 4 gk_rV 88 [(0, .ref v0), (1, .int v1), (2, .int x.1)] [] x.2 (lp_X8_findDeeds_88 (gk_ln Y) (gk_rf Y) v0 v1 k153 n x) := by
  intro n
  induction n with
  | zero => intro x; exact gk_none
  | succ n ih =>
    intro x
    rw [lp_X8_findDeeds_88]
    refine gk_iload_n hC 2 dX8_findDeeds_88 rfl (q := 89) rfl ?_
    refine gk_iconst hC (v := 4) dX8_findDeeds_89 kc_i_4 (q := 90) rfl ?_
    refine gk_icmp_ge hC dX8_findDeeds_90 (tg := 153) rfl (q := 93) rfl ?_ ?_
    · refine gk_pick [0] rfl ?_
      exact hk153 x.2
    · refine gk_iconst hC (v := 0) dX8_findDeeds_93 kc_i_0 (q := 94) rfl ?_
      refine gk_istore_n hC (lv' := [(0, .ref v0), (1, .int v1), (2, .int x.1), (3, .int 0)]) [1, 2, 3, 0] dX8_findDeeds_94 (by decide) rfl (q := 95) rfl ?_
      refine gk_jnR (fun k147_1 => ∀ z2 : gk_M, gk_K Z Y 4 gk_rV 147 [(0, .ref v0), (1, .int v1), (2, .int x.1)] [] z2 (k147_1 z2)) (fun y1 => ?_) (fun k147_1 hk147_1 => ?_)
      · show gk_K Z Y 4 gk_rV 147 [(0, .ref v0), (1, .int v1), (2, .int x.1)] [] y1 _
        refine gk_iinc hC (v := 1) 2 (lv' := [(0, .ref v0), (1, .int v1), (2, .int (x.1 + 1))]) [1, 2, 0] dX8_findDeeds_147 rfl kc_i_1 (by decide) rfl (q := 150) rfl ?_
        refine gk_goto hC dX8_findDeeds_150 (q := 88) rfl ?_
        exact ih ((x.1 + 1), y1)
      · exact lk_X8_findDeeds_95 hY hC hR v0 v1 x.1 tv0 k147_1 hk147_1 gk_fuel (0, x.2)
set_option maxHeartbeats 4000000 in
set_option maxRecDepth 100000 in
theorem lk_X8_findDeeds_15 {Z : gk_Z} {Y : gk_Y} (hY : gk_WF Y) (hC : gk_C Z Y cX8_findDeeds 4 RX8 0) (hR : gk_R Z Y none) (v0 : Nat) (v1 : Int32) (v2 : Int32) (tv0 : gk_T Y 18 v0) (k80 : gk_M → Option (gk_M)) (hk80 : ∀ z6 : gk_M, gk_K Z Y 4 gk_rV 80 [(0, .ref v0), (1, .int v1), (2, .int v2)] [] z6 (k80 z6)) : ∀ (n : Nat) (x : Int32 × gk_M), gk_K Z Y 4 gk_rV 15 [(0, .ref v0), (1, .int v1), (2, .int v2), (3, .int x.1)] [] x.2 (lp_X8_findDeeds_15 (gk_ln Y) (gk_rf Y) v0 v1 v2 k80 n x) := by
  intro n
  induction n with
  | zero => intro x; exact gk_none
  | succ n ih =>
    intro x
    rw [lp_X8_findDeeds_15]
    refine gk_iload_n hC 3 dX8_findDeeds_15 rfl (q := 16) rfl ?_
    refine gk_bipush hC (v := 8) dX8_findDeeds_16 kc_b_8 (q := 18) rfl ?_
    refine gk_icmp_ge hC dX8_findDeeds_18 (tg := 80) rfl (q := 21) rfl ?_ ?_
    · refine gk_pick [0, 1, 2] rfl ?_
      exact hk80 x.2
    · refine gk_iload_n hC 2 dX8_findDeeds_21 rfl (q := 22) rfl ?_
      refine gk_iload_n hC 3 dX8_findDeeds_22 rfl (q := 23) rfl ?_
      refine gk_jnR (fun k74_1 => ∀ z2 : gk_M, gk_K Z Y 4 gk_rV 74 [(0, .ref v0), (1, .int v1), (2, .int v2), (3, .int x.1)] [] z2 (k74_1 z2)) (fun y1 => ?_) (fun k74_1 hk74_1 => ?_)
      · show gk_K Z Y 4 gk_rV 74 [(0, .ref v0), (1, .int v1), (2, .int v2), (3, .int x.1)] [] y1 _
        refine gk_iinc hC (v := 1) 3 (lv' := [(0, .ref v0), (1, .int v1), (2, .int v2), (3, .int (x.1 + 1))]) [1, 2, 3, 0] dX8_findDeeds_74 rfl kc_i_1 (by decide) rfl (q := 77) rfl ?_
        refine gk_goto hC dX8_findDeeds_77 (q := 15) rfl ?_
        exact ih ((x.1 + 1), y1)
      · refine gk_icmp_eq hC dX8_findDeeds_23 (tg := 74) rfl (q := 26) rfl ?_ ?_
        · exact hk74_1 x.2
        · refine gk_iload_n hC 1 dX8_findDeeds_26 rfl (q := 27) rfl ?_
          refine gk_iload_n hC 2 dX8_findDeeds_27 rfl (q := 28) rfl ?_
          refine gk_ishr hC dX8_findDeeds_28 (q := 29) rfl ?_
          refine gk_iconst hC (v := 1) dX8_findDeeds_29 kc_i_1 (q := 30) rfl ?_
          refine gk_iand hC dX8_findDeeds_30 (q := 31) rfl ?_
          refine gk_if_eq hC dX8_findDeeds_31 (tg := 74) rfl (q := 34) rfl ?_ ?_
          · exact hk74_1 x.2
          · refine gk_iload_n hC 1 dX8_findDeeds_34 rfl (q := 35) rfl ?_
            refine gk_iload_n hC 3 dX8_findDeeds_35 rfl (q := 36) rfl ?_
            refine gk_ishr hC dX8_findDeeds_36 (q := 37) rfl ?_
            refine gk_iconst hC (v := 1) dX8_findDeeds_37 kc_i_1 (q := 38) rfl ?_
            refine gk_iand hC dX8_findDeeds_38 (q := 39) rfl ?_
            refine gk_if_ne hC dX8_findDeeds_39 (tg := 45) rfl (q := 42) rfl ?_ ?_
            · refine gk_goto hC dX8_findDeeds_42 (q := 74) rfl ?_
              exact hk74_1 x.2
            · refine gk_aload_n hC 0 dX8_findDeeds_45 rfl (q := 46) rfl ?_
              refine gk_getR hC dX8_findDeeds_46 fl_RX8_85 (by decide) tv0 (q := 49) rfl (fun t3 => ?_)
              refine gk_aload_n hC 0 dX8_findDeeds_49 rfl (q := 50) rfl ?_
              refine gk_getI hC dX8_findDeeds_50 fl_RX8_236 tv0 (q := 53) rfl ?_
              refine gk_sipush hC (v := 1000) dX8_findDeeds_53 kc_s_1000 (q := 56) rfl ?_
              refine gk_bipush hC (v := 10) dX8_findDeeds_56 kc_b_10 (q := 58) rfl ?_
              refine gk_iload_n hC 2 dX8_findDeeds_58 rfl (q := 59) rfl ?_
              refine gk_imul hC dX8_findDeeds_59 (q := 60) rfl ?_
              refine gk_iadd hC dX8_findDeeds_60 (q := 61) rfl ?_
              refine gk_iload_n hC 3 dX8_findDeeds_61 rfl (q := 62) rfl ?_
              refine gk_iadd hC dX8_findDeeds_62 (q := 63) rfl ?_
              refine gk_iast hC dX8_findDeeds_63 t3 (q := 64) rfl (fun M4 => ?_)
              refine gk_aload_n hC 0 dX8_findDeeds_64 rfl (q := 65) rfl ?_
              refine gk_dup hC dX8_findDeeds_65 rfl (q := 66) rfl ?_
              refine gk_getI hC dX8_findDeeds_66 fl_RX8_236 tv0 (q := 69) rfl ?_
              refine gk_iconst hC (v := 1) dX8_findDeeds_69 kc_i_1 (q := 70) rfl ?_
              refine gk_iadd hC dX8_findDeeds_70 (q := 71) rfl ?_
              refine gk_putI hC dX8_findDeeds_71 fp_RX8_236 tv0 (q := 74) rfl (fun M5 => ?_)
              exact hk74_1 M5
set_option maxHeartbeats 4000000 in
set_option maxRecDepth 100000 in
theorem lk_X8_findDeeds_7 {Z : gk_Z} {Y : gk_Y} (hY : gk_WF Y) (hC : gk_C Z Y cX8_findDeeds 4 RX8 0) (hR : gk_R Z Y none) (v0 : Nat) (v1 : Int32) (tv0 : gk_T Y 18 v0) (k86 : gk_M → Option (gk_M)) (hk86 : ∀ z30 : gk_M, gk_K Z Y 4 gk_rV 86 [(0, .ref v0), (1, .int v1)] [] z30 (k86 z30)) : ∀ (n : Nat) (x : Int32 × gk_M), gk_K Z Y 4 gk_rV 7 [(0, .ref v0), (1, .int v1), (2, .int x.1)] [] x.2 (lp_X8_findDeeds_7 (gk_ln Y) (gk_rf Y) v0 v1 k86 n x) := by
  intro n
  induction n with
  | zero => intro x; exact gk_none
  | succ n ih =>
    intro x
    rw [lp_X8_findDeeds_7]
    refine gk_iload_n hC 2 dX8_findDeeds_7 rfl (q := 8) rfl ?_
    refine gk_bipush hC (v := 8) dX8_findDeeds_8 kc_b_8 (q := 10) rfl ?_
    refine gk_icmp_ge hC dX8_findDeeds_10 (tg := 86) rfl (q := 13) rfl ?_ ?_
    · refine gk_pick [0, 1] rfl ?_
      exact hk86 x.2
    · refine gk_iconst hC (v := 0) dX8_findDeeds_13 kc_i_0 (q := 14) rfl ?_
      refine gk_istore_n hC (lv' := [(0, .ref v0), (1, .int v1), (2, .int x.1), (3, .int 0)]) [1, 2, 3, 0] dX8_findDeeds_14 (by decide) rfl (q := 15) rfl ?_
      refine gk_jnR (fun k80_1 => ∀ z2 : gk_M, gk_K Z Y 4 gk_rV 80 [(0, .ref v0), (1, .int v1), (2, .int x.1)] [] z2 (k80_1 z2)) (fun y1 => ?_) (fun k80_1 hk80_1 => ?_)
      · show gk_K Z Y 4 gk_rV 80 [(0, .ref v0), (1, .int v1), (2, .int x.1)] [] y1 _
        refine gk_iinc hC (v := 1) 2 (lv' := [(0, .ref v0), (1, .int v1), (2, .int (x.1 + 1))]) [1, 2, 0] dX8_findDeeds_80 rfl kc_i_1 (by decide) rfl (q := 83) rfl ?_
        refine gk_goto hC dX8_findDeeds_83 (q := 7) rfl ?_
        exact ih ((x.1 + 1), y1)
      · exact lk_X8_findDeeds_15 hY hC hR v0 v1 x.1 tv0 k80_1 hk80_1 gk_fuel (0, x.2)
set_option maxHeartbeats 4000000 in
set_option maxRecDepth 100000 in
theorem m_X8_findDeeds (l : Launch) {Y : gk_Y} (hY : gk_WF Y) (a0 : Nat) (a1 : Int32) (M : gk_M) (t0 : gk_T Y 18 a0) : gk_MF l Y yX8_findDeeds cX8_findDeeds 4 none 0 [.ref a0, .int a1] M gk_rV (f_X8_findDeeds (gk_ln Y) (gk_rf Y) a0 a1 M) := by
  refine gk_met hY (plainFor_of_name (by decide)) (Nat.le_of_ble_eq_true rfl) fun Z hC hR => ?_
  show gk_K Z Y 4 gk_rV 0 [(0, .ref a0), (1, .int a1)] [] M _
  unfold f_X8_findDeeds
  refine gk_aload_n hC 0 dX8_findDeeds_0 rfl (q := 1) rfl ?_
  refine gk_iconst hC (v := 0) dX8_findDeeds_1 kc_i_0 (q := 2) rfl ?_
  refine gk_putI hC dX8_findDeeds_2 fp_RX8_236 t0 (q := 5) rfl (fun M21 => ?_)
  refine gk_iconst hC (v := 0) dX8_findDeeds_5 kc_i_0 (q := 6) rfl ?_
  refine gk_istore_n hC (lv' := [(0, .ref a0), (1, .int a1), (2, .int 0)]) [1, 2, 0] dX8_findDeeds_6 (by decide) rfl (q := 7) rfl ?_
  refine gk_jnR (fun k86_22 => ∀ z23 : gk_M, gk_K Z Y 4 gk_rV 86 [(0, .ref a0), (1, .int a1)] [] z23 (k86_22 z23)) (fun y22 => ?_) (fun k86_22 hk86_22 => ?_)
  · show gk_K Z Y 4 gk_rV 86 [(0, .ref a0), (1, .int a1)] [] y22 _
    refine gk_iconst hC (v := 2) dX8_findDeeds_86 kc_i_2 (q := 87) rfl ?_
    refine gk_istore_n hC (lv' := [(0, .ref a0), (1, .int a1), (2, .int 2)]) [1, 2, 0] dX8_findDeeds_87 (by decide) rfl (q := 88) rfl ?_
    refine gk_jnR (fun k153_24 => ∀ z25 : gk_M, gk_K Z Y 4 gk_rV 153 [(0, .ref a0)] [] z25 (k153_24 z25)) (fun y24 => ?_) (fun k153_24 hk153_24 => ?_)
    · show gk_K Z Y 4 gk_rV 153 [(0, .ref a0)] [] y24 _
      refine gk_aload_n hC 0 dX8_findDeeds_153 rfl (q := 154) rfl ?_
      refine gk_getR hC dX8_findDeeds_154 fl_RX8_85 (by decide) t0 (q := 157) rfl (fun t26 => ?_)
      refine gk_aload_n hC 0 dX8_findDeeds_157 rfl (q := 158) rfl ?_
      refine gk_getI hC dX8_findDeeds_158 fl_RX8_236 t0 (q := 161) rfl ?_
      refine gk_sipush hC (v := 4000) dX8_findDeeds_161 kc_s_4000 (q := 164) rfl ?_
      refine gk_iast hC dX8_findDeeds_164 t26 (q := 165) rfl (fun M27 => ?_)
      refine gk_aload_n hC 0 dX8_findDeeds_165 rfl (q := 166) rfl ?_
      refine gk_dup hC dX8_findDeeds_166 rfl (q := 167) rfl ?_
      refine gk_getI hC dX8_findDeeds_167 fl_RX8_236 t0 (q := 170) rfl ?_
      refine gk_iconst hC (v := 1) dX8_findDeeds_170 kc_i_1 (q := 171) rfl ?_
      refine gk_iadd hC dX8_findDeeds_171 (q := 172) rfl ?_
      refine gk_putI hC dX8_findDeeds_172 fp_RX8_236 t0 (q := 175) rfl (fun M28 => ?_)
      exact gk_vret hC hR dX8_findDeeds_175 rfl
    · exact lk_X8_findDeeds_88 hY hC hR a0 a1 t0 k153_24 hk153_24 gk_fuel (2, y22)
  · exact lk_X8_findDeeds_7 hY hC hR a0 a1 t0 k86_22 hk86_22 gk_fuel (0, M21)
def f_X8_isDone (LN : Nat → Nat) (RF : Nat → Nat → Nat) (a0 : Nat) (a1 : Int32) (M : gk_M) : Option (Int32 × gk_M) :=
  gk_sw (a1 / 1000) 1 [(f_X8_dial LN RF a0 ((a1 - a1 / 1000 * 1000) / 10) (a1 - a1 / 10 * 10) M).bind fun r21 =>
    gk_jn (fun y22 : Int32 =>
      gk_zz y22 (some (y22, r21.2))) fun k57_22 =>
    if r21.1 < 0 then
      k57_22 0
    else
    k57_22 1,
    (f_X8_take LN RF a0 ((a1 - a1 / 1000 * 1000) / 10) M).bind fun r24 =>
    gk_jn (fun y25 : Int32 =>
      gk_zz y25 (some (y25, r24.2))) fun k71_25 =>
    if r24.1 < 0 then
      k71_25 0
    else
    k71_25 1,
    (f_X8_down LN RF a0 ((a1 - a1 / 1000 * 1000) / 10) M).bind fun r27 =>
    gk_jn (fun y28 : Int32 =>
      gk_zz y28 (some (y28, r27.2))) fun k85_28 =>
    if r27.1 < 0 then
      k85_28 0
    else
    k85_28 1]
  ((f_X8_tick LN RF a0 M).bind fun r30 =>
  gk_jn (fun y31 : Int32 =>
    gk_zz y31 (some (y31, r30.2))) fun k98_31 =>
  if r30.1 < 0 then
    k98_31 0
  else
  k98_31 1)
set_option maxHeartbeats 4000000 in
set_option maxRecDepth 100000 in
theorem m_X8_isDone (l : Launch) {Y : gk_Y} (hY : gk_WF Y) (a0 : Nat) (a1 : Int32) (M : gk_M) (t0 : gk_T Y 18 a0) : gk_MF l Y yX8_isDone cX8_isDone 3 (some .boolean) 8 [.ref a0, .int a1] M gk_rI (f_X8_isDone (gk_ln Y) (gk_rf Y) a0 a1 M) := by
  refine gk_met hY (plainFor_of_name (by decide)) (Nat.le_of_ble_eq_true rfl) fun Z hC hR => ?_
  show gk_K Z Y 3 gk_rI 0 [(0, .ref a0), (1, .int a1)] [] M _
  unfold f_X8_isDone
  refine gk_iload_n hC 1 dX8_isDone_0 rfl (q := 1) rfl ?_
  refine gk_sipush hC (v := 1000) dX8_isDone_1 kc_s_1000 (q := 4) rfl ?_
  refine gk_irem hC dX8_isDone_4 (by decide) (q := 5) rfl ?_
  refine gk_bipush hC (v := 10) dX8_isDone_5 kc_b_10 (q := 7) rfl ?_
  refine gk_idiv hC dX8_isDone_7 (by decide) (q := 8) rfl ?_
  refine gk_istore_n hC (lv' := [(0, .ref a0), (1, .int a1), (2, .int ((a1 - a1 / 1000 * 1000) / 10))]) [1, 2, 0] dX8_isDone_8 (by decide) rfl (q := 9) rfl ?_
  refine gk_iload_n hC 1 dX8_isDone_9 rfl (q := 10) rfl ?_
  refine gk_sipush hC (v := 1000) dX8_isDone_10 kc_s_1000 (q := 13) rfl ?_
  refine gk_idiv hC dX8_isDone_13 (by decide) (q := 14) rfl ?_
  refine gk_table hC (ts := [40, 58, 72]) (tg := 86) dX8_isDone_14 (by decide) (by decide) rfl ⟨?_, ?_, ?_, trivial⟩ ?_
  · refine gk_aload_n hC 0 dX8_isDone_40 rfl (q := 41) rfl ?_
    refine gk_iload_n hC 2 dX8_isDone_41 rfl (q := 42) rfl ?_
    refine gk_iload_n hC 1 dX8_isDone_42 rfl (q := 43) rfl ?_
    refine gk_bipush hC (v := 10) dX8_isDone_43 kc_b_10 (q := 45) rfl ?_
    refine gk_irem hC dX8_isDone_45 (by decide) (q := 46) rfl ?_
    refine gk_callV (As := [.int ((a1 - a1 / 1000 * 1000) / 10), .int (a1 - a1 / 10 * 10)]) (rest := []) hC (fun l => m_X8_dial l hY a0 ((a1 - a1 / 1000 * 1000) / 10) (a1 - a1 / 10 * 10) M t0) ml_RX8_239 ok_X8_dial dX8_isDone_46 t0 ⟨by decide, rfl⟩ rfl (by decide) (Nat.le_of_ble_eq_true rfl) rfl (q := 49) rfl (fun r21 => ?_)
    show gk_K Z Y 3 gk_rI 49 [(0, .ref a0), (1, .int a1), (2, .int ((a1 - a1 / 1000 * 1000) / 10))] [.int r21.1] r21.2 _
    refine gk_jnR (fun k57_22 => ∀ z23 : Int32, gk_K Z Y 3 gk_rI 57 [] [.int z23] r21.2 (k57_22 z23)) (fun y22 => ?_) (fun k57_22 hk57_22 => ?_)
    · show gk_K Z Y 3 gk_rI 57 [] [.int y22] r21.2 _
      exact gk_zzR (fun hv => gk_zret hC hR dX8_isDone_57 hv rfl)
    · refine gk_if_lt hC dX8_isDone_49 (tg := 56) rfl (q := 52) rfl ?_ ?_
      · refine gk_iconst hC (v := 0) dX8_isDone_56 kc_i_0 (q := 57) rfl ?_
        refine gk_pick [] rfl ?_
        exact hk57_22 0
      · refine gk_iconst hC (v := 1) dX8_isDone_52 kc_i_1 (q := 53) rfl ?_
        refine gk_goto hC dX8_isDone_53 (q := 57) rfl ?_
        refine gk_pick [] rfl ?_
        exact hk57_22 1
  · refine gk_aload_n hC 0 dX8_isDone_58 rfl (q := 59) rfl ?_
    refine gk_iload_n hC 2 dX8_isDone_59 rfl (q := 60) rfl ?_
    refine gk_callV (As := [.int ((a1 - a1 / 1000 * 1000) / 10)]) (rest := []) hC (fun l => m_X8_take l hY a0 ((a1 - a1 / 1000 * 1000) / 10) M t0) ml_RX8_242 ok_X8_take dX8_isDone_60 t0 ⟨by decide, rfl⟩ rfl (by decide) (Nat.le_of_ble_eq_true rfl) rfl (q := 63) rfl (fun r24 => ?_)
    show gk_K Z Y 3 gk_rI 63 [(0, .ref a0), (1, .int a1), (2, .int ((a1 - a1 / 1000 * 1000) / 10))] [.int r24.1] r24.2 _
    refine gk_jnR (fun k71_25 => ∀ z26 : Int32, gk_K Z Y 3 gk_rI 71 [] [.int z26] r24.2 (k71_25 z26)) (fun y25 => ?_) (fun k71_25 hk71_25 => ?_)
    · show gk_K Z Y 3 gk_rI 71 [] [.int y25] r24.2 _
      exact gk_zzR (fun hv => gk_zret hC hR dX8_isDone_71 hv rfl)
    · refine gk_if_lt hC dX8_isDone_63 (tg := 70) rfl (q := 66) rfl ?_ ?_
      · refine gk_iconst hC (v := 0) dX8_isDone_70 kc_i_0 (q := 71) rfl ?_
        refine gk_pick [] rfl ?_
        exact hk71_25 0
      · refine gk_iconst hC (v := 1) dX8_isDone_66 kc_i_1 (q := 67) rfl ?_
        refine gk_goto hC dX8_isDone_67 (q := 71) rfl ?_
        refine gk_pick [] rfl ?_
        exact hk71_25 1
  · refine gk_aload_n hC 0 dX8_isDone_72 rfl (q := 73) rfl ?_
    refine gk_iload_n hC 2 dX8_isDone_73 rfl (q := 74) rfl ?_
    refine gk_callV (As := [.int ((a1 - a1 / 1000 * 1000) / 10)]) (rest := []) hC (fun l => m_X8_down l hY a0 ((a1 - a1 / 1000 * 1000) / 10) M t0) ml_RX8_245 ok_X8_down dX8_isDone_74 t0 ⟨by decide, rfl⟩ rfl (by decide) (Nat.le_of_ble_eq_true rfl) rfl (q := 77) rfl (fun r27 => ?_)
    show gk_K Z Y 3 gk_rI 77 [(0, .ref a0), (1, .int a1), (2, .int ((a1 - a1 / 1000 * 1000) / 10))] [.int r27.1] r27.2 _
    refine gk_jnR (fun k85_28 => ∀ z29 : Int32, gk_K Z Y 3 gk_rI 85 [] [.int z29] r27.2 (k85_28 z29)) (fun y28 => ?_) (fun k85_28 hk85_28 => ?_)
    · show gk_K Z Y 3 gk_rI 85 [] [.int y28] r27.2 _
      exact gk_zzR (fun hv => gk_zret hC hR dX8_isDone_85 hv rfl)
    · refine gk_if_lt hC dX8_isDone_77 (tg := 84) rfl (q := 80) rfl ?_ ?_
      · refine gk_iconst hC (v := 0) dX8_isDone_84 kc_i_0 (q := 85) rfl ?_
        refine gk_pick [] rfl ?_
        exact hk85_28 0
      · refine gk_iconst hC (v := 1) dX8_isDone_80 kc_i_1 (q := 81) rfl ?_
        refine gk_goto hC dX8_isDone_81 (q := 85) rfl ?_
        refine gk_pick [] rfl ?_
        exact hk85_28 1
  · refine gk_aload_n hC 0 dX8_isDone_86 rfl (q := 87) rfl ?_
    refine gk_callV (As := []) (rest := []) hC (fun l => m_X8_tick l hY a0 M t0) ml_RX8_248 ok_X8_tick dX8_isDone_87 t0 ⟨by decide, rfl⟩ rfl (by decide) (Nat.le_of_ble_eq_true rfl) rfl (q := 90) rfl (fun r30 => ?_)
    show gk_K Z Y 3 gk_rI 90 [(0, .ref a0), (1, .int a1), (2, .int ((a1 - a1 / 1000 * 1000) / 10))] [.int r30.1] r30.2 _
    refine gk_jnR (fun k98_31 => ∀ z32 : Int32, gk_K Z Y 3 gk_rI 98 [] [.int z32] r30.2 (k98_31 z32)) (fun y31 => ?_) (fun k98_31 hk98_31 => ?_)
    · show gk_K Z Y 3 gk_rI 98 [] [.int y31] r30.2 _
      exact gk_zzR (fun hv => gk_zret hC hR dX8_isDone_98 hv rfl)
    · refine gk_if_lt hC dX8_isDone_90 (tg := 97) rfl (q := 93) rfl ?_ ?_
      · refine gk_iconst hC (v := 0) dX8_isDone_97 kc_i_0 (q := 98) rfl ?_
        refine gk_pick [] rfl ?_
        exact hk98_31 0
      · refine gk_iconst hC (v := 1) dX8_isDone_93 kc_i_1 (q := 94) rfl ?_
        refine gk_goto hC dX8_isDone_94 (q := 98) rfl ?_
        refine gk_pick [] rfl ?_
        exact hk98_31 1
end
