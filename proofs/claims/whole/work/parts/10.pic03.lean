noncomputable section
def lp_X2_go_26 (LN : Nat → Nat) (RF : Nat → Nat → Nat) (v0 : Nat) (v1 : Int32) (v4 : Nat) (k200 : gk_M → Option (gk_M)) : Nat → (Int32 × Int32 × Int32 × gk_M) → Option (gk_M)
  | 0, _ => none
  | n + 1, x =>
    if 8 < x.2.2.1 then
      k200 x.2.2.2
    else
    (f_X1_comesRoundTo LN RF v4 x.2.1 x.2.2.2).bind fun r1 =>
    if r1 = 0 then
      gk_jn (fun y2 : Int32 =>
        (f_X1_enter LN RF v4 x.2.1 y2 x.2.2.2).bind fun r4 =>
        (f_X2_firstThatActs LN RF v0 (r4.1 v4 0) x.1 x.2.1 r4).bind fun r5 =>
        if r5 = (-1) then
          (f_X2_arrive LN RF v0 v1 x.2.1 r4).bind fun r6 =>
          some r6
        else
        (f_X1_note LN RF v4 r5 r4).bind fun r7 =>
        gk_aldr LN RF (RF (RF v0 0) 0) r5 fun o10 =>
        if (r7.1 o10 1) = 2 then
          (f_X2_close LN RF v0 v4 1 r7).bind fun r12 =>
          some r12
        else
        if (r7.1 o10 1) = 4 then
          gk_put r7 v4 1 2 fun M13 =>
          gk_put M13 v4 5 x.2.1 fun M14 =>
          gk_ast LN M14 (RF v0 3) x.2.1 v1 fun M16 =>
          some M16
        else
        lp_X2_go_26 LN RF v0 v1 v4 k200 n (x.2.1, r7.1 o10 3, (x.2.2.1 + 1), r7)) fun k84_2 =>
      gk_jn (fun y17 : Unit =>
        k84_2 x.1) fun k82_17 =>
      if (x.2.2.2.1 v4 3) = 0 then
        (f_X6_has LN RF (RF v0 0) x.2.1 7 x.2.2.2).bind fun r20 =>
        if r20 = 0 then
          k82_17 ()
        else
        k84_2 x.2.1
      else
      k82_17 ()
    else
    (f_X2_close LN RF v0 v4 2 x.2.2.2).bind fun r21 =>
    some r21
def f_X2_go (LN : Nat → Nat) (RF : Nat → Nat → Nat) (a0 : Nat) (a1 : Int32) (a2 : Int32) (a3 : Int32) (M : gk_M) : Option (gk_M) :=
  (f_X2_isCall LN RF a0 a1 M).bind fun r21 =>
  if r21 = 0 then
    some M
  else
  gk_aldr LN RF (RF a0 1) a1 fun o23 =>
  gk_jn (fun y25 : gk_M =>
    some y25) fun k200_25 =>
  lp_X2_go_26 LN RF a0 a1 o23 k200_25 gk_fuel (a2, a3, 0, M)
set_option maxHeartbeats 4000000 in
set_option maxRecDepth 100000 in
theorem lk_X2_go_26 {Z : gk_Z} {Y : gk_Y} (hY : gk_WF Y) (hC : gk_C Z Y cX2_go 10 RX2 2) (hR : gk_R Z Y none) (v0 : Nat) (v1 : Int32) (v4 : Nat) (tv0 : gk_T Y 12 v0) (tv4 : gk_T Y 11 v4) (k200 : gk_M → Option (gk_M)) (hk200 : ∀ z27 : gk_M, gk_K Z Y 10 gk_rV 200 [] [] z27 (k200 z27)) : ∀ (n : Nat) (x : Int32 × Int32 × Int32 × gk_M), gk_K Z Y 10 gk_rV 26 [(0, .ref v0), (1, .int v1), (4, .ref v4), (5, .int x.1), (6, .int x.2.1), (7, .int x.2.2.1)] [] x.2.2.2 (lp_X2_go_26 (gk_ln Y) (gk_rf Y) v0 v1 v4 k200 n x) := by
  intro n
  induction n with
  | zero => intro x; exact gk_none
  | succ n ih =>
    intro x
    rw [lp_X2_go_26]
    refine gk_iload hC 5 dX2_go_26 rfl (q := 28) rfl ?_
    refine gk_bipush hC (v := 8) dX2_go_28 kc_b_8 (q := 30) rfl ?_
    refine gk_icmp_gt hC dX2_go_30 (tg := 200) rfl (q := 33) rfl ?_ ?_
    · refine gk_pick [] rfl ?_
      exact hk200 x.2.2.2
    · refine gk_aload hC 2 dX2_go_33 rfl (q := 35) rfl ?_
      refine gk_iload hC 4 dX2_go_35 rfl (q := 37) rfl ?_
      refine gk_callV (As := [.int x.2.1]) (rest := []) hC (fun l => m_X1_comesRoundTo l hY v4 x.2.1 x.2.2.2 tv4) ml_RX2_164 ok_X1_comesRoundTo dX2_go_37 tv4 ⟨by decide, rfl⟩ rfl (by decide) (Nat.le_of_ble_eq_true rfl) rfl (q := 40) rfl (fun r1 => ?_)
      show gk_K Z Y 10 gk_rV 40 [(0, .ref v0), (1, .int v1), (4, .ref v4), (5, .int x.1), (6, .int x.2.1), (7, .int x.2.2.1)] [.int r1] x.2.2.2 _
      refine gk_if_eq hC dX2_go_40 (tg := 51) rfl (q := 43) rfl ?_ ?_
      · refine gk_aload hC 2 dX2_go_51 rfl (q := 53) rfl ?_
        refine gk_iload hC 4 dX2_go_53 rfl (q := 55) rfl ?_
        refine gk_aload hC 2 dX2_go_55 rfl (q := 57) rfl ?_
        refine gk_getI hC dX2_go_57 fl_RX2_110 tv4 (q := 60) rfl ?_
        refine gk_jnR (fun k84_2 => ∀ z3 : Int32, gk_K Z Y 10 gk_rV 84 [(0, .ref v0), (1, .int v1), (4, .ref v4), (5, .int x.1), (6, .int x.2.1), (7, .int x.2.2.1)] [.int z3, .int x.2.1, .ref v4] x.2.2.2 (k84_2 z3)) (fun y2 => ?_) (fun k84_2 hk84_2 => ?_)
        · show gk_K Z Y 10 gk_rV 84 [(0, .ref v0), (1, .int v1), (4, .ref v4), (5, .int x.1), (6, .int x.2.1), (7, .int x.2.2.1)] [.int y2, .int x.2.1, .ref v4] x.2.2.2 _
          refine gk_callV (As := [.int x.2.1, .int y2]) (rest := []) hC (fun l => m_X1_enter l hY v4 x.2.1 y2 x.2.2.2 tv4) ml_RX2_170 ok_X1_enter dX2_go_84 tv4 ⟨by decide, rfl⟩ rfl (by decide) (Nat.le_of_ble_eq_true rfl) rfl (q := 87) rfl (fun r4 => ?_)
          show gk_K Z Y 10 gk_rV 87 [(0, .ref v0), (1, .int v1), (4, .ref v4), (5, .int x.1), (6, .int x.2.1), (7, .int x.2.2.1)] [] r4 _
          refine gk_aload_n hC 0 dX2_go_87 rfl (q := 88) rfl ?_
          refine gk_aload hC 2 dX2_go_88 rfl (q := 90) rfl ?_
          refine gk_getI hC dX2_go_90 fl_RX2_77 tv4 (q := 93) rfl ?_
          refine gk_iload hC 3 dX2_go_93 rfl (q := 95) rfl ?_
          refine gk_iload hC 4 dX2_go_95 rfl (q := 97) rfl ?_
          refine gk_callV (As := [.int (r4.1 v4 0), .int x.1, .int x.2.1]) (rest := []) hC (fun l => m_X2_firstThatActs l hY v0 (r4.1 v4 0) x.1 x.2.1 r4 tv0) ml_RX2_174 ok_X2_firstThatActs dX2_go_97 tv0 ⟨by decide, rfl⟩ rfl (by decide) (Nat.le_of_ble_eq_true rfl) rfl (q := 100) rfl (fun r5 => ?_)
          show gk_K Z Y 10 gk_rV 100 [(0, .ref v0), (1, .int v1), (4, .ref v4), (5, .int x.1), (6, .int x.2.1), (7, .int x.2.2.1)] [.int r5] r4 _
          refine gk_istore hC (lv' := [(0, .ref v0), (1, .int v1), (4, .ref v4), (6, .int x.2.1), (7, .int x.2.2.1), (8, .int r5)]) [1, 2, 3, 5, 6, 0] dX2_go_100 (by decide) rfl (q := 102) rfl ?_
          refine gk_iload hC 5 dX2_go_102 rfl (q := 104) rfl ?_
          refine gk_iconst hC (v := (-1)) dX2_go_104 kc_i_m1 (q := 105) rfl ?_
          refine gk_icmp_ne hC dX2_go_105 (tg := 116) rfl (q := 108) rfl ?_ ?_
          · refine gk_aload_n hC 0 dX2_go_108 rfl (q := 109) rfl ?_
            refine gk_iload_n hC 1 dX2_go_109 rfl (q := 110) rfl ?_
            refine gk_iload hC 3 dX2_go_110 rfl (q := 112) rfl ?_
            refine gk_callV (As := [.int v1, .int x.2.1]) (rest := []) hC (fun l => m_X2_arrive l hY v0 v1 x.2.1 r4 tv0) ml_RX2_178 ok_X2_arrive dX2_go_112 tv0 ⟨by decide, rfl⟩ rfl (by decide) (Nat.le_of_ble_eq_true rfl) rfl (q := 115) rfl (fun r6 => ?_)
            show gk_K Z Y 10 gk_rV 115 [(0, .ref v0), (1, .int v1), (4, .ref v4), (6, .int x.2.1), (7, .int x.2.2.1), (8, .int r5)] [] r6 _
            exact gk_vret hC hR dX2_go_115 rfl
          · refine gk_aload hC 2 dX2_go_116 rfl (q := 118) rfl ?_
            refine gk_iload hC 5 dX2_go_118 rfl (q := 120) rfl ?_
            refine gk_callV (As := [.int r5]) (rest := []) hC (fun l => m_X1_note l hY v4 r5 r4 tv4) ml_RX2_119 ok_X1_note dX2_go_120 tv4 ⟨by decide, rfl⟩ rfl (by decide) (Nat.le_of_ble_eq_true rfl) rfl (q := 123) rfl (fun r7 => ?_)
            show gk_K Z Y 10 gk_rV 123 [(0, .ref v0), (1, .int v1), (4, .ref v4), (6, .int x.2.1), (7, .int x.2.2.1), (8, .int r5)] [] r7 _
            refine gk_aload_n hC 0 dX2_go_123 rfl (q := 124) rfl ?_
            refine gk_getR hC dX2_go_124 fl_RX2_27 (by decide) tv0 (q := 127) rfl (fun t8 => ?_)
            refine gk_getR hC dX2_go_127 fl_RX2_123 (by decide) t8 (q := 130) rfl (fun t9 => ?_)
            refine gk_iload hC 5 dX2_go_130 rfl (q := 132) rfl ?_
            refine gk_aald hC dX2_go_132 (Or.inr (Or.inl rfl)) t9 (q := 133) rfl (fun o10 t11 => ?_)
            refine gk_astore hC (lv' := [(0, .ref v0), (1, .int v1), (4, .ref v4), (6, .int x.2.1), (7, .int x.2.2.1), (9, .ref o10)]) [1, 2, 3, 4, 5, 0] dX2_go_133 (by decide) rfl (q := 135) rfl ?_
            refine gk_aload hC 5 dX2_go_135 rfl (q := 137) rfl ?_
            refine gk_getI hC dX2_go_137 fl_RX2_181 t11 (q := 140) rfl ?_
            refine gk_iconst hC (v := 2) dX2_go_140 kc_i_2 (q := 141) rfl ?_
            refine gk_icmp_ne hC dX2_go_141 (tg := 152) rfl (q := 144) rfl ?_ ?_
            · refine gk_aload_n hC 0 dX2_go_144 rfl (q := 145) rfl ?_
              refine gk_aload hC 2 dX2_go_145 rfl (q := 147) rfl ?_
              refine gk_iconst hC (v := 1) dX2_go_147 kc_i_1 (q := 148) rfl ?_
              refine gk_callV (As := [.ref v4, .int 1]) (rest := []) hC (fun l => m_X2_close l hY v0 v4 1 r7 tv0 tv4) ml_RX2_100 ok_X2_close dX2_go_148 tv0 ⟨by decide, rfl⟩ rfl (by decide) (Nat.le_of_ble_eq_true rfl) rfl (q := 151) rfl (fun r12 => ?_)
              show gk_K Z Y 10 gk_rV 151 [(0, .ref v0), (1, .int v1), (4, .ref v4), (6, .int x.2.1), (7, .int x.2.2.1), (9, .ref o10)] [] r12 _
              exact gk_vret hC hR dX2_go_151 rfl
            · refine gk_aload hC 5 dX2_go_152 rfl (q := 154) rfl ?_
              refine gk_getI hC dX2_go_154 fl_RX2_181 t11 (q := 157) rfl ?_
              refine gk_iconst hC (v := 4) dX2_go_157 kc_i_4 (q := 158) rfl ?_
              refine gk_icmp_ne hC dX2_go_158 (tg := 183) rfl (q := 161) rfl ?_ ?_
              · refine gk_aload hC 2 dX2_go_161 rfl (q := 163) rfl ?_
                refine gk_iconst hC (v := 2) dX2_go_163 kc_i_2 (q := 164) rfl ?_
                refine gk_putI hC dX2_go_164 fp_RX2_71 tv4 (q := 167) rfl (fun M13 => ?_)
                refine gk_aload hC 2 dX2_go_167 rfl (q := 169) rfl ?_
                refine gk_iload hC 3 dX2_go_169 rfl (q := 171) rfl ?_
                refine gk_putI hC dX2_go_171 fp_RX2_74 tv4 (q := 174) rfl (fun M14 => ?_)
                refine gk_aload_n hC 0 dX2_go_174 rfl (q := 175) rfl ?_
                refine gk_getR hC dX2_go_175 fl_RX2_15 (by decide) tv0 (q := 178) rfl (fun t15 => ?_)
                refine gk_iload hC 3 dX2_go_178 rfl (q := 180) rfl ?_
                refine gk_iload_n hC 1 dX2_go_180 rfl (q := 181) rfl ?_
                refine gk_iast hC dX2_go_181 t15 (q := 182) rfl (fun M16 => ?_)
                exact gk_vret hC hR dX2_go_182 rfl
              · refine gk_iload hC 3 dX2_go_183 rfl (q := 185) rfl ?_
                refine gk_istore hC (lv' := [(0, .ref v0), (1, .int v1), (4, .ref v4), (5, .int x.2.1), (7, .int x.2.2.1), (9, .ref o10)]) [1, 2, 3, 0, 5, 6] dX2_go_185 (by decide) rfl (q := 187) rfl ?_
                refine gk_aload hC 5 dX2_go_187 rfl (q := 189) rfl ?_
                refine gk_getI hC dX2_go_189 fl_RX2_127 t11 (q := 192) rfl ?_
                refine gk_istore hC (lv' := [(0, .ref v0), (1, .int v1), (4, .ref v4), (5, .int x.2.1), (6, .int (r7.1 o10 3)), (7, .int x.2.2.1)]) [1, 2, 3, 4, 0, 5] dX2_go_192 (by decide) rfl (q := 194) rfl ?_
                refine gk_iinc hC (v := 1) 5 (lv' := [(0, .ref v0), (1, .int v1), (4, .ref v4), (5, .int x.2.1), (6, .int (r7.1 o10 3)), (7, .int (x.2.2.1 + 1))]) [1, 2, 3, 4, 5, 0] dX2_go_194 rfl kc_i_1 (by decide) rfl (q := 197) rfl ?_
                refine gk_goto hC dX2_go_197 (q := 26) rfl ?_
                exact ih (x.2.1, r7.1 o10 3, (x.2.2.1 + 1), r7)
        · refine gk_jnR (fun k82_17 => ∀ z18 : Unit, gk_K Z Y 10 gk_rV 82 [(0, .ref v0), (1, .int v1), (4, .ref v4), (5, .int x.1), (6, .int x.2.1), (7, .int x.2.2.1)] [.int x.2.1, .ref v4] x.2.2.2 (k82_17 z18)) (fun y17 => ?_) (fun k82_17 hk82_17 => ?_)
          · show gk_K Z Y 10 gk_rV 82 [(0, .ref v0), (1, .int v1), (4, .ref v4), (5, .int x.1), (6, .int x.2.1), (7, .int x.2.2.1)] [.int x.2.1, .ref v4] x.2.2.2 _
            refine gk_iload hC 3 dX2_go_82 rfl (q := 84) rfl ?_
            exact hk84_2 x.1
          · refine gk_if_ne hC dX2_go_60 (tg := 82) rfl (q := 63) rfl ?_ ?_
            · refine gk_aload_n hC 0 dX2_go_63 rfl (q := 64) rfl ?_
              refine gk_getR hC dX2_go_64 fl_RX2_27 (by decide) tv0 (q := 67) rfl (fun t19 => ?_)
              refine gk_iload hC 4 dX2_go_67 rfl (q := 69) rfl ?_
              refine gk_bipush hC (v := 7) dX2_go_69 kc_b_7 (q := 71) rfl ?_
              refine gk_callV (As := [.int x.2.1, .int 7]) (rest := [.int x.2.1, .ref v4]) hC (fun l => m_X6_has l hY ((gk_rf Y) v0 0) x.2.1 7 x.2.2.2 t19) ml_RX2_167 ok_X6_has dX2_go_71 t19 ⟨by decide, rfl⟩ rfl (by decide) (Nat.le_of_ble_eq_true rfl) rfl (q := 74) rfl (fun r20 => ?_)
              show gk_K Z Y 10 gk_rV 74 [(0, .ref v0), (1, .int v1), (4, .ref v4), (5, .int x.1), (6, .int x.2.1), (7, .int x.2.2.1)] [.int r20, .int x.2.1, .ref v4] x.2.2.2 _
              refine gk_if_eq hC dX2_go_74 (tg := 82) rfl (q := 77) rfl ?_ ?_
              · exact hk82_17 ()
              · refine gk_iload hC 4 dX2_go_77 rfl (q := 79) rfl ?_
                refine gk_goto hC dX2_go_79 (q := 84) rfl ?_
                exact hk84_2 x.2.1
            · exact hk82_17 ()
      · refine gk_aload_n hC 0 dX2_go_43 rfl (q := 44) rfl ?_
        refine gk_aload hC 2 dX2_go_44 rfl (q := 46) rfl ?_
        refine gk_iconst hC (v := 2) dX2_go_46 kc_i_2 (q := 47) rfl ?_
        refine gk_callV (As := [.ref v4, .int 2]) (rest := []) hC (fun l => m_X2_close l hY v0 v4 2 x.2.2.2 tv0 tv4) ml_RX2_100 ok_X2_close dX2_go_47 tv0 ⟨by decide, rfl⟩ rfl (by decide) (Nat.le_of_ble_eq_true rfl) rfl (q := 50) rfl (fun r21 => ?_)
        show gk_K Z Y 10 gk_rV 50 [(0, .ref v0), (1, .int v1), (4, .ref v4), (5, .int x.1), (6, .int x.2.1), (7, .int x.2.2.1)] [] r21 _
        exact gk_vret hC hR dX2_go_50 rfl
set_option maxHeartbeats 4000000 in
set_option maxRecDepth 100000 in
theorem m_X2_go (l : Launch) {Y : gk_Y} (hY : gk_WF Y) (a0 : Nat) (a1 : Int32) (a2 : Int32) (a3 : Int32) (M : gk_M) (t0 : gk_T Y 12 a0) : gk_MF l Y yX2_go cX2_go 10 none 2 [.ref a0, .int a1, .int a2, .int a3] M gk_rV (f_X2_go (gk_ln Y) (gk_rf Y) a0 a1 a2 a3 M) := by
  refine gk_met hY (plainFor_of_name (by decide)) (Nat.le_of_ble_eq_true rfl) fun Z hC hR => ?_
  show gk_K Z Y 10 gk_rV 0 [(0, .ref a0), (1, .int a1), (2, .int a2), (3, .int a3)] [] M _
  unfold f_X2_go
  refine gk_aload_n hC 0 dX2_go_0 rfl (q := 1) rfl ?_
  refine gk_iload_n hC 1 dX2_go_1 rfl (q := 2) rfl ?_
  refine gk_callV (As := [.int a1]) (rest := []) hC (fun l => m_X2_isCall l hY a0 a1 M t0) ml_RX2_161 ok_X2_isCall dX2_go_2 t0 ⟨by decide, rfl⟩ rfl (by decide) (Nat.le_of_ble_eq_true rfl) rfl (q := 5) rfl (fun r21 => ?_)
  show gk_K Z Y 10 gk_rV 5 [(0, .ref a0), (1, .int a1), (2, .int a2), (3, .int a3)] [.int r21] M _
  refine gk_if_ne hC dX2_go_5 (tg := 9) rfl (q := 8) rfl ?_ ?_
  · exact gk_vret hC hR dX2_go_8 rfl
  · refine gk_aload_n hC 0 dX2_go_9 rfl (q := 10) rfl ?_
    refine gk_getR hC dX2_go_10 fl_RX2_33 (by decide) t0 (q := 13) rfl (fun t22 => ?_)
    refine gk_iload_n hC 1 dX2_go_13 rfl (q := 14) rfl ?_
    refine gk_aald hC dX2_go_14 (Or.inl rfl) t22 (q := 15) rfl (fun o23 t24 => ?_)
    refine gk_astore hC (lv' := [(0, .ref a0), (1, .int a1), (2, .int a2), (3, .int a3), (4, .ref o23)]) [1, 2, 3, 4, 0] dX2_go_15 (by decide) rfl (q := 17) rfl ?_
    refine gk_iload_n hC 2 dX2_go_17 rfl (q := 18) rfl ?_
    refine gk_istore hC (lv' := [(0, .ref a0), (1, .int a1), (3, .int a3), (4, .ref o23), (5, .int a2)]) [1, 2, 4, 5, 0] dX2_go_18 (by decide) rfl (q := 20) rfl ?_
    refine gk_iload_n hC 2 dX2_go_20 rfl (q := 21) rfl ?_
    refine gk_istore hC (lv' := [(0, .ref a0), (1, .int a1), (4, .ref o23), (5, .int a2), (6, .int a3)]) [1, 2, 4, 5, 0] dX2_go_21 (by decide) rfl (q := 23) rfl ?_
    refine gk_iconst hC (v := 0) dX2_go_23 kc_i_0 (q := 24) rfl ?_
    refine gk_istore hC (lv' := [(0, .ref a0), (1, .int a1), (4, .ref o23), (5, .int a2), (6, .int a3), (7, .int 0)]) [1, 2, 3, 4, 5, 0] dX2_go_24 (by decide) rfl (q := 26) rfl ?_
    refine gk_jnR (fun k200_25 => ∀ z26 : gk_M, gk_K Z Y 10 gk_rV 200 [] [] z26 (k200_25 z26)) (fun y25 => ?_) (fun k200_25 hk200_25 => ?_)
    · show gk_K Z Y 10 gk_rV 200 [] [] y25 _
      exact gk_vret hC hR dX2_go_200 rfl
    · exact lk_X2_go_26 hY hC hR a0 a1 o23 t0 t24 k200_25 hk200_25 gk_fuel (a2, a3, 0, M)
def lp_X2_settle_2 (LN : Nat → Nat) (RF : Nat → Nat → Nat) (v0 : Nat) (k56 : gk_M → Option (gk_M)) : Nat → (Int32 × gk_M) → Option (gk_M)
  | 0, _ => none
  | n + 1, x =>
    if (x.2.1 v0 7) ≤ x.1 then
      k56 x.2
    else
    (f_X2_isFree LN RF v0 x.1 x.2).bind fun r1 =>
    gk_jn (fun y2 : gk_M =>
      lp_X2_settle_2 LN RF v0 k56 n ((x.1 + 1), y2)) fun k50_2 =>
    if r1 = 0 then
      k50_2 x.2
    else
    gk_ald LN x.2 (RF v0 3) x.1 fun x5 =>
    if x5 = (-1) then
      k50_2 x.2
    else
    gk_ald LN x.2 (RF v0 3) x.1 fun x7 =>
    gk_ast LN x.2 (RF v0 3) x.1 (-1) fun M9 =>
    (f_X2_ringAt LN RF v0 x7 (1 <<< (x.1 &&& 31)) M9).bind fun r10 =>
    k50_2 r10
def f_X2_settle (LN : Nat → Nat) (RF : Nat → Nat → Nat) (a0 : Nat) (M : gk_M) : Option (gk_M) :=
  gk_jn (fun y21 : gk_M =>
    some y21) fun k56_21 =>
  lp_X2_settle_2 LN RF a0 k56_21 gk_fuel (0, M)
set_option maxHeartbeats 4000000 in
set_option maxRecDepth 100000 in
theorem lk_X2_settle_2 {Z : gk_Z} {Y : gk_Y} (hY : gk_WF Y) (hC : gk_C Z Y cX2_settle 3 RX2 1) (hR : gk_R Z Y none) (v0 : Nat) (tv0 : gk_T Y 12 v0) (k56 : gk_M → Option (gk_M)) (hk56 : ∀ z23 : gk_M, gk_K Z Y 3 gk_rV 56 [] [] z23 (k56 z23)) : ∀ (n : Nat) (x : Int32 × gk_M), gk_K Z Y 3 gk_rV 2 [(0, .ref v0), (1, .int x.1)] [] x.2 (lp_X2_settle_2 (gk_ln Y) (gk_rf Y) v0 k56 n x) := by
  intro n
  induction n with
  | zero => intro x; exact gk_none
  | succ n ih =>
    intro x
    rw [lp_X2_settle_2]
    refine gk_iload_n hC 1 dX2_settle_2 rfl (q := 3) rfl ?_
    refine gk_aload_n hC 0 dX2_settle_3 rfl (q := 4) rfl ?_
    refine gk_getI hC dX2_settle_4 fl_RX2_38 tv0 (q := 7) rfl ?_
    refine gk_icmp_ge hC dX2_settle_7 (tg := 56) rfl (q := 10) rfl ?_ ?_
    · refine gk_pick [] rfl ?_
      exact hk56 x.2
    · refine gk_aload_n hC 0 dX2_settle_10 rfl (q := 11) rfl ?_
      refine gk_iload_n hC 1 dX2_settle_11 rfl (q := 12) rfl ?_
      refine gk_callV (As := [.int x.1]) (rest := []) hC (fun l => m_X2_isFree l hY v0 x.1 x.2 tv0) ml_RX2_61 ok_X2_isFree dX2_settle_12 tv0 ⟨by decide, rfl⟩ rfl (by decide) (Nat.le_of_ble_eq_true rfl) rfl (q := 15) rfl (fun r1 => ?_)
      show gk_K Z Y 3 gk_rV 15 [(0, .ref v0), (1, .int x.1)] [.int r1] x.2 _
      refine gk_jnR (fun k50_2 => ∀ z3 : gk_M, gk_K Z Y 3 gk_rV 50 [(0, .ref v0), (1, .int x.1)] [] z3 (k50_2 z3)) (fun y2 => ?_) (fun k50_2 hk50_2 => ?_)
      · show gk_K Z Y 3 gk_rV 50 [(0, .ref v0), (1, .int x.1)] [] y2 _
        refine gk_iinc hC (v := 1) 1 (lv' := [(0, .ref v0), (1, .int (x.1 + 1))]) [1, 0] dX2_settle_50 rfl kc_i_1 (by decide) rfl (q := 53) rfl ?_
        refine gk_goto hC dX2_settle_53 (q := 2) rfl ?_
        exact ih ((x.1 + 1), y2)
      · refine gk_if_eq hC dX2_settle_15 (tg := 50) rfl (q := 18) rfl ?_ ?_
        · exact hk50_2 x.2
        · refine gk_aload_n hC 0 dX2_settle_18 rfl (q := 19) rfl ?_
          refine gk_getR hC dX2_settle_19 fl_RX2_15 (by decide) tv0 (q := 22) rfl (fun t4 => ?_)
          refine gk_iload_n hC 1 dX2_settle_22 rfl (q := 23) rfl ?_
          refine gk_iald hC dX2_settle_23 t4 (q := 24) rfl (fun x5 => ?_)
          refine gk_iconst hC (v := (-1)) dX2_settle_24 kc_i_m1 (q := 25) rfl ?_
          refine gk_icmp_eq hC dX2_settle_25 (tg := 50) rfl (q := 28) rfl ?_ ?_
          · exact hk50_2 x.2
          · refine gk_aload_n hC 0 dX2_settle_28 rfl (q := 29) rfl ?_
            refine gk_getR hC dX2_settle_29 fl_RX2_15 (by decide) tv0 (q := 32) rfl (fun t6 => ?_)
            refine gk_iload_n hC 1 dX2_settle_32 rfl (q := 33) rfl ?_
            refine gk_iald hC dX2_settle_33 t6 (q := 34) rfl (fun x7 => ?_)
            refine gk_istore_n hC (lv' := [(0, .ref v0), (1, .int x.1), (2, .int x7)]) [1, 2, 0] dX2_settle_34 (by decide) rfl (q := 35) rfl ?_
            refine gk_aload_n hC 0 dX2_settle_35 rfl (q := 36) rfl ?_
            refine gk_getR hC dX2_settle_36 fl_RX2_15 (by decide) tv0 (q := 39) rfl (fun t8 => ?_)
            refine gk_iload_n hC 1 dX2_settle_39 rfl (q := 40) rfl ?_
            refine gk_iconst hC (v := (-1)) dX2_settle_40 kc_i_m1 (q := 41) rfl ?_
            refine gk_iast hC dX2_settle_41 t8 (q := 42) rfl (fun M9 => ?_)
            refine gk_aload_n hC 0 dX2_settle_42 rfl (q := 43) rfl ?_
            refine gk_iload_n hC 2 dX2_settle_43 rfl (q := 44) rfl ?_
            refine gk_iconst hC (v := 1) dX2_settle_44 kc_i_1 (q := 45) rfl ?_
            refine gk_iload_n hC 1 dX2_settle_45 rfl (q := 46) rfl ?_
            refine gk_ishl hC dX2_settle_46 (q := 47) rfl ?_
            refine gk_callV (As := [.int x7, .int (1 <<< (x.1 &&& 31))]) (rest := []) hC (fun l => m_X2_ringAt l hY v0 x7 (1 <<< (x.1 &&& 31)) M9 tv0) ml_RX2_204 ok_X2_ringAt dX2_settle_47 tv0 ⟨by decide, rfl⟩ rfl (by decide) (Nat.le_of_ble_eq_true rfl) rfl (q := 50) rfl (fun r10 => ?_)
            show gk_K Z Y 3 gk_rV 50 [(0, .ref v0), (1, .int x.1), (2, .int x7)] [] r10 _
            refine gk_pick [0, 1] rfl ?_
            exact hk50_2 r10
set_option maxHeartbeats 4000000 in
set_option maxRecDepth 100000 in
theorem m_X2_settle (l : Launch) {Y : gk_Y} (hY : gk_WF Y) (a0 : Nat) (M : gk_M) (t0 : gk_T Y 12 a0) : gk_MF l Y yX2_settle cX2_settle 3 none 1 [.ref a0] M gk_rV (f_X2_settle (gk_ln Y) (gk_rf Y) a0 M) := by
  refine gk_met hY (plainFor_of_name (by decide)) (Nat.le_of_ble_eq_true rfl) fun Z hC hR => ?_
  show gk_K Z Y 3 gk_rV 0 [(0, .ref a0)] [] M _
  unfold f_X2_settle
  refine gk_iconst hC (v := 0) dX2_settle_0 kc_i_0 (q := 1) rfl ?_
  refine gk_istore_n hC (lv' := [(0, .ref a0), (1, .int 0)]) [1, 0] dX2_settle_1 (by decide) rfl (q := 2) rfl ?_
  refine gk_jnR (fun k56_21 => ∀ z22 : gk_M, gk_K Z Y 3 gk_rV 56 [] [] z22 (k56_21 z22)) (fun y21 => ?_) (fun k56_21 hk56_21 => ?_)
  · show gk_K Z Y 3 gk_rV 56 [] [] y21 _
    exact gk_vret hC hR dX2_settle_56 rfl
  · exact lk_X2_settle_2 hY hC hR a0 t0 k56_21 hk56_21 gk_fuel (0, M)
def f_X2_connect (LN : Nat → Nat) (RF : Nat → Nat → Nat) (a0 : Nat) (a1 : Int32) (a2 : Int32) (M : gk_M) : Option (Int32 × gk_M) :=
  (f_X2_opened LN RF a0 a1 M).bind fun r21 =>
  (f_X2_go LN RF a0 r21.1 a1 a2 r21.2).bind fun r22 =>
  (f_X2_settle LN RF a0 r22).bind fun r23 =>
  some (r21.1, r23)
set_option maxHeartbeats 4000000 in
set_option maxRecDepth 100000 in
theorem m_X2_connect (l : Launch) {Y : gk_Y} (hY : gk_WF Y) (a0 : Nat) (a1 : Int32) (a2 : Int32) (M : gk_M) (t0 : gk_T Y 12 a0) : gk_MF l Y yX2_connect cX2_connect 4 (some .int) 3 [.ref a0, .int a1, .int a2] M gk_rI (f_X2_connect (gk_ln Y) (gk_rf Y) a0 a1 a2 M) := by
  refine gk_met hY (plainFor_of_name (by decide)) (Nat.le_of_ble_eq_true rfl) fun Z hC hR => ?_
  show gk_K Z Y 4 gk_rI 0 [(0, .ref a0), (1, .int a1), (2, .int a2)] [] M _
  unfold f_X2_connect
  refine gk_aload_n hC 0 dX2_connect_0 rfl (q := 1) rfl ?_
  refine gk_iload_n hC 1 dX2_connect_1 rfl (q := 2) rfl ?_
  refine gk_callV (As := [.int a1]) (rest := []) hC (fun l => m_X2_opened l hY a0 a1 M t0) ml_RX2_86 ok_X2_opened dX2_connect_2 t0 ⟨by decide, rfl⟩ rfl (by decide) (Nat.le_of_ble_eq_true rfl) rfl (q := 5) rfl (fun r21 => ?_)
  show gk_K Z Y 4 gk_rI 5 [(0, .ref a0), (1, .int a1), (2, .int a2)] [.int r21.1] r21.2 _
  refine gk_istore_n hC (lv' := [(0, .ref a0), (1, .int a1), (2, .int a2), (3, .int r21.1)]) [1, 2, 3, 0] dX2_connect_5 (by decide) rfl (q := 6) rfl ?_
  refine gk_aload_n hC 0 dX2_connect_6 rfl (q := 7) rfl ?_
  refine gk_iload_n hC 3 dX2_connect_7 rfl (q := 8) rfl ?_
  refine gk_iload_n hC 1 dX2_connect_8 rfl (q := 9) rfl ?_
  refine gk_iload_n hC 2 dX2_connect_9 rfl (q := 10) rfl ?_
  refine gk_callV (As := [.int r21.1, .int a1, .int a2]) (rest := []) hC (fun l => m_X2_go l hY a0 r21.1 a1 a2 r21.2 t0) ml_RX2_90 ok_X2_go dX2_connect_10 t0 ⟨by decide, rfl⟩ rfl (by decide) (Nat.le_of_ble_eq_true rfl) rfl (q := 13) rfl (fun r22 => ?_)
  show gk_K Z Y 4 gk_rI 13 [(0, .ref a0), (1, .int a1), (2, .int a2), (3, .int r21.1)] [] r22 _
  refine gk_aload_n hC 0 dX2_connect_13 rfl (q := 14) rfl ?_
  refine gk_callV (As := []) (rest := []) hC (fun l => m_X2_settle l hY a0 r22 t0) ml_RX2_94 ok_X2_settle dX2_connect_14 t0 ⟨by decide, rfl⟩ rfl (by decide) (Nat.le_of_ble_eq_true rfl) rfl (q := 17) rfl (fun r23 => ?_)
  show gk_K Z Y 4 gk_rI 17 [(0, .ref a0), (1, .int a1), (2, .int a2), (3, .int r21.1)] [] r23 _
  refine gk_iload_n hC 3 dX2_connect_17 rfl (q := 18) rfl ?_
  exact gk_iret hC hR dX2_connect_18 rfl
def lp_X2_silence_2 (LN : Nat → Nat) (RF : Nat → Nat → Nat) (v0 : Nat) (v1 : Nat) (k32 : gk_M → Option (gk_M)) : Nat → (Int32 × gk_M) → Option (gk_M)
  | 0, _ => none
  | n + 1, x =>
    if 8 ≤ x.1 then
      k32 x.2
    else
    gk_jn (fun y1 : gk_M =>
      lp_X2_silence_2 LN RF v0 v1 k32 n ((x.1 + 1), y1)) fun k26_1 =>
    if (((x.2.1 v1 4) >>> (x.1 &&& 31)) &&& 1) = 0 then
      k26_1 x.2
    else
    gk_ast LN x.2 (RF v0 2) x.1 (-1) fun M4 =>
    k26_1 M4
def f_X2_silence (LN : Nat → Nat) (RF : Nat → Nat → Nat) (a0 : Nat) (a1 : Nat) (M : gk_M) : Option (gk_M) :=
  gk_jn (fun y21 : gk_M =>
    gk_put y21 a1 4 0 fun M23 =>
    some M23) fun k32_21 =>
  lp_X2_silence_2 LN RF a0 a1 k32_21 gk_fuel (0, M)
set_option maxHeartbeats 4000000 in
set_option maxRecDepth 100000 in
theorem lk_X2_silence_2 {Z : gk_Z} {Y : gk_Y} (hY : gk_WF Y) (hC : gk_C Z Y cX2_silence 3 RX2 0) (hR : gk_R Z Y none) (v0 : Nat) (v1 : Nat) (tv0 : gk_T Y 12 v0) (tv1 : gk_T Y 11 v1) (k32 : gk_M → Option (gk_M)) (hk32 : ∀ z24 : gk_M, gk_K Z Y 3 gk_rV 32 [(1, .ref v1)] [] z24 (k32 z24)) : ∀ (n : Nat) (x : Int32 × gk_M), gk_K Z Y 3 gk_rV 2 [(0, .ref v0), (1, .ref v1), (2, .int x.1)] [] x.2 (lp_X2_silence_2 (gk_ln Y) (gk_rf Y) v0 v1 k32 n x) := by
  intro n
  induction n with
  | zero => intro x; exact gk_none
  | succ n ih =>
    intro x
    rw [lp_X2_silence_2]
    refine gk_iload_n hC 2 dX2_silence_2 rfl (q := 3) rfl ?_
    refine gk_bipush hC (v := 8) dX2_silence_3 kc_b_8 (q := 5) rfl ?_
    refine gk_icmp_ge hC dX2_silence_5 (tg := 32) rfl (q := 8) rfl ?_ ?_
    · refine gk_pick [1] rfl ?_
      exact hk32 x.2
    · refine gk_aload_n hC 1 dX2_silence_8 rfl (q := 9) rfl ?_
      refine gk_getI hC dX2_silence_9 fl_RX2_65 tv1 (q := 12) rfl ?_
      refine gk_iload_n hC 2 dX2_silence_12 rfl (q := 13) rfl ?_
      refine gk_ishr hC dX2_silence_13 (q := 14) rfl ?_
      refine gk_iconst hC (v := 1) dX2_silence_14 kc_i_1 (q := 15) rfl ?_
      refine gk_iand hC dX2_silence_15 (q := 16) rfl ?_
      refine gk_jnR (fun k26_1 => ∀ z2 : gk_M, gk_K Z Y 3 gk_rV 26 [(0, .ref v0), (1, .ref v1), (2, .int x.1)] [] z2 (k26_1 z2)) (fun y1 => ?_) (fun k26_1 hk26_1 => ?_)
      · show gk_K Z Y 3 gk_rV 26 [(0, .ref v0), (1, .ref v1), (2, .int x.1)] [] y1 _
        refine gk_iinc hC (v := 1) 2 (lv' := [(0, .ref v0), (1, .ref v1), (2, .int (x.1 + 1))]) [1, 2, 0] dX2_silence_26 rfl kc_i_1 (by decide) rfl (q := 29) rfl ?_
        refine gk_goto hC dX2_silence_29 (q := 2) rfl ?_
        exact ih ((x.1 + 1), y1)
      · refine gk_if_eq hC dX2_silence_16 (tg := 26) rfl (q := 19) rfl ?_ ?_
        · exact hk26_1 x.2
        · refine gk_aload_n hC 0 dX2_silence_19 rfl (q := 20) rfl ?_
          refine gk_getR hC dX2_silence_20 fl_RX2_9 (by decide) tv0 (q := 23) rfl (fun t3 => ?_)
          refine gk_iload_n hC 2 dX2_silence_23 rfl (q := 24) rfl ?_
          refine gk_iconst hC (v := (-1)) dX2_silence_24 kc_i_m1 (q := 25) rfl ?_
          refine gk_iast hC dX2_silence_25 t3 (q := 26) rfl (fun M4 => ?_)
          exact hk26_1 M4
set_option maxHeartbeats 4000000 in
set_option maxRecDepth 100000 in
theorem m_X2_silence (l : Launch) {Y : gk_Y} (hY : gk_WF Y) (a0 : Nat) (a1 : Nat) (M : gk_M) (t0 : gk_T Y 12 a0) (ta1 : gk_T Y 11 a1) : gk_MF l Y yX2_silence cX2_silence 3 none 0 [.ref a0, .ref a1] M gk_rV (f_X2_silence (gk_ln Y) (gk_rf Y) a0 a1 M) := by
  refine gk_met hY (plainFor_of_name (by decide)) (Nat.le_of_ble_eq_true rfl) fun Z hC hR => ?_
  show gk_K Z Y 3 gk_rV 0 [(0, .ref a0), (1, .ref a1)] [] M _
  unfold f_X2_silence
  refine gk_iconst hC (v := 0) dX2_silence_0 kc_i_0 (q := 1) rfl ?_
  refine gk_istore_n hC (lv' := [(0, .ref a0), (1, .ref a1), (2, .int 0)]) [1, 2, 0] dX2_silence_1 (by decide) rfl (q := 2) rfl ?_
  refine gk_jnR (fun k32_21 => ∀ z22 : gk_M, gk_K Z Y 3 gk_rV 32 [(1, .ref a1)] [] z22 (k32_21 z22)) (fun y21 => ?_) (fun k32_21 hk32_21 => ?_)
  · show gk_K Z Y 3 gk_rV 32 [(1, .ref a1)] [] y21 _
    refine gk_aload_n hC 0 dX2_silence_32 rfl (q := 33) rfl ?_
    refine gk_iconst hC (v := 0) dX2_silence_33 kc_i_0 (q := 34) rfl ?_
    refine gk_putI hC dX2_silence_34 fp_RX2_65 ta1 (q := 37) rfl (fun M23 => ?_)
    exact gk_vret hC hR dX2_silence_37 rfl
  · exact lk_X2_silence_2 hY hC hR a0 a1 t0 ta1 k32_21 hk32_21 gk_fuel (0, M)
def f_X2_answer (LN : Nat → Nat) (RF : Nat → Nat → Nat) (a0 : Nat) (a1 : Int32) (M : gk_M) : Option (Int32 × gk_M) :=
  gk_ald LN M (RF a0 2) a1 fun x22 =>
  gk_aldr LN RF (RF a0 1) x22 fun o24 =>
  (f_X2_silence LN RF a0 o24 M).bind fun r26 =>
  gk_put r26 o24 1 1 fun M27 =>
  gk_put M27 o24 5 a1 fun M28 =>
  gk_ast LN M28 (RF a0 2) a1 x22 fun M30 =>
  (f_X2_settle LN RF a0 M30).bind fun r31 =>
  some (x22, r31)
set_option maxHeartbeats 4000000 in
set_option maxRecDepth 100000 in
theorem m_X2_answer (l : Launch) {Y : gk_Y} (hY : gk_WF Y) (a0 : Nat) (a1 : Int32) (M : gk_M) (t0 : gk_T Y 12 a0) : gk_MF l Y yX2_answer cX2_answer 4 (some .int) 2 [.ref a0, .int a1] M gk_rI (f_X2_answer (gk_ln Y) (gk_rf Y) a0 a1 M) := by
  refine gk_met hY (plainFor_of_name (by decide)) (Nat.le_of_ble_eq_true rfl) fun Z hC hR => ?_
  show gk_K Z Y 4 gk_rI 0 [(0, .ref a0), (1, .int a1)] [] M _
  unfold f_X2_answer
  refine gk_aload_n hC 0 dX2_answer_0 rfl (q := 1) rfl ?_
  refine gk_getR hC dX2_answer_1 fl_RX2_9 (by decide) t0 (q := 4) rfl (fun t21 => ?_)
  refine gk_iload_n hC 1 dX2_answer_4 rfl (q := 5) rfl ?_
  refine gk_iald hC dX2_answer_5 t21 (q := 6) rfl (fun x22 => ?_)
  refine gk_istore_n hC (lv' := [(0, .ref a0), (1, .int a1), (2, .int x22)]) [1, 2, 0] dX2_answer_6 (by decide) rfl (q := 7) rfl ?_
  refine gk_aload_n hC 0 dX2_answer_7 rfl (q := 8) rfl ?_
  refine gk_getR hC dX2_answer_8 fl_RX2_33 (by decide) t0 (q := 11) rfl (fun t23 => ?_)
  refine gk_iload_n hC 2 dX2_answer_11 rfl (q := 12) rfl ?_
  refine gk_aald hC dX2_answer_12 (Or.inl rfl) t23 (q := 13) rfl (fun o24 t25 => ?_)
  refine gk_astore_n hC (lv' := [(0, .ref a0), (1, .int a1), (2, .int x22), (3, .ref o24)]) [1, 2, 3, 0] dX2_answer_13 (by decide) rfl (q := 14) rfl ?_
  refine gk_aload_n hC 0 dX2_answer_14 rfl (q := 15) rfl ?_
  refine gk_aload_n hC 3 dX2_answer_15 rfl (q := 16) rfl ?_
  refine gk_callV (As := [.ref o24]) (rest := []) hC (fun l => m_X2_silence l hY a0 o24 M t0 t25) ml_RX2_97 ok_X2_silence dX2_answer_16 t0 ⟨by decide, rfl⟩ rfl (by decide) (Nat.le_of_ble_eq_true rfl) rfl (q := 19) rfl (fun r26 => ?_)
  show gk_K Z Y 4 gk_rI 19 [(0, .ref a0), (1, .int a1), (2, .int x22), (3, .ref o24)] [] r26 _
  refine gk_aload_n hC 3 dX2_answer_19 rfl (q := 20) rfl ?_
  refine gk_iconst hC (v := 1) dX2_answer_20 kc_i_1 (q := 21) rfl ?_
  refine gk_putI hC dX2_answer_21 fp_RX2_71 t25 (q := 24) rfl (fun M27 => ?_)
  refine gk_aload_n hC 3 dX2_answer_24 rfl (q := 25) rfl ?_
  refine gk_iload_n hC 1 dX2_answer_25 rfl (q := 26) rfl ?_
  refine gk_putI hC dX2_answer_26 fp_RX2_74 t25 (q := 29) rfl (fun M28 => ?_)
  refine gk_aload_n hC 0 dX2_answer_29 rfl (q := 30) rfl ?_
  refine gk_getR hC dX2_answer_30 fl_RX2_9 (by decide) t0 (q := 33) rfl (fun t29 => ?_)
  refine gk_iload_n hC 1 dX2_answer_33 rfl (q := 34) rfl ?_
  refine gk_iload_n hC 2 dX2_answer_34 rfl (q := 35) rfl ?_
  refine gk_iast hC dX2_answer_35 t29 (q := 36) rfl (fun M30 => ?_)
  refine gk_aload_n hC 0 dX2_answer_36 rfl (q := 37) rfl ?_
  refine gk_callV (As := []) (rest := []) hC (fun l => m_X2_settle l hY a0 M30 t0) ml_RX2_94 ok_X2_settle dX2_answer_37 t0 ⟨by decide, rfl⟩ rfl (by decide) (Nat.le_of_ble_eq_true rfl) rfl (q := 40) rfl (fun r31 => ?_)
  show gk_K Z Y 4 gk_rI 40 [(0, .ref a0), (1, .int a1), (2, .int x22), (3, .ref o24)] [] r31 _
  refine gk_iload_n hC 2 dX2_answer_40 rfl (q := 41) rfl ?_
  exact gk_iret hC hR dX2_answer_41 rfl
def f_X2_hangUp (LN : Nat → Nat) (RF : Nat → Nat → Nat) (a0 : Nat) (a1 : Int32) (M : gk_M) : Option (Int32 × gk_M) :=
  gk_ald LN M (RF a0 2) a1 fun x22 =>
  gk_aldr LN RF (RF a0 1) x22 fun o24 =>
  (f_X2_silence LN RF a0 o24 M).bind fun r26 =>
  gk_aldr LN RF (RF a0 1) x22 fun o28 =>
  (f_X2_close LN RF a0 o28 4 r26).bind fun r30 =>
  (f_X2_settle LN RF a0 r30).bind fun r31 =>
  some (x22, r31)
set_option maxHeartbeats 4000000 in
set_option maxRecDepth 100000 in
theorem m_X2_hangUp (l : Launch) {Y : gk_Y} (hY : gk_WF Y) (a0 : Nat) (a1 : Int32) (M : gk_M) (t0 : gk_T Y 12 a0) : gk_MF l Y yX2_hangUp cX2_hangUp 3 (some .int) 2 [.ref a0, .int a1] M gk_rI (f_X2_hangUp (gk_ln Y) (gk_rf Y) a0 a1 M) := by
  refine gk_met hY (plainFor_of_name (by decide)) (Nat.le_of_ble_eq_true rfl) fun Z hC hR => ?_
  show gk_K Z Y 3 gk_rI 0 [(0, .ref a0), (1, .int a1)] [] M _
  unfold f_X2_hangUp
  refine gk_aload_n hC 0 dX2_hangUp_0 rfl (q := 1) rfl ?_
  refine gk_getR hC dX2_hangUp_1 fl_RX2_9 (by decide) t0 (q := 4) rfl (fun t21 => ?_)
  refine gk_iload_n hC 1 dX2_hangUp_4 rfl (q := 5) rfl ?_
  refine gk_iald hC dX2_hangUp_5 t21 (q := 6) rfl (fun x22 => ?_)
  refine gk_istore_n hC (lv' := [(0, .ref a0), (2, .int x22)]) [1, 0] dX2_hangUp_6 (by decide) rfl (q := 7) rfl ?_
  refine gk_aload_n hC 0 dX2_hangUp_7 rfl (q := 8) rfl ?_
  refine gk_aload_n hC 0 dX2_hangUp_8 rfl (q := 9) rfl ?_
  refine gk_getR hC dX2_hangUp_9 fl_RX2_33 (by decide) t0 (q := 12) rfl (fun t23 => ?_)
  refine gk_iload_n hC 1 dX2_hangUp_12 rfl (q := 13) rfl ?_
  refine gk_aald hC dX2_hangUp_13 (Or.inl rfl) t23 (q := 14) rfl (fun o24 t25 => ?_)
  refine gk_callV (As := [.ref o24]) (rest := []) hC (fun l => m_X2_silence l hY a0 o24 M t0 t25) ml_RX2_97 ok_X2_silence dX2_hangUp_14 t0 ⟨by decide, rfl⟩ rfl (by decide) (Nat.le_of_ble_eq_true rfl) rfl (q := 17) rfl (fun r26 => ?_)
  show gk_K Z Y 3 gk_rI 17 [(0, .ref a0), (2, .int x22)] [] r26 _
  refine gk_aload_n hC 0 dX2_hangUp_17 rfl (q := 18) rfl ?_
  refine gk_aload_n hC 0 dX2_hangUp_18 rfl (q := 19) rfl ?_
  refine gk_getR hC dX2_hangUp_19 fl_RX2_33 (by decide) t0 (q := 22) rfl (fun t27 => ?_)
  refine gk_iload_n hC 1 dX2_hangUp_22 rfl (q := 23) rfl ?_
  refine gk_aald hC dX2_hangUp_23 (Or.inl rfl) t27 (q := 24) rfl (fun o28 t29 => ?_)
  refine gk_iconst hC (v := 4) dX2_hangUp_24 kc_i_4 (q := 25) rfl ?_
  refine gk_callV (As := [.ref o28, .int 4]) (rest := []) hC (fun l => m_X2_close l hY a0 o28 4 r26 t0 t29) ml_RX2_100 ok_X2_close dX2_hangUp_25 t0 ⟨by decide, rfl⟩ rfl (by decide) (Nat.le_of_ble_eq_true rfl) rfl (q := 28) rfl (fun r30 => ?_)
  show gk_K Z Y 3 gk_rI 28 [(0, .ref a0), (2, .int x22)] [] r30 _
  refine gk_aload_n hC 0 dX2_hangUp_28 rfl (q := 29) rfl ?_
  refine gk_callV (As := []) (rest := []) hC (fun l => m_X2_settle l hY a0 r30 t0) ml_RX2_94 ok_X2_settle dX2_hangUp_29 t0 ⟨by decide, rfl⟩ rfl (by decide) (Nat.le_of_ble_eq_true rfl) rfl (q := 32) rfl (fun r31 => ?_)
  show gk_K Z Y 3 gk_rI 32 [(0, .ref a0), (2, .int x22)] [] r31 _
  refine gk_iload_n hC 1 dX2_hangUp_32 rfl (q := 33) rfl ?_
  exact gk_iret hC hR dX2_hangUp_33 rfl
def lp_X2_charge_27 (LN : Nat → Nat) (RF : Nat → Nat → Nat) (v0 : Nat) (v1 : Int32) (v2 : Nat) (k55 : gk_M → Option (gk_M)) : Nat → (Int32 × gk_M) → Option (gk_M)
  | 0, _ => none
  | n + 1, x =>
    if (x.2.1 v2 3) ≤ x.1 then
      k55 x.2
    else
    (f_X1_payerAt LN RF v2 x.1 x.2).bind fun r2 =>
    gk_ald LN x.2 (RF v0 4) r2 fun x3 =>
    gk_ast LN x.2 (RF v0 4) r2 (x3 + 1) fun M4 =>
    lp_X2_charge_27 LN RF v0 v1 v2 k55 n ((x.1 + 1), M4)
def lp_X2_charge_2 (LN : Nat → Nat) (RF : Nat → Nat → Nat) (v0 : Nat) (k61 : gk_M → Option (gk_M)) : Nat → (Int32 × gk_M) → Option (gk_M)
  | 0, _ => none
  | n + 1, x =>
    if (x.2.1 v0 8) ≤ x.1 then
      k61 x.2
    else
    gk_aldr LN RF (RF v0 1) x.1 fun o2 =>
    gk_jn (fun y4 : gk_M =>
      lp_X2_charge_2 LN RF v0 k61 n ((x.1 + 1), y4)) fun k55_4 =>
    if (x.2.1 o2 1) = 1 then
      lp_X2_charge_27 LN RF v0 x.1 o2 k55_4 gk_fuel (0, x.2)
    else
    k55_4 x.2
def f_X2_charge (LN : Nat → Nat) (RF : Nat → Nat → Nat) (a0 : Nat) (M : gk_M) : Option (gk_M) :=
  gk_jn (fun y21 : gk_M =>
    some y21) fun k61_21 =>
  lp_X2_charge_2 LN RF a0 k61_21 gk_fuel (0, M)
set_option maxHeartbeats 4000000 in
set_option maxRecDepth 100000 in
theorem lk_X2_charge_27 {Z : gk_Z} {Y : gk_Y} (hY : gk_WF Y) (hC : gk_C Z Y cX2_charge 4 RX2 1) (hR : gk_R Z Y none) (v0 : Nat) (v1 : Int32) (v2 : Nat) (tv0 : gk_T Y 12 v0) (tv2 : gk_T Y 11 v2) (k55 : gk_M → Option (gk_M)) (hk55 : ∀ z6 : gk_M, gk_K Z Y 4 gk_rV 55 [(0, .ref v0), (1, .int v1)] [] z6 (k55 z6)) : ∀ (n : Nat) (x : Int32 × gk_M), gk_K Z Y 4 gk_rV 27 [(0, .ref v0), (1, .int v1), (2, .ref v2), (3, .int x.1)] [] x.2 (lp_X2_charge_27 (gk_ln Y) (gk_rf Y) v0 v1 v2 k55 n x) := by
  intro n
  induction n with
  | zero => intro x; exact gk_none
  | succ n ih =>
    intro x
    rw [lp_X2_charge_27]
    refine gk_iload_n hC 3 dX2_charge_27 rfl (q := 28) rfl ?_
    refine gk_aload_n hC 2 dX2_charge_28 rfl (q := 29) rfl ?_
    refine gk_getI hC dX2_charge_29 fl_RX2_110 tv2 (q := 32) rfl ?_
    refine gk_icmp_ge hC dX2_charge_32 (tg := 55) rfl (q := 35) rfl ?_ ?_
    · refine gk_pick [0, 1] rfl ?_
      exact hk55 x.2
    · refine gk_aload_n hC 0 dX2_charge_35 rfl (q := 36) rfl ?_
      refine gk_getR hC dX2_charge_36 fl_RX2_18 (by decide) tv0 (q := 39) rfl (fun t1 => ?_)
      refine gk_aload_n hC 2 dX2_charge_39 rfl (q := 40) rfl ?_
      refine gk_iload_n hC 3 dX2_charge_40 rfl (q := 41) rfl ?_
      refine gk_callV (As := [.int x.1]) (rest := [.ref ((gk_rf Y) v0 4)]) hC (fun l => m_X1_payerAt l hY v2 x.1 x.2 tv2) ml_RX2_210 ok_X1_payerAt dX2_charge_41 tv2 ⟨by decide, rfl⟩ rfl (by decide) (Nat.le_of_ble_eq_true rfl) rfl (q := 44) rfl (fun r2 => ?_)
      show gk_K Z Y 4 gk_rV 44 [(0, .ref v0), (1, .int v1), (2, .ref v2), (3, .int x.1)] [.int r2, .ref ((gk_rf Y) v0 4)] x.2 _
      refine gk_dup2 hC dX2_charge_44 rfl rfl (q := 45) rfl ?_
      refine gk_iald hC dX2_charge_45 t1 (q := 46) rfl (fun x3 => ?_)
      refine gk_iconst hC (v := 1) dX2_charge_46 kc_i_1 (q := 47) rfl ?_
      refine gk_iadd hC dX2_charge_47 (q := 48) rfl ?_
      refine gk_iast hC dX2_charge_48 t1 (q := 49) rfl (fun M4 => ?_)
      refine gk_iinc hC (v := 1) 3 (lv' := [(0, .ref v0), (1, .int v1), (2, .ref v2), (3, .int (x.1 + 1))]) [1, 2, 3, 0] dX2_charge_49 rfl kc_i_1 (by decide) rfl (q := 52) rfl ?_
      refine gk_goto hC dX2_charge_52 (q := 27) rfl ?_
      exact ih ((x.1 + 1), M4)
set_option maxHeartbeats 4000000 in
set_option maxRecDepth 100000 in
theorem lk_X2_charge_2 {Z : gk_Z} {Y : gk_Y} (hY : gk_WF Y) (hC : gk_C Z Y cX2_charge 4 RX2 1) (hR : gk_R Z Y none) (v0 : Nat) (tv0 : gk_T Y 12 v0) (k61 : gk_M → Option (gk_M)) (hk61 : ∀ z23 : gk_M, gk_K Z Y 4 gk_rV 61 [] [] z23 (k61 z23)) : ∀ (n : Nat) (x : Int32 × gk_M), gk_K Z Y 4 gk_rV 2 [(0, .ref v0), (1, .int x.1)] [] x.2 (lp_X2_charge_2 (gk_ln Y) (gk_rf Y) v0 k61 n x) := by
  intro n
  induction n with
  | zero => intro x; exact gk_none
  | succ n ih =>
    intro x
    rw [lp_X2_charge_2]
    refine gk_iload_n hC 1 dX2_charge_2 rfl (q := 3) rfl ?_
    refine gk_aload_n hC 0 dX2_charge_3 rfl (q := 4) rfl ?_
    refine gk_getI hC dX2_charge_4 fl_RX2_42 tv0 (q := 7) rfl ?_
    refine gk_icmp_ge hC dX2_charge_7 (tg := 61) rfl (q := 10) rfl ?_ ?_
    · refine gk_pick [] rfl ?_
      exact hk61 x.2
    · refine gk_aload_n hC 0 dX2_charge_10 rfl (q := 11) rfl ?_
      refine gk_getR hC dX2_charge_11 fl_RX2_33 (by decide) tv0 (q := 14) rfl (fun t1 => ?_)
      refine gk_iload_n hC 1 dX2_charge_14 rfl (q := 15) rfl ?_
      refine gk_aald hC dX2_charge_15 (Or.inl rfl) t1 (q := 16) rfl (fun o2 t3 => ?_)
      refine gk_astore_n hC (lv' := [(0, .ref v0), (1, .int x.1), (2, .ref o2)]) [1, 2, 0] dX2_charge_16 (by decide) rfl (q := 17) rfl ?_
      refine gk_aload_n hC 2 dX2_charge_17 rfl (q := 18) rfl ?_
      refine gk_getI hC dX2_charge_18 fl_RX2_71 t3 (q := 21) rfl ?_
      refine gk_iconst hC (v := 1) dX2_charge_21 kc_i_1 (q := 22) rfl ?_
      refine gk_jnR (fun k55_4 => ∀ z5 : gk_M, gk_K Z Y 4 gk_rV 55 [(0, .ref v0), (1, .int x.1)] [] z5 (k55_4 z5)) (fun y4 => ?_) (fun k55_4 hk55_4 => ?_)
      · show gk_K Z Y 4 gk_rV 55 [(0, .ref v0), (1, .int x.1)] [] y4 _
        refine gk_iinc hC (v := 1) 1 (lv' := [(0, .ref v0), (1, .int (x.1 + 1))]) [1, 0] dX2_charge_55 rfl kc_i_1 (by decide) rfl (q := 58) rfl ?_
        refine gk_goto hC dX2_charge_58 (q := 2) rfl ?_
        exact ih ((x.1 + 1), y4)
      · refine gk_icmp_ne hC dX2_charge_22 (tg := 55) rfl (q := 25) rfl ?_ ?_
        · refine gk_iconst hC (v := 0) dX2_charge_25 kc_i_0 (q := 26) rfl ?_
          refine gk_istore_n hC (lv' := [(0, .ref v0), (1, .int x.1), (2, .ref o2), (3, .int 0)]) [1, 2, 3, 0] dX2_charge_26 (by decide) rfl (q := 27) rfl ?_
          exact lk_X2_charge_27 hY hC hR v0 x.1 o2 tv0 t3 k55_4 hk55_4 gk_fuel (0, x.2)
        · refine gk_pick [0, 1] rfl ?_
          exact hk55_4 x.2
set_option maxHeartbeats 4000000 in
set_option maxRecDepth 100000 in
theorem m_X2_charge (l : Launch) {Y : gk_Y} (hY : gk_WF Y) (a0 : Nat) (M : gk_M) (t0 : gk_T Y 12 a0) : gk_MF l Y yX2_charge cX2_charge 4 none 1 [.ref a0] M gk_rV (f_X2_charge (gk_ln Y) (gk_rf Y) a0 M) := by
  refine gk_met hY (plainFor_of_name (by decide)) (Nat.le_of_ble_eq_true rfl) fun Z hC hR => ?_
  show gk_K Z Y 4 gk_rV 0 [(0, .ref a0)] [] M _
  unfold f_X2_charge
  refine gk_iconst hC (v := 0) dX2_charge_0 kc_i_0 (q := 1) rfl ?_
  refine gk_istore_n hC (lv' := [(0, .ref a0), (1, .int 0)]) [1, 0] dX2_charge_1 (by decide) rfl (q := 2) rfl ?_
  refine gk_jnR (fun k61_21 => ∀ z22 : gk_M, gk_K Z Y 4 gk_rV 61 [] [] z22 (k61_21 z22)) (fun y21 => ?_) (fun k61_21 hk61_21 => ?_)
  · show gk_K Z Y 4 gk_rV 61 [] [] y21 _
    exact gk_vret hC hR dX2_charge_61 rfl
  · exact lk_X2_charge_2 hY hC hR a0 t0 k61_21 hk61_21 gk_fuel (0, M)
def lp_X6_onwardAfter_5 (LN : Nat → Nat) (RF : Nat → Nat → Nat) (v0 : Nat) (v1 : Int32) (v2 : Int32) (M : gk_M) (k95 : Int32 → Option (Int32)) : Nat → (Int32 × Int32) → Option (Int32)
  | 0, _ => none
  | n + 1, x =>
    if (M.1 v0 1) ≤ x.2 then
      k95 x.1
    else
    gk_aldr LN RF (RF v0 0) x.2 fun o2 =>
    gk_jn (fun y4 : Int32 =>
      gk_jn (fun y6 : Int32 =>
        lp_X6_onwardAfter_5 LN RF v0 v1 v2 M k95 n (y6, (x.2 + 1))) fun k89_6 =>
      if y4 = 0 then
        k89_6 x.1
      else
      gk_jn (fun y8 : Unit =>
        k89_6 x.2) fun k86_8 =>
      if x.1 = (-1) then
        k86_8 ()
      else
      gk_aldr LN RF (RF v0 0) x.1 fun o11 =>
      if (M.1 o11 2) ≤ (M.1 o2 2) then
        k89_6 x.1
      else
      k86_8 ()) fun k57_4 =>
    gk_jn (fun y13 : Unit =>
      k57_4 0) fun k56_13 =>
    if (M.1 o2 1) = 1 then
      if (M.1 o2 4) = (2 + v2) then
        (f_X5_isOnFor LN RF o2 v1 M).bind fun r15 =>
        if r15 = 0 then
          k56_13 ()
        else
        k57_4 1
      else
      k56_13 ()
    else
    k56_13 ()
def f_X6_onwardAfter (LN : Nat → Nat) (RF : Nat → Nat → Nat) (a0 : Nat) (a1 : Int32) (a2 : Int32) (M : gk_M) : Option (Int32) :=
  gk_jn (fun y21 : Int32 =>
    some y21) fun k95_21 =>
  lp_X6_onwardAfter_5 LN RF a0 a1 a2 M k95_21 gk_fuel ((-1), 0)
set_option maxHeartbeats 4000000 in
set_option maxRecDepth 100000 in
theorem lk_X6_onwardAfter_5 {Z : gk_Z} {Y : gk_Y} (hY : gk_WF Y) (hC : gk_C Z Y cX6_onwardAfter 7 RX6 1) (hR : gk_R Z Y (some .int)) (v0 : Nat) (v1 : Int32) (v2 : Int32) (M : gk_M) (tv0 : gk_T Y 16 v0) (k95 : Int32 → Option (Int32)) (hk95 : ∀ z23 : Int32, gk_K Z Y 7 (gk_rR M) 95 [(3, .int z23)] [] M (k95 z23)) : ∀ (n : Nat) (x : Int32 × Int32), gk_K Z Y 7 (gk_rR M) 5 [(0, .ref v0), (1, .int v1), (2, .int v2), (3, .int x.1), (4, .int x.2)] [] M (lp_X6_onwardAfter_5 (gk_ln Y) (gk_rf Y) v0 v1 v2 M k95 n x) := by
  intro n
  induction n with
  | zero => intro x; exact gk_none
  | succ n ih =>
    intro x
    rw [lp_X6_onwardAfter_5]
    refine gk_iload hC 4 dX6_onwardAfter_5 rfl (q := 7) rfl ?_
    refine gk_aload_n hC 0 dX6_onwardAfter_7 rfl (q := 8) rfl ?_
    refine gk_getI hC dX6_onwardAfter_8 fl_RX6_18 tv0 (q := 11) rfl ?_
    refine gk_icmp_ge hC dX6_onwardAfter_11 (tg := 95) rfl (q := 14) rfl ?_ ?_
    · refine gk_pick [3] rfl ?_
      exact hk95 x.1
    · refine gk_aload_n hC 0 dX6_onwardAfter_14 rfl (q := 15) rfl ?_
      refine gk_getR hC dX6_onwardAfter_15 fl_RX6_11 (by decide) tv0 (q := 18) rfl (fun t1 => ?_)
      refine gk_iload hC 4 dX6_onwardAfter_18 rfl (q := 20) rfl ?_
      refine gk_aald hC dX6_onwardAfter_20 (Or.inr (Or.inl rfl)) t1 (q := 21) rfl (fun o2 t3 => ?_)
      refine gk_astore hC (lv' := [(0, .ref v0), (1, .int v1), (2, .int v2), (3, .int x.1), (4, .int x.2), (5, .ref o2)]) [1, 2, 3, 4, 5, 0] dX6_onwardAfter_21 (by decide) rfl (q := 23) rfl ?_
      refine gk_aload hC 5 dX6_onwardAfter_23 rfl (q := 25) rfl ?_
      refine gk_getI hC dX6_onwardAfter_25 fl_RX6_33 t3 (q := 28) rfl ?_
      refine gk_iconst hC (v := 1) dX6_onwardAfter_28 kc_i_1 (q := 29) rfl ?_
      refine gk_jnR (fun k57_4 => ∀ z5 : Int32, gk_K Z Y 7 (gk_rR M) 57 [(0, .ref v0), (1, .int v1), (2, .int v2), (3, .int x.1), (4, .int x.2), (5, .ref o2)] [.int z5] M (k57_4 z5)) (fun y4 => ?_) (fun k57_4 hk57_4 => ?_)
      · show gk_K Z Y 7 (gk_rR M) 57 [(0, .ref v0), (1, .int v1), (2, .int v2), (3, .int x.1), (4, .int x.2), (5, .ref o2)] [.int y4] M _
        refine gk_istore hC (lv' := [(0, .ref v0), (1, .int v1), (2, .int v2), (3, .int x.1), (4, .int x.2), (5, .ref o2), (6, .int y4)]) [1, 2, 3, 4, 5, 6, 0] dX6_onwardAfter_57 (by decide) rfl (q := 59) rfl ?_
        refine gk_iload hC 6 dX6_onwardAfter_59 rfl (q := 61) rfl ?_
        refine gk_jnR (fun k89_6 => ∀ z7 : Int32, gk_K Z Y 7 (gk_rR M) 89 [(0, .ref v0), (1, .int v1), (2, .int v2), (3, .int z7), (4, .int x.2)] [] M (k89_6 z7)) (fun y6 => ?_) (fun k89_6 hk89_6 => ?_)
        · show gk_K Z Y 7 (gk_rR M) 89 [(0, .ref v0), (1, .int v1), (2, .int v2), (3, .int y6), (4, .int x.2)] [] M _
          refine gk_iinc hC (v := 1) 4 (lv' := [(0, .ref v0), (1, .int v1), (2, .int v2), (3, .int y6), (4, .int (x.2 + 1))]) [1, 2, 3, 4, 0] dX6_onwardAfter_89 rfl kc_i_1 (by decide) rfl (q := 92) rfl ?_
          refine gk_goto hC dX6_onwardAfter_92 (q := 5) rfl ?_
          exact ih (y6, (x.2 + 1))
        · refine gk_if_eq hC dX6_onwardAfter_61 (tg := 89) rfl (q := 64) rfl ?_ ?_
          · refine gk_pick [0, 1, 2, 3, 4] rfl ?_
            exact hk89_6 x.1
          · refine gk_iload_n hC 3 dX6_onwardAfter_64 rfl (q := 65) rfl ?_
            refine gk_iconst hC (v := (-1)) dX6_onwardAfter_65 kc_i_m1 (q := 66) rfl ?_
            refine gk_jnR (fun k86_8 => ∀ z9 : Unit, gk_K Z Y 7 (gk_rR M) 86 [(0, .ref v0), (1, .int v1), (2, .int v2), (4, .int x.2)] [] M (k86_8 z9)) (fun y8 => ?_) (fun k86_8 hk86_8 => ?_)
            · show gk_K Z Y 7 (gk_rR M) 86 [(0, .ref v0), (1, .int v1), (2, .int v2), (4, .int x.2)] [] M _
              refine gk_iload hC 3 dX6_onwardAfter_86 rfl (q := 88) rfl ?_
              refine gk_istore_n hC (lv' := [(0, .ref v0), (1, .int v1), (2, .int v2), (3, .int x.2), (4, .int x.2)]) [1, 2, 3, 0, 4] dX6_onwardAfter_88 (by decide) rfl (q := 89) rfl ?_
              exact hk89_6 x.2
            · refine gk_icmp_eq hC dX6_onwardAfter_66 (tg := 86) rfl (q := 69) rfl ?_ ?_
              · refine gk_pick [0, 1, 2, 4] rfl ?_
                exact hk86_8 ()
              · refine gk_aload hC 5 dX6_onwardAfter_69 rfl (q := 71) rfl ?_
                refine gk_getI hC dX6_onwardAfter_71 fl_RX6_36 t3 (q := 74) rfl ?_
                refine gk_aload_n hC 0 dX6_onwardAfter_74 rfl (q := 75) rfl ?_
                refine gk_getR hC dX6_onwardAfter_75 fl_RX6_11 (by decide) tv0 (q := 78) rfl (fun t10 => ?_)
                refine gk_iload_n hC 3 dX6_onwardAfter_78 rfl (q := 79) rfl ?_
                refine gk_aald hC dX6_onwardAfter_79 (Or.inr (Or.inl rfl)) t10 (q := 80) rfl (fun o11 t12 => ?_)
                refine gk_getI hC dX6_onwardAfter_80 fl_RX6_36 t12 (q := 83) rfl ?_
                refine gk_icmp_ge hC dX6_onwardAfter_83 (tg := 89) rfl (q := 86) rfl ?_ ?_
                · refine gk_pick [0, 1, 2, 3, 4] rfl ?_
                  exact hk89_6 x.1
                · refine gk_pick [0, 1, 2, 4] rfl ?_
                  exact hk86_8 ()
      · refine gk_jnR (fun k56_13 => ∀ z14 : Unit, gk_K Z Y 7 (gk_rR M) 56 [(0, .ref v0), (1, .int v1), (2, .int v2), (3, .int x.1), (4, .int x.2), (5, .ref o2)] [] M (k56_13 z14)) (fun y13 => ?_) (fun k56_13 hk56_13 => ?_)
        · show gk_K Z Y 7 (gk_rR M) 56 [(0, .ref v0), (1, .int v1), (2, .int v2), (3, .int x.1), (4, .int x.2), (5, .ref o2)] [] M _
          refine gk_iconst hC (v := 0) dX6_onwardAfter_56 kc_i_0 (q := 57) rfl ?_
          exact hk57_4 0
        · refine gk_icmp_ne hC dX6_onwardAfter_29 (tg := 56) rfl (q := 32) rfl ?_ ?_
          · refine gk_aload hC 5 dX6_onwardAfter_32 rfl (q := 34) rfl ?_
            refine gk_getI hC dX6_onwardAfter_34 fl_RX6_42 t3 (q := 37) rfl ?_
            refine gk_iconst hC (v := 2) dX6_onwardAfter_37 kc_i_2 (q := 38) rfl ?_
            refine gk_iload_n hC 2 dX6_onwardAfter_38 rfl (q := 39) rfl ?_
            refine gk_iadd hC dX6_onwardAfter_39 (q := 40) rfl ?_
            refine gk_icmp_ne hC dX6_onwardAfter_40 (tg := 56) rfl (q := 43) rfl ?_ ?_
            · refine gk_aload hC 5 dX6_onwardAfter_43 rfl (q := 45) rfl ?_
              refine gk_iload_n hC 1 dX6_onwardAfter_45 rfl (q := 46) rfl ?_
              refine gk_callV (As := [.int v1]) (rest := []) hC (fun l => m_X5_isOnFor l hY o2 v1 M t3) ml_RX6_49 ok_X5_isOnFor dX6_onwardAfter_46 t3 ⟨by decide, rfl⟩ rfl (by decide) (Nat.le_of_ble_eq_true rfl) rfl (q := 49) rfl (fun r15 => ?_)
              show gk_K Z Y 7 (gk_rR M) 49 [(0, .ref v0), (1, .int v1), (2, .int v2), (3, .int x.1), (4, .int x.2), (5, .ref o2)] [.int r15] M _
              refine gk_if_eq hC dX6_onwardAfter_49 (tg := 56) rfl (q := 52) rfl ?_ ?_
              · exact hk56_13 ()
              · refine gk_iconst hC (v := 1) dX6_onwardAfter_52 kc_i_1 (q := 53) rfl ?_
                refine gk_goto hC dX6_onwardAfter_53 (q := 57) rfl ?_
                exact hk57_4 1
            · exact hk56_13 ()
          · exact hk56_13 ()
set_option maxHeartbeats 4000000 in
set_option maxRecDepth 100000 in
theorem m_X6_onwardAfter (l : Launch) {Y : gk_Y} (hY : gk_WF Y) (a0 : Nat) (a1 : Int32) (a2 : Int32) (M : gk_M) (t0 : gk_T Y 16 a0) : gk_MF l Y yX6_onwardAfter cX6_onwardAfter 7 (some .int) 1 [.ref a0, .int a1, .int a2] M (gk_rR M) (f_X6_onwardAfter (gk_ln Y) (gk_rf Y) a0 a1 a2 M) := by
  refine gk_met hY (plainFor_of_name (by decide)) (Nat.le_of_ble_eq_true rfl) fun Z hC hR => ?_
  show gk_K Z Y 7 (gk_rR M) 0 [(0, .ref a0), (1, .int a1), (2, .int a2)] [] M _
  unfold f_X6_onwardAfter
  refine gk_iconst hC (v := (-1)) dX6_onwardAfter_0 kc_i_m1 (q := 1) rfl ?_
  refine gk_istore_n hC (lv' := [(0, .ref a0), (1, .int a1), (2, .int a2), (3, .int (-1))]) [1, 2, 3, 0] dX6_onwardAfter_1 (by decide) rfl (q := 2) rfl ?_
  refine gk_iconst hC (v := 0) dX6_onwardAfter_2 kc_i_0 (q := 3) rfl ?_
  refine gk_istore hC (lv' := [(0, .ref a0), (1, .int a1), (2, .int a2), (3, .int (-1)), (4, .int 0)]) [1, 2, 3, 4, 0] dX6_onwardAfter_3 (by decide) rfl (q := 5) rfl ?_
  refine gk_jnR (fun k95_21 => ∀ z22 : Int32, gk_K Z Y 7 (gk_rR M) 95 [(3, .int z22)] [] M (k95_21 z22)) (fun y21 => ?_) (fun k95_21 hk95_21 => ?_)
  · show gk_K Z Y 7 (gk_rR M) 95 [(3, .int y21)] [] M _
    refine gk_iload_n hC 0 dX6_onwardAfter_95 rfl (q := 96) rfl ?_
    exact gk_iret hC hR dX6_onwardAfter_96 rfl
  · exact lk_X6_onwardAfter_5 hY hC hR a0 a1 a2 M t0 k95_21 hk95_21 gk_fuel ((-1), 0)
def lp_X2_dropBack_4 (LN : Nat → Nat) (RF : Nat → Nat → Nat) (v0 : Nat) (k46 : gk_M → Option (gk_M)) : Nat → (Int32 × gk_M) → Option (gk_M)
  | 0, _ => none
  | n + 1, x =>
    if (x.2.1 v0 9) ≤ x.1 then
      k46 x.2
    else
    gk_ald LN x.2 (RF v0 5) x.1 fun x3 =>
    gk_ast LN x.2 (RF v0 5) (x.1 - 1) x3 fun M4 =>
    gk_ald LN M4 (RF v0 6) x.1 fun x7 =>
    gk_ast LN M4 (RF v0 6) (x.1 - 1) x7 fun M8 =>
    lp_X2_dropBack_4 LN RF v0 k46 n ((x.1 + 1), M8)
def f_X2_dropBack (LN : Nat → Nat) (RF : Nat → Nat → Nat) (a0 : Nat) (a1 : Int32) (M : gk_M) : Option (gk_M) :=
  gk_jn (fun y21 : gk_M =>
    gk_put y21 a0 9 ((y21.1 a0 9) - 1) fun M23 =>
    some M23) fun k46_21 =>
  lp_X2_dropBack_4 LN RF a0 k46_21 gk_fuel ((a1 + 1), M)
set_option maxHeartbeats 4000000 in
set_option maxRecDepth 100000 in
theorem lk_X2_dropBack_4 {Z : gk_Z} {Y : gk_Y} (hY : gk_WF Y) (hC : gk_C Z Y cX2_dropBack 3 RX2 0) (hR : gk_R Z Y none) (v0 : Nat) (tv0 : gk_T Y 12 v0) (k46 : gk_M → Option (gk_M)) (hk46 : ∀ z24 : gk_M, gk_K Z Y 3 gk_rV 46 [(0, .ref v0)] [] z24 (k46 z24)) : ∀ (n : Nat) (x : Int32 × gk_M), gk_K Z Y 3 gk_rV 4 [(0, .ref v0), (2, .int x.1)] [] x.2 (lp_X2_dropBack_4 (gk_ln Y) (gk_rf Y) v0 k46 n x) := by
  intro n
  induction n with
  | zero => intro x; exact gk_none
  | succ n ih =>
    intro x
    rw [lp_X2_dropBack_4]
    refine gk_iload_n hC 1 dX2_dropBack_4 rfl (q := 5) rfl ?_
    refine gk_aload_n hC 0 dX2_dropBack_5 rfl (q := 6) rfl ?_
    refine gk_getI hC dX2_dropBack_6 fl_RX2_51 tv0 (q := 9) rfl ?_
    refine gk_icmp_ge hC dX2_dropBack_9 (tg := 46) rfl (q := 12) rfl ?_ ?_
    · refine gk_pick [0] rfl ?_
      exact hk46 x.2
    · refine gk_aload_n hC 0 dX2_dropBack_12 rfl (q := 13) rfl ?_
      refine gk_getR hC dX2_dropBack_13 fl_RX2_21 (by decide) tv0 (q := 16) rfl (fun t1 => ?_)
      refine gk_iload_n hC 1 dX2_dropBack_16 rfl (q := 17) rfl ?_
      refine gk_iconst hC (v := 1) dX2_dropBack_17 kc_i_1 (q := 18) rfl ?_
      refine gk_isub hC dX2_dropBack_18 (q := 19) rfl ?_
      refine gk_aload_n hC 0 dX2_dropBack_19 rfl (q := 20) rfl ?_
      refine gk_getR hC dX2_dropBack_20 fl_RX2_21 (by decide) tv0 (q := 23) rfl (fun t2 => ?_)
      refine gk_iload_n hC 1 dX2_dropBack_23 rfl (q := 24) rfl ?_
      refine gk_iald hC dX2_dropBack_24 t2 (q := 25) rfl (fun x3 => ?_)
      refine gk_iast hC dX2_dropBack_25 t1 (q := 26) rfl (fun M4 => ?_)
      refine gk_aload_n hC 0 dX2_dropBack_26 rfl (q := 27) rfl ?_
      refine gk_getR hC dX2_dropBack_27 fl_RX2_24 (by decide) tv0 (q := 30) rfl (fun t5 => ?_)
      refine gk_iload_n hC 1 dX2_dropBack_30 rfl (q := 31) rfl ?_
      refine gk_iconst hC (v := 1) dX2_dropBack_31 kc_i_1 (q := 32) rfl ?_
      refine gk_isub hC dX2_dropBack_32 (q := 33) rfl ?_
      refine gk_aload_n hC 0 dX2_dropBack_33 rfl (q := 34) rfl ?_
      refine gk_getR hC dX2_dropBack_34 fl_RX2_24 (by decide) tv0 (q := 37) rfl (fun t6 => ?_)
      refine gk_iload_n hC 1 dX2_dropBack_37 rfl (q := 38) rfl ?_
      refine gk_iald hC dX2_dropBack_38 t6 (q := 39) rfl (fun x7 => ?_)
      refine gk_iast hC dX2_dropBack_39 t5 (q := 40) rfl (fun M8 => ?_)
      refine gk_iinc hC (v := 1) 1 (lv' := [(0, .ref v0), (2, .int (x.1 + 1))]) [1, 0] dX2_dropBack_40 rfl kc_i_1 (by decide) rfl (q := 43) rfl ?_
      refine gk_goto hC dX2_dropBack_43 (q := 4) rfl ?_
      exact ih ((x.1 + 1), M8)
set_option maxHeartbeats 4000000 in
set_option maxRecDepth 100000 in
theorem m_X2_dropBack (l : Launch) {Y : gk_Y} (hY : gk_WF Y) (a0 : Nat) (a1 : Int32) (M : gk_M) (t0 : gk_T Y 12 a0) : gk_MF l Y yX2_dropBack cX2_dropBack 3 none 0 [.ref a0, .int a1] M gk_rV (f_X2_dropBack (gk_ln Y) (gk_rf Y) a0 a1 M) := by
  refine gk_met hY (plainFor_of_name (by decide)) (Nat.le_of_ble_eq_true rfl) fun Z hC hR => ?_
  show gk_K Z Y 3 gk_rV 0 [(0, .ref a0), (1, .int a1)] [] M _
  unfold f_X2_dropBack
  refine gk_iload_n hC 1 dX2_dropBack_0 rfl (q := 1) rfl ?_
  refine gk_iconst hC (v := 1) dX2_dropBack_1 kc_i_1 (q := 2) rfl ?_
  refine gk_iadd hC dX2_dropBack_2 (q := 3) rfl ?_
  refine gk_istore_n hC (lv' := [(0, .ref a0), (2, .int (a1 + 1))]) [1, 0] dX2_dropBack_3 (by decide) rfl (q := 4) rfl ?_
  refine gk_jnR (fun k46_21 => ∀ z22 : gk_M, gk_K Z Y 3 gk_rV 46 [(0, .ref a0)] [] z22 (k46_21 z22)) (fun y21 => ?_) (fun k46_21 hk46_21 => ?_)
  · show gk_K Z Y 3 gk_rV 46 [(0, .ref a0)] [] y21 _
    refine gk_aload_n hC 0 dX2_dropBack_46 rfl (q := 47) rfl ?_
    refine gk_dup hC dX2_dropBack_47 rfl (q := 48) rfl ?_
    refine gk_getI hC dX2_dropBack_48 fl_RX2_51 t0 (q := 51) rfl ?_
    refine gk_iconst hC (v := 1) dX2_dropBack_51 kc_i_1 (q := 52) rfl ?_
    refine gk_isub hC dX2_dropBack_52 (q := 53) rfl ?_
    refine gk_putI hC dX2_dropBack_53 fp_RX2_51 t0 (q := 56) rfl (fun M23 => ?_)
    exact gk_vret hC hR dX2_dropBack_56 rfl
  · exact lk_X2_dropBack_4 hY hC hR a0 t0 k46_21 hk46_21 gk_fuel ((a1 + 1), M)
def lp_X2_pass_128 (LN : Nat → Nat) (RF : Nat → Nat → Nat) (v0 : Nat) (v1 : Int32) (k209 : gk_M → Option (gk_M)) : Nat → (Int32 × Int32 × gk_M) → Option (gk_M)
  | 0, _ => none
  | n + 1, x =>
    if v1 ≤ x.2.1 then
      k209 x.2.2
    else
    gk_ald LN x.2.2 (RF v0 5) x.1 fun x2 =>
    gk_ald LN x.2.2 (RF v0 6) x.1 fun x4 =>
    (f_X2_isFree LN RF v0 x2 x.2.2).bind fun r5 =>
    gk_jn (fun y6 : Int32 × gk_M =>
      lp_X2_pass_128 LN RF v0 v1 k209 n (y6.1, (x.2.1 + 1), y6.2)) fun k203_6 =>
    gk_jn (fun y8 : Unit =>
      k203_6 ((x.1 + 1), x.2.2)) fun k200_8 =>
    if r5 = 0 then
      k200_8 ()
    else
    (f_X2_isFree LN RF v0 x4 x.2.2).bind fun r10 =>
    if r10 = 0 then
      k200_8 ()
    else
    (f_X2_hasRoom LN RF v0 x.2.2).bind fun r11 =>
    if r11 = 0 then
      k200_8 ()
    else
    (f_X2_dropBack LN RF v0 x.1 x.2.2).bind fun r12 =>
    (f_X2_opened LN RF v0 x2 r12).bind fun r13 =>
    (f_X2_go LN RF v0 r13.1 x2 x4 r13.2).bind fun r14 =>
    (f_X2_settle LN RF v0 r14).bind fun r15 =>
    k203_6 (x.1, r15)
def lp_X2_pass_16 (LN : Nat → Nat) (RF : Nat → Nat → Nat) (v0 : Nat) (k119 : gk_M → Option (gk_M)) : Nat → (Int32 × gk_M) → Option (gk_M)
  | 0, _ => none
  | n + 1, x =>
    if (x.2.1 v0 8) ≤ x.1 then
      k119 x.2
    else
    gk_aldr LN RF (RF v0 1) x.1 fun o2 =>
    gk_jn (fun y4 : gk_M =>
      lp_X2_pass_16 LN RF v0 k119 n ((x.1 + 1), y4)) fun k113_4 =>
    if (x.2.1 o2 1) = 0 then
      gk_put x.2 o2 6 ((x.2.1 o2 6) + 1) fun M6 =>
      (f_X1_lineAt LN RF o2 ((M6.1 o2 3) - 1) M6).bind fun r7 =>
      (f_X6_onwardAfter LN RF (RF v0 0) r7 (M6.1 o2 6) M6).bind fun r9 =>
      gk_jn (fun y10 : gk_M =>
        (f_X2_settle LN RF v0 y10).bind fun r12 =>
        k113_4 r12) fun k109_10 =>
      if r9 = (-1) then
        k109_10 M6
      else
      (f_X2_silence LN RF v0 o2 M6).bind fun r13 =>
      (f_X1_note LN RF o2 r9 r13).bind fun r14 =>
      gk_aldr LN RF (RF (RF v0 0) 0) r9 fun o17 =>
      (f_X2_go LN RF v0 x.1 r7 (r14.1 o17 3) r14).bind fun r19 =>
      k109_10 r19
    else
    k113_4 x.2
def f_X2_pass (LN : Nat → Nat) (RF : Nat → Nat → Nat) (a0 : Nat) (M : gk_M) : Option (gk_M) :=
  gk_put M a0 10 ((M.1 a0 10) + 1) fun M21 =>
  (f_X2_charge LN RF a0 M21).bind fun r22 =>
  gk_jn (fun y23 : gk_M =>
    gk_jn (fun y25 : gk_M =>
      some y25) fun k209_25 =>
    lp_X2_pass_128 LN RF a0 (y23.1 a0 9) k209_25 gk_fuel (0, 0, y23)) fun k119_23 =>
  lp_X2_pass_16 LN RF a0 k119_23 gk_fuel (0, r22)
set_option maxHeartbeats 4000000 in
set_option maxRecDepth 100000 in
theorem lk_X2_pass_128 {Z : gk_Z} {Y : gk_Y} (hY : gk_WF Y) (hC : gk_C Z Y cX2_pass 6 RX2 3) (hR : gk_R Z Y none) (v0 : Nat) (v1 : Int32) (tv0 : gk_T Y 12 v0) (k209 : gk_M → Option (gk_M)) (hk209 : ∀ z27 : gk_M, gk_K Z Y 6 gk_rV 209 [] [] z27 (k209 z27)) : ∀ (n : Nat) (x : Int32 × Int32 × gk_M), gk_K Z Y 6 gk_rV 128 [(0, .ref v0), (1, .int v1), (2, .int x.1), (3, .int x.2.1)] [] x.2.2 (lp_X2_pass_128 (gk_ln Y) (gk_rf Y) v0 v1 k209 n x) := by
  intro n
  induction n with
  | zero => intro x; exact gk_none
  | succ n ih =>
    intro x
    rw [lp_X2_pass_128]
    refine gk_iload_n hC 3 dX2_pass_128 rfl (q := 129) rfl ?_
    refine gk_iload_n hC 1 dX2_pass_129 rfl (q := 130) rfl ?_
    refine gk_icmp_ge hC dX2_pass_130 (tg := 209) rfl (q := 133) rfl ?_ ?_
    · refine gk_pick [] rfl ?_
      exact hk209 x.2.2
    · refine gk_aload_n hC 0 dX2_pass_133 rfl (q := 134) rfl ?_
      refine gk_getR hC dX2_pass_134 fl_RX2_21 (by decide) tv0 (q := 137) rfl (fun t1 => ?_)
      refine gk_iload_n hC 2 dX2_pass_137 rfl (q := 138) rfl ?_
      refine gk_iald hC dX2_pass_138 t1 (q := 139) rfl (fun x2 => ?_)
      refine gk_istore hC (lv' := [(0, .ref v0), (1, .int v1), (2, .int x.1), (3, .int x.2.1), (4, .int x2)]) [1, 2, 3, 4, 0] dX2_pass_139 (by decide) rfl (q := 141) rfl ?_
      refine gk_aload_n hC 0 dX2_pass_141 rfl (q := 142) rfl ?_
      refine gk_getR hC dX2_pass_142 fl_RX2_24 (by decide) tv0 (q := 145) rfl (fun t3 => ?_)
      refine gk_iload_n hC 2 dX2_pass_145 rfl (q := 146) rfl ?_
      refine gk_iald hC dX2_pass_146 t3 (q := 147) rfl (fun x4 => ?_)
      refine gk_istore hC (lv' := [(0, .ref v0), (1, .int v1), (2, .int x.1), (3, .int x.2.1), (4, .int x2), (5, .int x4)]) [1, 2, 3, 4, 5, 0] dX2_pass_147 (by decide) rfl (q := 149) rfl ?_
      refine gk_aload_n hC 0 dX2_pass_149 rfl (q := 150) rfl ?_
      refine gk_iload hC 4 dX2_pass_150 rfl (q := 152) rfl ?_
      refine gk_callV (As := [.int x2]) (rest := []) hC (fun l => m_X2_isFree l hY v0 x2 x.2.2 tv0) ml_RX2_61 ok_X2_isFree dX2_pass_152 tv0 ⟨by decide, rfl⟩ rfl (by decide) (Nat.le_of_ble_eq_true rfl) rfl (q := 155) rfl (fun r5 => ?_)
      show gk_K Z Y 6 gk_rV 155 [(0, .ref v0), (1, .int v1), (2, .int x.1), (3, .int x.2.1), (4, .int x2), (5, .int x4)] [.int r5] x.2.2 _
      refine gk_jnR (fun k203_6 => ∀ z7 : Int32 × gk_M, gk_K Z Y 6 gk_rV 203 [(0, .ref v0), (1, .int v1), (2, .int z7.1), (3, .int x.2.1)] [] z7.2 (k203_6 z7)) (fun y6 => ?_) (fun k203_6 hk203_6 => ?_)
      · show gk_K Z Y 6 gk_rV 203 [(0, .ref v0), (1, .int v1), (2, .int y6.1), (3, .int x.2.1)] [] y6.2 _
        refine gk_iinc hC (v := 1) 3 (lv' := [(0, .ref v0), (1, .int v1), (2, .int y6.1), (3, .int (x.2.1 + 1))]) [1, 2, 3, 0] dX2_pass_203 rfl kc_i_1 (by decide) rfl (q := 206) rfl ?_
        refine gk_goto hC dX2_pass_206 (q := 128) rfl ?_
        exact ih (y6.1, (x.2.1 + 1), y6.2)
      · refine gk_jnR (fun k200_8 => ∀ z9 : Unit, gk_K Z Y 6 gk_rV 200 [(0, .ref v0), (1, .int v1), (2, .int x.1), (3, .int x.2.1)] [] x.2.2 (k200_8 z9)) (fun y8 => ?_) (fun k200_8 hk200_8 => ?_)
        · show gk_K Z Y 6 gk_rV 200 [(0, .ref v0), (1, .int v1), (2, .int x.1), (3, .int x.2.1)] [] x.2.2 _
          refine gk_iinc hC (v := 1) 2 (lv' := [(0, .ref v0), (1, .int v1), (2, .int (x.1 + 1)), (3, .int x.2.1)]) [1, 2, 0, 3] dX2_pass_200 rfl kc_i_1 (by decide) rfl (q := 203) rfl ?_
          exact hk203_6 ((x.1 + 1), x.2.2)
        · refine gk_if_eq hC dX2_pass_155 (tg := 200) rfl (q := 158) rfl ?_ ?_
          · refine gk_pick [0, 1, 2, 3] rfl ?_
            exact hk200_8 ()
          · refine gk_aload_n hC 0 dX2_pass_158 rfl (q := 159) rfl ?_
            refine gk_iload hC 5 dX2_pass_159 rfl (q := 161) rfl ?_
            refine gk_callV (As := [.int x4]) (rest := []) hC (fun l => m_X2_isFree l hY v0 x4 x.2.2 tv0) ml_RX2_61 ok_X2_isFree dX2_pass_161 tv0 ⟨by decide, rfl⟩ rfl (by decide) (Nat.le_of_ble_eq_true rfl) rfl (q := 164) rfl (fun r10 => ?_)
            show gk_K Z Y 6 gk_rV 164 [(0, .ref v0), (1, .int v1), (2, .int x.1), (3, .int x.2.1), (4, .int x2), (5, .int x4)] [.int r10] x.2.2 _
            refine gk_if_eq hC dX2_pass_164 (tg := 200) rfl (q := 167) rfl ?_ ?_
            · refine gk_pick [0, 1, 2, 3] rfl ?_
              exact hk200_8 ()
            · refine gk_aload_n hC 0 dX2_pass_167 rfl (q := 168) rfl ?_
              refine gk_callV (As := []) (rest := []) hC (fun l => m_X2_hasRoom l hY v0 x.2.2 tv0) ml_RX2_132 ok_X2_hasRoom dX2_pass_168 tv0 ⟨by decide, rfl⟩ rfl (by decide) (Nat.le_of_ble_eq_true rfl) rfl (q := 171) rfl (fun r11 => ?_)
              show gk_K Z Y 6 gk_rV 171 [(0, .ref v0), (1, .int v1), (2, .int x.1), (3, .int x.2.1), (4, .int x2), (5, .int x4)] [.int r11] x.2.2 _
              refine gk_if_eq hC dX2_pass_171 (tg := 200) rfl (q := 174) rfl ?_ ?_
              · refine gk_pick [0, 1, 2, 3] rfl ?_
                exact hk200_8 ()
              · refine gk_aload_n hC 0 dX2_pass_174 rfl (q := 175) rfl ?_
                refine gk_iload_n hC 2 dX2_pass_175 rfl (q := 176) rfl ?_
                refine gk_callV (As := [.int x.1]) (rest := []) hC (fun l => m_X2_dropBack l hY v0 x.1 x.2.2 tv0) ml_RX2_136 ok_X2_dropBack dX2_pass_176 tv0 ⟨by decide, rfl⟩ rfl (by decide) (Nat.le_of_ble_eq_true rfl) rfl (q := 179) rfl (fun r12 => ?_)
                show gk_K Z Y 6 gk_rV 179 [(0, .ref v0), (1, .int v1), (2, .int x.1), (3, .int x.2.1), (4, .int x2), (5, .int x4)] [] r12 _
                refine gk_aload_n hC 0 dX2_pass_179 rfl (q := 180) rfl ?_
                refine gk_aload_n hC 0 dX2_pass_180 rfl (q := 181) rfl ?_
                refine gk_iload hC 4 dX2_pass_181 rfl (q := 183) rfl ?_
                refine gk_callV (As := [.int x2]) (rest := [.ref v0]) hC (fun l => m_X2_opened l hY v0 x2 r12 tv0) ml_RX2_86 ok_X2_opened dX2_pass_183 tv0 ⟨by decide, rfl⟩ rfl (by decide) (Nat.le_of_ble_eq_true rfl) rfl (q := 186) rfl (fun r13 => ?_)
                show gk_K Z Y 6 gk_rV 186 [(0, .ref v0), (1, .int v1), (2, .int x.1), (3, .int x.2.1), (4, .int x2), (5, .int x4)] [.int r13.1, .ref v0] r13.2 _
                refine gk_iload hC 4 dX2_pass_186 rfl (q := 188) rfl ?_
                refine gk_iload hC 5 dX2_pass_188 rfl (q := 190) rfl ?_
                refine gk_callV (As := [.int r13.1, .int x2, .int x4]) (rest := []) hC (fun l => m_X2_go l hY v0 r13.1 x2 x4 r13.2 tv0) ml_RX2_90 ok_X2_go dX2_pass_190 tv0 ⟨by decide, rfl⟩ rfl (by decide) (Nat.le_of_ble_eq_true rfl) rfl (q := 193) rfl (fun r14 => ?_)
                show gk_K Z Y 6 gk_rV 193 [(0, .ref v0), (1, .int v1), (2, .int x.1), (3, .int x.2.1), (4, .int x2), (5, .int x4)] [] r14 _
                refine gk_aload_n hC 0 dX2_pass_193 rfl (q := 194) rfl ?_
                refine gk_callV (As := []) (rest := []) hC (fun l => m_X2_settle l hY v0 r14 tv0) ml_RX2_94 ok_X2_settle dX2_pass_194 tv0 ⟨by decide, rfl⟩ rfl (by decide) (Nat.le_of_ble_eq_true rfl) rfl (q := 197) rfl (fun r15 => ?_)
                show gk_K Z Y 6 gk_rV 197 [(0, .ref v0), (1, .int v1), (2, .int x.1), (3, .int x.2.1), (4, .int x2), (5, .int x4)] [] r15 _
                refine gk_goto hC dX2_pass_197 (q := 203) rfl ?_
                refine gk_pick [0, 1, 2, 3] rfl ?_
                exact hk203_6 (x.1, r15)
set_option maxHeartbeats 4000000 in
set_option maxRecDepth 100000 in
theorem lk_X2_pass_16 {Z : gk_Z} {Y : gk_Y} (hY : gk_WF Y) (hC : gk_C Z Y cX2_pass 6 RX2 3) (hR : gk_R Z Y none) (v0 : Nat) (tv0 : gk_T Y 12 v0) (k119 : gk_M → Option (gk_M)) (hk119 : ∀ z28 : gk_M, gk_K Z Y 6 gk_rV 119 [(0, .ref v0)] [] z28 (k119 z28)) : ∀ (n : Nat) (x : Int32 × gk_M), gk_K Z Y 6 gk_rV 16 [(0, .ref v0), (1, .int x.1)] [] x.2 (lp_X2_pass_16 (gk_ln Y) (gk_rf Y) v0 k119 n x) := by
  intro n
  induction n with
  | zero => intro x; exact gk_none
  | succ n ih =>
    intro x
    rw [lp_X2_pass_16]
    refine gk_iload_n hC 1 dX2_pass_16 rfl (q := 17) rfl ?_
    refine gk_aload_n hC 0 dX2_pass_17 rfl (q := 18) rfl ?_
    refine gk_getI hC dX2_pass_18 fl_RX2_42 tv0 (q := 21) rfl ?_
    refine gk_icmp_ge hC dX2_pass_21 (tg := 119) rfl (q := 24) rfl ?_ ?_
    · refine gk_pick [0] rfl ?_
      exact hk119 x.2
    · refine gk_aload_n hC 0 dX2_pass_24 rfl (q := 25) rfl ?_
      refine gk_getR hC dX2_pass_25 fl_RX2_33 (by decide) tv0 (q := 28) rfl (fun t1 => ?_)
      refine gk_iload_n hC 1 dX2_pass_28 rfl (q := 29) rfl ?_
      refine gk_aald hC dX2_pass_29 (Or.inl rfl) t1 (q := 30) rfl (fun o2 t3 => ?_)
      refine gk_astore_n hC (lv' := [(0, .ref v0), (1, .int x.1), (2, .ref o2)]) [1, 2, 0] dX2_pass_30 (by decide) rfl (q := 31) rfl ?_
      refine gk_aload_n hC 2 dX2_pass_31 rfl (q := 32) rfl ?_
      refine gk_getI hC dX2_pass_32 fl_RX2_71 t3 (q := 35) rfl ?_
      refine gk_jnR (fun k113_4 => ∀ z5 : gk_M, gk_K Z Y 6 gk_rV 113 [(0, .ref v0), (1, .int x.1)] [] z5 (k113_4 z5)) (fun y4 => ?_) (fun k113_4 hk113_4 => ?_)
      · show gk_K Z Y 6 gk_rV 113 [(0, .ref v0), (1, .int x.1)] [] y4 _
        refine gk_iinc hC (v := 1) 1 (lv' := [(0, .ref v0), (1, .int (x.1 + 1))]) [1, 0] dX2_pass_113 rfl kc_i_1 (by decide) rfl (q := 116) rfl ?_
        refine gk_goto hC dX2_pass_116 (q := 16) rfl ?_
        exact ih ((x.1 + 1), y4)
      · refine gk_if_ne hC dX2_pass_35 (tg := 113) rfl (q := 38) rfl ?_ ?_
        · refine gk_aload_n hC 2 dX2_pass_38 rfl (q := 39) rfl ?_
          refine gk_dup hC dX2_pass_39 rfl (q := 40) rfl ?_
          refine gk_getI hC dX2_pass_40 fl_RX2_107 t3 (q := 43) rfl ?_
          refine gk_iconst hC (v := 1) dX2_pass_43 kc_i_1 (q := 44) rfl ?_
          refine gk_iadd hC dX2_pass_44 (q := 45) rfl ?_
          refine gk_putI hC dX2_pass_45 fp_RX2_107 t3 (q := 48) rfl (fun M6 => ?_)
          refine gk_aload_n hC 2 dX2_pass_48 rfl (q := 49) rfl ?_
          refine gk_aload_n hC 2 dX2_pass_49 rfl (q := 50) rfl ?_
          refine gk_getI hC dX2_pass_50 fl_RX2_110 t3 (q := 53) rfl ?_
          refine gk_iconst hC (v := 1) dX2_pass_53 kc_i_1 (q := 54) rfl ?_
          refine gk_isub hC dX2_pass_54 (q := 55) rfl ?_
          refine gk_callV (As := [.int ((M6.1 o2 3) - 1)]) (rest := []) hC (fun l => m_X1_lineAt l hY o2 ((M6.1 o2 3) - 1) M6 t3) ml_RX2_113 ok_X1_lineAt dX2_pass_55 t3 ⟨by decide, rfl⟩ rfl (by decide) (Nat.le_of_ble_eq_true rfl) rfl (q := 58) rfl (fun r7 => ?_)
          show gk_K Z Y 6 gk_rV 58 [(0, .ref v0), (1, .int x.1), (2, .ref o2)] [.int r7] M6 _
          refine gk_istore_n hC (lv' := [(0, .ref v0), (1, .int x.1), (2, .ref o2), (3, .int r7)]) [1, 2, 3, 0] dX2_pass_58 (by decide) rfl (q := 59) rfl ?_
          refine gk_aload_n hC 0 dX2_pass_59 rfl (q := 60) rfl ?_
          refine gk_getR hC dX2_pass_60 fl_RX2_27 (by decide) tv0 (q := 63) rfl (fun t8 => ?_)
          refine gk_iload_n hC 3 dX2_pass_63 rfl (q := 64) rfl ?_
          refine gk_aload_n hC 2 dX2_pass_64 rfl (q := 65) rfl ?_
          refine gk_getI hC dX2_pass_65 fl_RX2_107 t3 (q := 68) rfl ?_
          refine gk_callV (As := [.int r7, .int (M6.1 o2 6)]) (rest := []) hC (fun l => m_X6_onwardAfter l hY ((gk_rf Y) v0 0) r7 (M6.1 o2 6) M6 t8) ml_RX2_116 ok_X6_onwardAfter dX2_pass_68 t8 ⟨by decide, rfl⟩ rfl (by decide) (Nat.le_of_ble_eq_true rfl) rfl (q := 71) rfl (fun r9 => ?_)
          show gk_K Z Y 6 gk_rV 71 [(0, .ref v0), (1, .int x.1), (2, .ref o2), (3, .int r7)] [.int r9] M6 _
          refine gk_istore hC (lv' := [(0, .ref v0), (1, .int x.1), (2, .ref o2), (3, .int r7), (4, .int r9)]) [1, 2, 3, 4, 0] dX2_pass_71 (by decide) rfl (q := 73) rfl ?_
          refine gk_iload hC 4 dX2_pass_73 rfl (q := 75) rfl ?_
          refine gk_iconst hC (v := (-1)) dX2_pass_75 kc_i_m1 (q := 76) rfl ?_
          refine gk_jnR (fun k109_10 => ∀ z11 : gk_M, gk_K Z Y 6 gk_rV 109 [(0, .ref v0), (1, .int x.1)] [] z11 (k109_10 z11)) (fun y10 => ?_) (fun k109_10 hk109_10 => ?_)
          · show gk_K Z Y 6 gk_rV 109 [(0, .ref v0), (1, .int x.1)] [] y10 _
            refine gk_aload_n hC 0 dX2_pass_109 rfl (q := 110) rfl ?_
            refine gk_callV (As := []) (rest := []) hC (fun l => m_X2_settle l hY v0 y10 tv0) ml_RX2_94 ok_X2_settle dX2_pass_110 tv0 ⟨by decide, rfl⟩ rfl (by decide) (Nat.le_of_ble_eq_true rfl) rfl (q := 113) rfl (fun r12 => ?_)
            show gk_K Z Y 6 gk_rV 113 [(0, .ref v0), (1, .int x.1)] [] r12 _
            exact hk113_4 r12
          · refine gk_icmp_eq hC dX2_pass_76 (tg := 109) rfl (q := 79) rfl ?_ ?_
            · refine gk_pick [0, 1] rfl ?_
              exact hk109_10 M6
            · refine gk_aload_n hC 0 dX2_pass_79 rfl (q := 80) rfl ?_
              refine gk_aload_n hC 2 dX2_pass_80 rfl (q := 81) rfl ?_
              refine gk_callV (As := [.ref o2]) (rest := []) hC (fun l => m_X2_silence l hY v0 o2 M6 tv0 t3) ml_RX2_97 ok_X2_silence dX2_pass_81 tv0 ⟨by decide, rfl⟩ rfl (by decide) (Nat.le_of_ble_eq_true rfl) rfl (q := 84) rfl (fun r13 => ?_)
              show gk_K Z Y 6 gk_rV 84 [(0, .ref v0), (1, .int x.1), (2, .ref o2), (3, .int r7), (4, .int r9)] [] r13 _
              refine gk_aload_n hC 2 dX2_pass_84 rfl (q := 85) rfl ?_
              refine gk_iload hC 4 dX2_pass_85 rfl (q := 87) rfl ?_
              refine gk_callV (As := [.int r9]) (rest := []) hC (fun l => m_X1_note l hY o2 r9 r13 t3) ml_RX2_119 ok_X1_note dX2_pass_87 t3 ⟨by decide, rfl⟩ rfl (by decide) (Nat.le_of_ble_eq_true rfl) rfl (q := 90) rfl (fun r14 => ?_)
              show gk_K Z Y 6 gk_rV 90 [(0, .ref v0), (1, .int x.1), (2, .ref o2), (3, .int r7), (4, .int r9)] [] r14 _
              refine gk_aload_n hC 0 dX2_pass_90 rfl (q := 91) rfl ?_
              refine gk_iload_n hC 1 dX2_pass_91 rfl (q := 92) rfl ?_
              refine gk_iload_n hC 3 dX2_pass_92 rfl (q := 93) rfl ?_
              refine gk_aload_n hC 0 dX2_pass_93 rfl (q := 94) rfl ?_
              refine gk_getR hC dX2_pass_94 fl_RX2_27 (by decide) tv0 (q := 97) rfl (fun t15 => ?_)
              refine gk_getR hC dX2_pass_97 fl_RX2_123 (by decide) t15 (q := 100) rfl (fun t16 => ?_)
              refine gk_iload hC 4 dX2_pass_100 rfl (q := 102) rfl ?_
              refine gk_aald hC dX2_pass_102 (Or.inr (Or.inl rfl)) t16 (q := 103) rfl (fun o17 t18 => ?_)
              refine gk_getI hC dX2_pass_103 fl_RX2_127 t18 (q := 106) rfl ?_
              refine gk_callV (As := [.int x.1, .int r7, .int (r14.1 o17 3)]) (rest := []) hC (fun l => m_X2_go l hY v0 x.1 r7 (r14.1 o17 3) r14 tv0) ml_RX2_90 ok_X2_go dX2_pass_106 tv0 ⟨by decide, rfl⟩ rfl (by decide) (Nat.le_of_ble_eq_true rfl) rfl (q := 109) rfl (fun r19 => ?_)
              show gk_K Z Y 6 gk_rV 109 [(0, .ref v0), (1, .int x.1), (2, .ref o2), (3, .int r7), (4, .int r9)] [] r19 _
              refine gk_pick [0, 1] rfl ?_
              exact hk109_10 r19
        · refine gk_pick [0, 1] rfl ?_
          exact hk113_4 x.2
set_option maxHeartbeats 4000000 in
set_option maxRecDepth 100000 in
theorem m_X2_pass (l : Launch) {Y : gk_Y} (hY : gk_WF Y) (a0 : Nat) (M : gk_M) (t0 : gk_T Y 12 a0) : gk_MF l Y yX2_pass cX2_pass 6 none 3 [.ref a0] M gk_rV (f_X2_pass (gk_ln Y) (gk_rf Y) a0 M) := by
  refine gk_met hY (plainFor_of_name (by decide)) (Nat.le_of_ble_eq_true rfl) fun Z hC hR => ?_
  show gk_K Z Y 6 gk_rV 0 [(0, .ref a0)] [] M _
  unfold f_X2_pass
  refine gk_aload_n hC 0 dX2_pass_0 rfl (q := 1) rfl ?_
  refine gk_dup hC dX2_pass_1 rfl (q := 2) rfl ?_
  refine gk_getI hC dX2_pass_2 fl_RX2_54 t0 (q := 5) rfl ?_
  refine gk_iconst hC (v := 1) dX2_pass_5 kc_i_1 (q := 6) rfl ?_
  refine gk_iadd hC dX2_pass_6 (q := 7) rfl ?_
  refine gk_putI hC dX2_pass_7 fp_RX2_54 t0 (q := 10) rfl (fun M21 => ?_)
  refine gk_aload_n hC 0 dX2_pass_10 rfl (q := 11) rfl ?_
  refine gk_callV (As := []) (rest := []) hC (fun l => m_X2_charge l hY a0 M21 t0) ml_RX2_104 ok_X2_charge dX2_pass_11 t0 ⟨by decide, rfl⟩ rfl (by decide) (Nat.le_of_ble_eq_true rfl) rfl (q := 14) rfl (fun r22 => ?_)
  show gk_K Z Y 6 gk_rV 14 [(0, .ref a0)] [] r22 _
  refine gk_iconst hC (v := 0) dX2_pass_14 kc_i_0 (q := 15) rfl ?_
  refine gk_istore_n hC (lv' := [(0, .ref a0), (1, .int 0)]) [1, 0] dX2_pass_15 (by decide) rfl (q := 16) rfl ?_
  refine gk_jnR (fun k119_23 => ∀ z24 : gk_M, gk_K Z Y 6 gk_rV 119 [(0, .ref a0)] [] z24 (k119_23 z24)) (fun y23 => ?_) (fun k119_23 hk119_23 => ?_)
  · show gk_K Z Y 6 gk_rV 119 [(0, .ref a0)] [] y23 _
    refine gk_aload_n hC 0 dX2_pass_119 rfl (q := 120) rfl ?_
    refine gk_getI hC dX2_pass_120 fl_RX2_51 t0 (q := 123) rfl ?_
    refine gk_istore_n hC (lv' := [(0, .ref a0), (1, .int (y23.1 a0 9))]) [1, 0] dX2_pass_123 (by decide) rfl (q := 124) rfl ?_
    refine gk_iconst hC (v := 0) dX2_pass_124 kc_i_0 (q := 125) rfl ?_
    refine gk_istore_n hC (lv' := [(0, .ref a0), (1, .int (y23.1 a0 9)), (2, .int 0)]) [1, 2, 0] dX2_pass_125 (by decide) rfl (q := 126) rfl ?_
    refine gk_iconst hC (v := 0) dX2_pass_126 kc_i_0 (q := 127) rfl ?_
    refine gk_istore_n hC (lv' := [(0, .ref a0), (1, .int (y23.1 a0 9)), (2, .int 0), (3, .int 0)]) [1, 2, 3, 0] dX2_pass_127 (by decide) rfl (q := 128) rfl ?_
    refine gk_jnR (fun k209_25 => ∀ z26 : gk_M, gk_K Z Y 6 gk_rV 209 [] [] z26 (k209_25 z26)) (fun y25 => ?_) (fun k209_25 hk209_25 => ?_)
    · show gk_K Z Y 6 gk_rV 209 [] [] y25 _
      exact gk_vret hC hR dX2_pass_209 rfl
    · exact lk_X2_pass_128 hY hC hR a0 (y23.1 a0 9) t0 k209_25 hk209_25 gk_fuel (0, 0, y23)
  · exact lk_X2_pass_16 hY hC hR a0 t0 k119_23 hk119_23 gk_fuel (0, r22)
def f_X2_allows (LN : Nat → Nat) (RF : Nat → Nat → Nat) (a0 : Nat) (a1 : Int32) (M : gk_M) : Option (Int32) :=
  gk_sw (a1 / 1000) 1 [(f_X2_hasRoom LN RF a0 M).bind fun r21 =>
    gk_jn (fun y22 : Int32 =>
      gk_zz y22 (some y22)) fun k60_22 =>
    gk_jn (fun y24 : Unit =>
      k60_22 0) fun k59_24 =>
    if r21 = 0 then
      k59_24 ()
    else
    (f_X2_isFree LN RF a0 ((a1 - a1 / 1000 * 1000) / 10) M).bind fun r26 =>
    if r26 = 0 then
      k59_24 ()
    else
    k60_22 1,
    (f_X2_isRinging LN RF a0 ((a1 - a1 / 1000 * 1000) / 10) M).bind fun r27 =>
    gk_zz r27 (some r27),
    (f_X2_canHangUp LN RF a0 ((a1 - a1 / 1000 * 1000) / 10) M).bind fun r28 =>
    gk_zz r28 (some r28)]
  (gk_jn (fun y29 : Int32 =>
    gk_zz y29 (some y29)) fun k88_29 =>
  if 1000 ≤ (M.1 a0 10) then
    k88_29 0
  else
  k88_29 1)
set_option maxHeartbeats 4000000 in
set_option maxRecDepth 100000 in
theorem m_X2_allows (l : Launch) {Y : gk_Y} (hY : gk_WF Y) (a0 : Nat) (a1 : Int32) (M : gk_M) (t0 : gk_T Y 12 a0) : gk_MF l Y yX2_allows cX2_allows 3 (some .boolean) 3 [.ref a0, .int a1] M (gk_rR M) (f_X2_allows (gk_ln Y) (gk_rf Y) a0 a1 M) := by
  refine gk_met hY (plainFor_of_name (by decide)) (Nat.le_of_ble_eq_true rfl) fun Z hC hR => ?_
  show gk_K Z Y 3 (gk_rR M) 0 [(0, .ref a0), (1, .int a1)] [] M _
  unfold f_X2_allows
  refine gk_iload_n hC 1 dX2_allows_0 rfl (q := 1) rfl ?_
  refine gk_sipush hC (v := 1000) dX2_allows_1 kc_s_1000 (q := 4) rfl ?_
  refine gk_irem hC dX2_allows_4 (by decide) (q := 5) rfl ?_
  refine gk_bipush hC (v := 10) dX2_allows_5 kc_b_10 (q := 7) rfl ?_
  refine gk_idiv hC dX2_allows_7 (by decide) (q := 8) rfl ?_
  refine gk_istore_n hC (lv' := [(0, .ref a0), (1, .int a1), (2, .int ((a1 - a1 / 1000 * 1000) / 10))]) [1, 2, 0] dX2_allows_8 (by decide) rfl (q := 9) rfl ?_
  refine gk_iload_n hC 1 dX2_allows_9 rfl (q := 10) rfl ?_
  refine gk_sipush hC (v := 1000) dX2_allows_10 kc_s_1000 (q := 13) rfl ?_
  refine gk_idiv hC dX2_allows_13 (by decide) (q := 14) rfl ?_
  refine gk_table hC (ts := [40, 61, 67]) (tg := 73) dX2_allows_14 (by decide) (by decide) rfl ⟨?_, ?_, ?_, trivial⟩ ?_
  · refine gk_aload_n hC 0 dX2_allows_40 rfl (q := 41) rfl ?_
    refine gk_callV (As := []) (rest := []) hC (fun l => m_X2_hasRoom l hY a0 M t0) ml_RX2_132 ok_X2_hasRoom dX2_allows_41 t0 ⟨by decide, rfl⟩ rfl (by decide) (Nat.le_of_ble_eq_true rfl) rfl (q := 44) rfl (fun r21 => ?_)
    show gk_K Z Y 3 (gk_rR M) 44 [(0, .ref a0), (1, .int a1), (2, .int ((a1 - a1 / 1000 * 1000) / 10))] [.int r21] M _
    refine gk_jnR (fun k60_22 => ∀ z23 : Int32, gk_K Z Y 3 (gk_rR M) 60 [] [.int z23] M (k60_22 z23)) (fun y22 => ?_) (fun k60_22 hk60_22 => ?_)
    · show gk_K Z Y 3 (gk_rR M) 60 [] [.int y22] M _
      exact gk_zzR (fun hv => gk_zret hC hR dX2_allows_60 hv rfl)
    · refine gk_jnR (fun k59_24 => ∀ z25 : Unit, gk_K Z Y 3 (gk_rR M) 59 [] [] M (k59_24 z25)) (fun y24 => ?_) (fun k59_24 hk59_24 => ?_)
      · show gk_K Z Y 3 (gk_rR M) 59 [] [] M _
        refine gk_iconst hC (v := 0) dX2_allows_59 kc_i_0 (q := 60) rfl ?_
        exact hk60_22 0
      · refine gk_if_eq hC dX2_allows_44 (tg := 59) rfl (q := 47) rfl ?_ ?_
        · refine gk_pick [] rfl ?_
          exact hk59_24 ()
        · refine gk_aload_n hC 0 dX2_allows_47 rfl (q := 48) rfl ?_
          refine gk_iload_n hC 2 dX2_allows_48 rfl (q := 49) rfl ?_
          refine gk_callV (As := [.int ((a1 - a1 / 1000 * 1000) / 10)]) (rest := []) hC (fun l => m_X2_isFree l hY a0 ((a1 - a1 / 1000 * 1000) / 10) M t0) ml_RX2_61 ok_X2_isFree dX2_allows_49 t0 ⟨by decide, rfl⟩ rfl (by decide) (Nat.le_of_ble_eq_true rfl) rfl (q := 52) rfl (fun r26 => ?_)
          show gk_K Z Y 3 (gk_rR M) 52 [(0, .ref a0), (1, .int a1), (2, .int ((a1 - a1 / 1000 * 1000) / 10))] [.int r26] M _
          refine gk_if_eq hC dX2_allows_52 (tg := 59) rfl (q := 55) rfl ?_ ?_
          · refine gk_pick [] rfl ?_
            exact hk59_24 ()
          · refine gk_iconst hC (v := 1) dX2_allows_55 kc_i_1 (q := 56) rfl ?_
            refine gk_goto hC dX2_allows_56 (q := 60) rfl ?_
            refine gk_pick [] rfl ?_
            exact hk60_22 1
  · refine gk_aload_n hC 0 dX2_allows_61 rfl (q := 62) rfl ?_
    refine gk_iload_n hC 2 dX2_allows_62 rfl (q := 63) rfl ?_
    refine gk_callV (As := [.int ((a1 - a1 / 1000 * 1000) / 10)]) (rest := []) hC (fun l => m_X2_isRinging l hY a0 ((a1 - a1 / 1000 * 1000) / 10) M t0) ml_RX2_68 ok_X2_isRinging dX2_allows_63 t0 ⟨by decide, rfl⟩ rfl (by decide) (Nat.le_of_ble_eq_true rfl) rfl (q := 66) rfl (fun r27 => ?_)
    show gk_K Z Y 3 (gk_rR M) 66 [(0, .ref a0), (1, .int a1), (2, .int ((a1 - a1 / 1000 * 1000) / 10))] [.int r27] M _
    exact gk_zzR (fun hv => gk_zret hC hR dX2_allows_66 hv rfl)
  · refine gk_aload_n hC 0 dX2_allows_67 rfl (q := 68) rfl ?_
    refine gk_iload_n hC 2 dX2_allows_68 rfl (q := 69) rfl ?_
    refine gk_callV (As := [.int ((a1 - a1 / 1000 * 1000) / 10)]) (rest := []) hC (fun l => m_X2_canHangUp l hY a0 ((a1 - a1 / 1000 * 1000) / 10) M t0) ml_RX2_139 ok_X2_canHangUp dX2_allows_69 t0 ⟨by decide, rfl⟩ rfl (by decide) (Nat.le_of_ble_eq_true rfl) rfl (q := 72) rfl (fun r28 => ?_)
    show gk_K Z Y 3 (gk_rR M) 72 [(0, .ref a0), (1, .int a1), (2, .int ((a1 - a1 / 1000 * 1000) / 10))] [.int r28] M _
    exact gk_zzR (fun hv => gk_zret hC hR dX2_allows_72 hv rfl)
  · refine gk_aload_n hC 0 dX2_allows_73 rfl (q := 74) rfl ?_
    refine gk_getI hC dX2_allows_74 fl_RX2_54 t0 (q := 77) rfl ?_
    refine gk_sipush hC (v := 1000) dX2_allows_77 kc_s_1000 (q := 80) rfl ?_
    refine gk_jnR (fun k88_29 => ∀ z30 : Int32, gk_K Z Y 3 (gk_rR M) 88 [] [.int z30] M (k88_29 z30)) (fun y29 => ?_) (fun k88_29 hk88_29 => ?_)
    · show gk_K Z Y 3 (gk_rR M) 88 [] [.int y29] M _
      exact gk_zzR (fun hv => gk_zret hC hR dX2_allows_88 hv rfl)
    · refine gk_icmp_ge hC dX2_allows_80 (tg := 87) rfl (q := 83) rfl ?_ ?_
      · refine gk_iconst hC (v := 0) dX2_allows_87 kc_i_0 (q := 88) rfl ?_
        refine gk_pick [] rfl ?_
        exact hk88_29 0
      · refine gk_iconst hC (v := 1) dX2_allows_83 kc_i_1 (q := 84) rfl ?_
        refine gk_goto hC dX2_allows_84 (q := 88) rfl ?_
        refine gk_pick [] rfl ?_
        exact hk88_29 1
def f_X2_perform (LN : Nat → Nat) (RF : Nat → Nat → Nat) (a0 : Nat) (a1 : Int32) (M : gk_M) : Option (gk_M) :=
  gk_jn (fun y21 : gk_M =>
    some y21) fun k75_21 =>
  gk_sw (a1 / 1000) 1 [(f_X2_connect LN RF a0 ((a1 - a1 / 1000 * 1000) / 10) (a1 - a1 / 10 * 10) M).bind fun r23 =>
    k75_21 r23.2,
    (f_X2_answer LN RF a0 ((a1 - a1 / 1000 * 1000) / 10) M).bind fun r24 =>
    k75_21 r24.2,
    (f_X2_hangUp LN RF a0 ((a1 - a1 / 1000 * 1000) / 10) M).bind fun r25 =>
    k75_21 r25.2]
  ((f_X2_pass LN RF a0 M).bind fun r26 =>
  k75_21 r26)
set_option maxHeartbeats 4000000 in
set_option maxRecDepth 100000 in
theorem m_X2_perform (l : Launch) {Y : gk_Y} (hY : gk_WF Y) (a0 : Nat) (a1 : Int32) (M : gk_M) (t0 : gk_T Y 12 a0) : gk_MF l Y yX2_perform cX2_perform 3 none 4 [.ref a0, .int a1] M gk_rV (f_X2_perform (gk_ln Y) (gk_rf Y) a0 a1 M) := by
  refine gk_met hY (plainFor_of_name (by decide)) (Nat.le_of_ble_eq_true rfl) fun Z hC hR => ?_
  show gk_K Z Y 3 gk_rV 0 [(0, .ref a0), (1, .int a1)] [] M _
  unfold f_X2_perform
  refine gk_iload_n hC 1 dX2_perform_0 rfl (q := 1) rfl ?_
  refine gk_sipush hC (v := 1000) dX2_perform_1 kc_s_1000 (q := 4) rfl ?_
  refine gk_irem hC dX2_perform_4 (by decide) (q := 5) rfl ?_
  refine gk_bipush hC (v := 10) dX2_perform_5 kc_b_10 (q := 7) rfl ?_
  refine gk_idiv hC dX2_perform_7 (by decide) (q := 8) rfl ?_
  refine gk_istore_n hC (lv' := [(0, .ref a0), (1, .int a1), (2, .int ((a1 - a1 / 1000 * 1000) / 10))]) [1, 2, 0] dX2_perform_8 (by decide) rfl (q := 9) rfl ?_
  refine gk_iload_n hC 1 dX2_perform_9 rfl (q := 10) rfl ?_
  refine gk_sipush hC (v := 1000) dX2_perform_10 kc_s_1000 (q := 13) rfl ?_
  refine gk_idiv hC dX2_perform_13 (by decide) (q := 14) rfl ?_
  refine gk_jnR (fun k75_21 => ∀ z22 : gk_M, gk_K Z Y 3 gk_rV 75 [] [] z22 (k75_21 z22)) (fun y21 => ?_) (fun k75_21 hk75_21 => ?_)
  · show gk_K Z Y 3 gk_rV 75 [] [] y21 _
    exact gk_vret hC hR dX2_perform_75 rfl
  · refine gk_table hC (ts := [40, 53, 62]) (tg := 71) dX2_perform_14 (by decide) (by decide) rfl ⟨?_, ?_, ?_, trivial⟩ ?_
    · refine gk_aload_n hC 0 dX2_perform_40 rfl (q := 41) rfl ?_
      refine gk_iload_n hC 2 dX2_perform_41 rfl (q := 42) rfl ?_
      refine gk_iload_n hC 1 dX2_perform_42 rfl (q := 43) rfl ?_
      refine gk_bipush hC (v := 10) dX2_perform_43 kc_b_10 (q := 45) rfl ?_
      refine gk_irem hC dX2_perform_45 (by decide) (q := 46) rfl ?_
      refine gk_callV (As := [.int ((a1 - a1 / 1000 * 1000) / 10), .int (a1 - a1 / 10 * 10)]) (rest := []) hC (fun l => m_X2_connect l hY a0 ((a1 - a1 / 1000 * 1000) / 10) (a1 - a1 / 10 * 10) M t0) ml_RX2_142 ok_X2_connect dX2_perform_46 t0 ⟨by decide, rfl⟩ rfl (by decide) (Nat.le_of_ble_eq_true rfl) rfl (q := 49) rfl (fun r23 => ?_)
      show gk_K Z Y 3 gk_rV 49 [(0, .ref a0), (1, .int a1), (2, .int ((a1 - a1 / 1000 * 1000) / 10))] [.int r23.1] r23.2 _
      refine gk_pop hC dX2_perform_49 rfl (q := 50) rfl ?_
      refine gk_goto hC dX2_perform_50 (q := 75) rfl ?_
      refine gk_pick [] rfl ?_
      exact hk75_21 r23.2
    · refine gk_aload_n hC 0 dX2_perform_53 rfl (q := 54) rfl ?_
      refine gk_iload_n hC 2 dX2_perform_54 rfl (q := 55) rfl ?_
      refine gk_callV (As := [.int ((a1 - a1 / 1000 * 1000) / 10)]) (rest := []) hC (fun l => m_X2_answer l hY a0 ((a1 - a1 / 1000 * 1000) / 10) M t0) ml_RX2_145 ok_X2_answer dX2_perform_55 t0 ⟨by decide, rfl⟩ rfl (by decide) (Nat.le_of_ble_eq_true rfl) rfl (q := 58) rfl (fun r24 => ?_)
      show gk_K Z Y 3 gk_rV 58 [(0, .ref a0), (1, .int a1), (2, .int ((a1 - a1 / 1000 * 1000) / 10))] [.int r24.1] r24.2 _
      refine gk_pop hC dX2_perform_58 rfl (q := 59) rfl ?_
      refine gk_goto hC dX2_perform_59 (q := 75) rfl ?_
      refine gk_pick [] rfl ?_
      exact hk75_21 r24.2
    · refine gk_aload_n hC 0 dX2_perform_62 rfl (q := 63) rfl ?_
      refine gk_iload_n hC 2 dX2_perform_63 rfl (q := 64) rfl ?_
      refine gk_callV (As := [.int ((a1 - a1 / 1000 * 1000) / 10)]) (rest := []) hC (fun l => m_X2_hangUp l hY a0 ((a1 - a1 / 1000 * 1000) / 10) M t0) ml_RX2_148 ok_X2_hangUp dX2_perform_64 t0 ⟨by decide, rfl⟩ rfl (by decide) (Nat.le_of_ble_eq_true rfl) rfl (q := 67) rfl (fun r25 => ?_)
      show gk_K Z Y 3 gk_rV 67 [(0, .ref a0), (1, .int a1), (2, .int ((a1 - a1 / 1000 * 1000) / 10))] [.int r25.1] r25.2 _
      refine gk_pop hC dX2_perform_67 rfl (q := 68) rfl ?_
      refine gk_goto hC dX2_perform_68 (q := 75) rfl ?_
      refine gk_pick [] rfl ?_
      exact hk75_21 r25.2
    · refine gk_aload_n hC 0 dX2_perform_71 rfl (q := 72) rfl ?_
      refine gk_callV (As := []) (rest := []) hC (fun l => m_X2_pass l hY a0 M t0) ml_RX2_151 ok_X2_pass dX2_perform_72 t0 ⟨by decide, rfl⟩ rfl (by decide) (Nat.le_of_ble_eq_true rfl) rfl (q := 75) rfl (fun r26 => ?_)
      show gk_K Z Y 3 gk_rV 75 [(0, .ref a0), (1, .int a1), (2, .int ((a1 - a1 / 1000 * 1000) / 10))] [] r26 _
      refine gk_pick [] rfl ?_
      exact hk75_21 r26
end
