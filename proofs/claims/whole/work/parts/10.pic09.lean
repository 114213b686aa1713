noncomputable section
def f_X8_doesAct (LN : Nat → Nat) (RF : Nat → Nat → Nat) (a0 : Nat) (a1 : Int32) (a2 : Int32) (a3 : Int32) (M : gk_M) : Option (Int32) :=
  gk_ald LN M (RF a0 0) a1 fun x22 =>
  (f_X8_isFree LN RF a0 x22 M).bind fun r23 =>
  gk_jn (fun y24 : Int32 =>
    gk_ald LN M (RF a0 1) a1 fun x27 =>
    gk_jn (fun y28 : Unit =>
      some 0) fun k188_28 =>
    gk_sw x27 1 [gk_ald LN M (RF a0 4) a1 fun x31 =>
      gk_jn (fun y32 : Int32 =>
        gk_zz y32 (some y32)) fun k156_32 =>
      gk_jn (fun y34 : Unit =>
        k156_32 1) fun k151_34 =>
      if x31 = 0 then
        k151_34 ()
      else
      gk_ald LN M (RF a0 4) a1 fun x37 =>
      gk_jn (fun y38 : Unit =>
        k156_32 0) fun k155_38 =>
      if x37 = 1 then
        if y24 = 0 then
          gk_ald LN M (RF a0 6) a2 fun x41 =>
          if x22 = x41 then
            k151_34 ()
          else
          k155_38 ()
        else
        k151_34 ()
      else
      k155_38 (),
      gk_ald LN M (RF a0 3) a1 fun x43 =>
      gk_ald LN M (RF a0 6) a2 fun x45 =>
      gk_jn (fun y46 : Int32 =>
        gk_zz y46 (some y46)) fun k115_46 =>
      gk_jn (fun y48 : Unit =>
        k115_46 0) fun k114_48 =>
      gk_jn (fun y50 : Unit =>
        gk_ald LN M (RF a0 4) a1 fun x53 =>
        (f_X8_isHour LN RF a0 x53 M).bind fun r54 =>
        if r54 = 0 then
          k114_48 ()
        else
        k115_46 1) fun k97_50 =>
      if x43 = x45 then
        k97_50 ()
      else
      gk_ald LN M (RF a0 4) a1 fun x56 =>
      if (x56 &&& 4) = 4 then
        gk_ald LN M (RF a0 3) a1 fun x58 =>
        if x58 = a3 then
          k97_50 ()
        else
        k114_48 ()
      else
      k114_48 (),
      k188_28 (),
      gk_jn (fun y59 : Int32 =>
        gk_zz y59 (some y59)) fun k187_59 =>
      gk_jn (fun y61 : Unit =>
        k187_59 0) fun k186_61 =>
      if y24 = 0 then
        k186_61 ()
      else
      gk_ald LN M (RF a0 6) a2 fun x64 =>
      if x22 = x64 then
        k186_61 ()
      else
      (f_X8_knockAt LN RF a0 x22 M).bind fun r65 =>
      if 0 ≤ r65 then
        k186_61 ()
      else
      k187_59 1]
    (k188_28 ())) fun k22_24 =>
  if r23 = 0 then
    k22_24 1
  else
  k22_24 0
set_option maxHeartbeats 4000000 in
set_option maxRecDepth 100000 in
theorem m_X8_doesAct (l : Launch) {Y : gk_Y} (hY : gk_WF Y) (a0 : Nat) (a1 : Int32) (a2 : Int32) (a3 : Int32) (M : gk_M) (t0 : gk_T Y 18 a0) : gk_MF l Y yX8_doesAct cX8_doesAct 6 (some .boolean) 2 [.ref a0, .int a1, .int a2, .int a3] M (gk_rR M) (f_X8_doesAct (gk_ln Y) (gk_rf Y) a0 a1 a2 a3 M) := by
  refine gk_met hY (plainFor_of_name (by decide)) (Nat.le_of_ble_eq_true rfl) fun Z hC hR => ?_
  show gk_K Z Y 6 (gk_rR M) 0 [(0, .ref a0), (1, .int a1), (2, .int a2), (3, .int a3)] [] M _
  unfold f_X8_doesAct
  refine gk_aload_n hC 0 dX8_doesAct_0 rfl (q := 1) rfl ?_
  refine gk_getR hC dX8_doesAct_1 fl_RX8_7 (by decide) t0 (q := 4) rfl (fun t21 => ?_)
  refine gk_iload_n hC 1 dX8_doesAct_4 rfl (q := 5) rfl ?_
  refine gk_iald hC dX8_doesAct_5 t21 (q := 6) rfl (fun x22 => ?_)
  refine gk_istore hC (lv' := [(0, .ref a0), (1, .int a1), (2, .int a2), (3, .int a3), (4, .int x22)]) [1, 2, 3, 4, 0] dX8_doesAct_6 (by decide) rfl (q := 8) rfl ?_
  refine gk_aload_n hC 0 dX8_doesAct_8 rfl (q := 9) rfl ?_
  refine gk_iload hC 4 dX8_doesAct_9 rfl (q := 11) rfl ?_
  refine gk_callV (As := [.int x22]) (rest := []) hC (fun l => m_X8_isFree l hY a0 x22 M t0) ml_RX8_148 ok_X8_isFree dX8_doesAct_11 t0 ⟨by decide, rfl⟩ rfl (by decide) (Nat.le_of_ble_eq_true rfl) rfl (q := 14) rfl (fun r23 => ?_)
  show gk_K Z Y 6 (gk_rR M) 14 [(0, .ref a0), (1, .int a1), (2, .int a2), (3, .int a3), (4, .int x22)] [.int r23] M _
  refine gk_jnR (fun k22_24 => ∀ z25 : Int32, gk_K Z Y 6 (gk_rR M) 22 [(0, .ref a0), (1, .int a1), (2, .int a2), (3, .int a3), (4, .int x22)] [.int z25] M (k22_24 z25)) (fun y24 => ?_) (fun k22_24 hk22_24 => ?_)
  · show gk_K Z Y 6 (gk_rR M) 22 [(0, .ref a0), (1, .int a1), (2, .int a2), (3, .int a3), (4, .int x22)] [.int y24] M _
    refine gk_istore hC (lv' := [(0, .ref a0), (1, .int a1), (2, .int a2), (3, .int a3), (4, .int x22), (5, .int y24)]) [1, 2, 3, 4, 5, 0] dX8_doesAct_22 (by decide) rfl (q := 24) rfl ?_
    refine gk_aload_n hC 0 dX8_doesAct_24 rfl (q := 25) rfl ?_
    refine gk_getR hC dX8_doesAct_25 fl_RX8_13 (by decide) t0 (q := 28) rfl (fun t26 => ?_)
    refine gk_iload_n hC 1 dX8_doesAct_28 rfl (q := 29) rfl ?_
    refine gk_iald hC dX8_doesAct_29 t26 (q := 30) rfl (fun x27 => ?_)
    refine gk_jnR (fun k188_28 => ∀ z29 : Unit, gk_K Z Y 6 (gk_rR M) 188 [] [] M (k188_28 z29)) (fun y28 => ?_) (fun k188_28 hk188_28 => ?_)
    · show gk_K Z Y 6 (gk_rR M) 188 [] [] M _
      refine gk_iconst hC (v := 0) dX8_doesAct_188 kc_i_0 (q := 189) rfl ?_
      exact gk_zret hC hR dX8_doesAct_189 (Or.inl rfl) rfl
    · refine gk_table hC (ts := [116, 60, 188, 157]) (tg := 188) dX8_doesAct_30 (by decide) (by decide) rfl ⟨?_, ?_, ?_, ?_, trivial⟩ ?_
      · refine gk_aload_n hC 0 dX8_doesAct_116 rfl (q := 117) rfl ?_
        refine gk_getR hC dX8_doesAct_117 fl_RX8_22 (by decide) t0 (q := 120) rfl (fun t30 => ?_)
        refine gk_iload_n hC 1 dX8_doesAct_120 rfl (q := 121) rfl ?_
        refine gk_iald hC dX8_doesAct_121 t30 (q := 122) rfl (fun x31 => ?_)
        refine gk_jnR (fun k156_32 => ∀ z33 : Int32, gk_K Z Y 6 (gk_rR M) 156 [] [.int z33] M (k156_32 z33)) (fun y32 => ?_) (fun k156_32 hk156_32 => ?_)
        · show gk_K Z Y 6 (gk_rR M) 156 [] [.int y32] M _
          exact gk_zzR (fun hv => gk_zret hC hR dX8_doesAct_156 hv rfl)
        · refine gk_jnR (fun k151_34 => ∀ z35 : Unit, gk_K Z Y 6 (gk_rR M) 151 [] [] M (k151_34 z35)) (fun y34 => ?_) (fun k151_34 hk151_34 => ?_)
          · show gk_K Z Y 6 (gk_rR M) 151 [] [] M _
            refine gk_iconst hC (v := 1) dX8_doesAct_151 kc_i_1 (q := 152) rfl ?_
            refine gk_goto hC dX8_doesAct_152 (q := 156) rfl ?_
            exact hk156_32 1
          · refine gk_if_eq hC dX8_doesAct_122 (tg := 151) rfl (q := 125) rfl ?_ ?_
            · refine gk_pick [] rfl ?_
              exact hk151_34 ()
            · refine gk_aload_n hC 0 dX8_doesAct_125 rfl (q := 126) rfl ?_
              refine gk_getR hC dX8_doesAct_126 fl_RX8_22 (by decide) t0 (q := 129) rfl (fun t36 => ?_)
              refine gk_iload_n hC 1 dX8_doesAct_129 rfl (q := 130) rfl ?_
              refine gk_iald hC dX8_doesAct_130 t36 (q := 131) rfl (fun x37 => ?_)
              refine gk_iconst hC (v := 1) dX8_doesAct_131 kc_i_1 (q := 132) rfl ?_
              refine gk_jnR (fun k155_38 => ∀ z39 : Unit, gk_K Z Y 6 (gk_rR M) 155 [] [] M (k155_38 z39)) (fun y38 => ?_) (fun k155_38 hk155_38 => ?_)
              · show gk_K Z Y 6 (gk_rR M) 155 [] [] M _
                refine gk_iconst hC (v := 0) dX8_doesAct_155 kc_i_0 (q := 156) rfl ?_
                exact hk156_32 0
              · refine gk_icmp_ne hC dX8_doesAct_132 (tg := 155) rfl (q := 135) rfl ?_ ?_
                · refine gk_iload hC 5 dX8_doesAct_135 rfl (q := 137) rfl ?_
                  refine gk_if_ne hC dX8_doesAct_137 (tg := 151) rfl (q := 140) rfl ?_ ?_
                  · refine gk_iload hC 4 dX8_doesAct_140 rfl (q := 142) rfl ?_
                    refine gk_aload_n hC 0 dX8_doesAct_142 rfl (q := 143) rfl ?_
                    refine gk_getR hC dX8_doesAct_143 fl_RX8_28 (by decide) t0 (q := 146) rfl (fun t40 => ?_)
                    refine gk_iload_n hC 2 dX8_doesAct_146 rfl (q := 147) rfl ?_
                    refine gk_iald hC dX8_doesAct_147 t40 (q := 148) rfl (fun x41 => ?_)
                    refine gk_icmp_ne hC dX8_doesAct_148 (tg := 155) rfl (q := 151) rfl ?_ ?_
                    · refine gk_pick [] rfl ?_
                      exact hk151_34 ()
                    · refine gk_pick [] rfl ?_
                      exact hk155_38 ()
                  · refine gk_pick [] rfl ?_
                    exact hk151_34 ()
                · refine gk_pick [] rfl ?_
                  exact hk155_38 ()
      · refine gk_aload_n hC 0 dX8_doesAct_60 rfl (q := 61) rfl ?_
        refine gk_getR hC dX8_doesAct_61 fl_RX8_19 (by decide) t0 (q := 64) rfl (fun t42 => ?_)
        refine gk_iload_n hC 1 dX8_doesAct_64 rfl (q := 65) rfl ?_
        refine gk_iald hC dX8_doesAct_65 t42 (q := 66) rfl (fun x43 => ?_)
        refine gk_aload_n hC 0 dX8_doesAct_66 rfl (q := 67) rfl ?_
        refine gk_getR hC dX8_doesAct_67 fl_RX8_28 (by decide) t0 (q := 70) rfl (fun t44 => ?_)
        refine gk_iload_n hC 2 dX8_doesAct_70 rfl (q := 71) rfl ?_
        refine gk_iald hC dX8_doesAct_71 t44 (q := 72) rfl (fun x45 => ?_)
        refine gk_jnR (fun k115_46 => ∀ z47 : Int32, gk_K Z Y 6 (gk_rR M) 115 [] [.int z47] M (k115_46 z47)) (fun y46 => ?_) (fun k115_46 hk115_46 => ?_)
        · show gk_K Z Y 6 (gk_rR M) 115 [] [.int y46] M _
          exact gk_zzR (fun hv => gk_zret hC hR dX8_doesAct_115 hv rfl)
        · refine gk_jnR (fun k114_48 => ∀ z49 : Unit, gk_K Z Y 6 (gk_rR M) 114 [] [] M (k114_48 z49)) (fun y48 => ?_) (fun k114_48 hk114_48 => ?_)
          · show gk_K Z Y 6 (gk_rR M) 114 [] [] M _
            refine gk_iconst hC (v := 0) dX8_doesAct_114 kc_i_0 (q := 115) rfl ?_
            exact hk115_46 0
          · refine gk_jnR (fun k97_50 => ∀ z51 : Unit, gk_K Z Y 6 (gk_rR M) 97 [(0, .ref a0), (1, .int a1)] [] M (k97_50 z51)) (fun y50 => ?_) (fun k97_50 hk97_50 => ?_)
            · show gk_K Z Y 6 (gk_rR M) 97 [(0, .ref a0), (1, .int a1)] [] M _
              refine gk_aload_n hC 0 dX8_doesAct_97 rfl (q := 98) rfl ?_
              refine gk_aload_n hC 0 dX8_doesAct_98 rfl (q := 99) rfl ?_
              refine gk_getR hC dX8_doesAct_99 fl_RX8_22 (by decide) t0 (q := 102) rfl (fun t52 => ?_)
              refine gk_iload_n hC 1 dX8_doesAct_102 rfl (q := 103) rfl ?_
              refine gk_iald hC dX8_doesAct_103 t52 (q := 104) rfl (fun x53 => ?_)
              refine gk_callV (As := [.int x53]) (rest := []) hC (fun l => m_X8_isHour l hY a0 x53 M t0) ml_RX8_151 ok_X8_isHour dX8_doesAct_104 t0 ⟨by decide, rfl⟩ rfl (by decide) (Nat.le_of_ble_eq_true rfl) rfl (q := 107) rfl (fun r54 => ?_)
              show gk_K Z Y 6 (gk_rR M) 107 [(0, .ref a0), (1, .int a1)] [.int r54] M _
              refine gk_if_eq hC dX8_doesAct_107 (tg := 114) rfl (q := 110) rfl ?_ ?_
              · refine gk_pick [] rfl ?_
                exact hk114_48 ()
              · refine gk_iconst hC (v := 1) dX8_doesAct_110 kc_i_1 (q := 111) rfl ?_
                refine gk_goto hC dX8_doesAct_111 (q := 115) rfl ?_
                refine gk_pick [] rfl ?_
                exact hk115_46 1
            · refine gk_icmp_eq hC dX8_doesAct_72 (tg := 97) rfl (q := 75) rfl ?_ ?_
              · refine gk_pick [0, 1] rfl ?_
                exact hk97_50 ()
              · refine gk_aload_n hC 0 dX8_doesAct_75 rfl (q := 76) rfl ?_
                refine gk_getR hC dX8_doesAct_76 fl_RX8_22 (by decide) t0 (q := 79) rfl (fun t55 => ?_)
                refine gk_iload_n hC 1 dX8_doesAct_79 rfl (q := 80) rfl ?_
                refine gk_iald hC dX8_doesAct_80 t55 (q := 81) rfl (fun x56 => ?_)
                refine gk_iconst hC (v := 4) dX8_doesAct_81 kc_i_4 (q := 82) rfl ?_
                refine gk_iand hC dX8_doesAct_82 (q := 83) rfl ?_
                refine gk_iconst hC (v := 4) dX8_doesAct_83 kc_i_4 (q := 84) rfl ?_
                refine gk_icmp_ne hC dX8_doesAct_84 (tg := 114) rfl (q := 87) rfl ?_ ?_
                · refine gk_aload_n hC 0 dX8_doesAct_87 rfl (q := 88) rfl ?_
                  refine gk_getR hC dX8_doesAct_88 fl_RX8_19 (by decide) t0 (q := 91) rfl (fun t57 => ?_)
                  refine gk_iload_n hC 1 dX8_doesAct_91 rfl (q := 92) rfl ?_
                  refine gk_iald hC dX8_doesAct_92 t57 (q := 93) rfl (fun x58 => ?_)
                  refine gk_iload_n hC 3 dX8_doesAct_93 rfl (q := 94) rfl ?_
                  refine gk_icmp_ne hC dX8_doesAct_94 (tg := 114) rfl (q := 97) rfl ?_ ?_
                  · refine gk_pick [0, 1] rfl ?_
                    exact hk97_50 ()
                  · refine gk_pick [] rfl ?_
                    exact hk114_48 ()
                · refine gk_pick [] rfl ?_
                  exact hk114_48 ()
      · refine gk_pick [] rfl ?_
        exact hk188_28 ()
      · refine gk_iload hC 5 dX8_doesAct_157 rfl (q := 159) rfl ?_
        refine gk_jnR (fun k187_59 => ∀ z60 : Int32, gk_K Z Y 6 (gk_rR M) 187 [] [.int z60] M (k187_59 z60)) (fun y59 => ?_) (fun k187_59 hk187_59 => ?_)
        · show gk_K Z Y 6 (gk_rR M) 187 [] [.int y59] M _
          exact gk_zzR (fun hv => gk_zret hC hR dX8_doesAct_187 hv rfl)
        · refine gk_jnR (fun k186_61 => ∀ z62 : Unit, gk_K Z Y 6 (gk_rR M) 186 [] [] M (k186_61 z62)) (fun y61 => ?_) (fun k186_61 hk186_61 => ?_)
          · show gk_K Z Y 6 (gk_rR M) 186 [] [] M _
            refine gk_iconst hC (v := 0) dX8_doesAct_186 kc_i_0 (q := 187) rfl ?_
            exact hk187_59 0
          · refine gk_if_eq hC dX8_doesAct_159 (tg := 186) rfl (q := 162) rfl ?_ ?_
            · refine gk_pick [] rfl ?_
              exact hk186_61 ()
            · refine gk_iload hC 4 dX8_doesAct_162 rfl (q := 164) rfl ?_
              refine gk_aload_n hC 0 dX8_doesAct_164 rfl (q := 165) rfl ?_
              refine gk_getR hC dX8_doesAct_165 fl_RX8_28 (by decide) t0 (q := 168) rfl (fun t63 => ?_)
              refine gk_iload_n hC 2 dX8_doesAct_168 rfl (q := 169) rfl ?_
              refine gk_iald hC dX8_doesAct_169 t63 (q := 170) rfl (fun x64 => ?_)
              refine gk_icmp_eq hC dX8_doesAct_170 (tg := 186) rfl (q := 173) rfl ?_ ?_
              · refine gk_pick [] rfl ?_
                exact hk186_61 ()
              · refine gk_aload_n hC 0 dX8_doesAct_173 rfl (q := 174) rfl ?_
                refine gk_iload hC 4 dX8_doesAct_174 rfl (q := 176) rfl ?_
                refine gk_callV (As := [.int x22]) (rest := []) hC (fun l => m_X8_knockAt l hY a0 x22 M t0) ml_RX8_154 ok_X8_knockAt dX8_doesAct_176 t0 ⟨by decide, rfl⟩ rfl (by decide) (Nat.le_of_ble_eq_true rfl) rfl (q := 179) rfl (fun r65 => ?_)
                show gk_K Z Y 6 (gk_rR M) 179 [(0, .ref a0), (1, .int a1), (2, .int a2), (3, .int a3), (4, .int x22), (5, .int y24)] [.int r65] M _
                refine gk_if_ge hC dX8_doesAct_179 (tg := 186) rfl (q := 182) rfl ?_ ?_
                · refine gk_pick [] rfl ?_
                  exact hk186_61 ()
                · refine gk_iconst hC (v := 1) dX8_doesAct_182 kc_i_1 (q := 183) rfl ?_
                  refine gk_goto hC dX8_doesAct_183 (q := 187) rfl ?_
                  refine gk_pick [] rfl ?_
                  exact hk187_59 1
      · refine gk_pick [] rfl ?_
        exact hk188_28 ()
  · refine gk_if_ne hC dX8_doesAct_14 (tg := 21) rfl (q := 17) rfl ?_ ?_
    · refine gk_iconst hC (v := 1) dX8_doesAct_17 kc_i_1 (q := 18) rfl ?_
      refine gk_goto hC dX8_doesAct_18 (q := 22) rfl ?_
      exact hk22_24 1
    · refine gk_iconst hC (v := 0) dX8_doesAct_21 kc_i_0 (q := 22) rfl ?_
      exact hk22_24 0
def lp_X8_actsAt_8 (LN : Nat → Nat) (RF : Nat → Nat → Nat) (v0 : Nat) (v1 : Int32) (v2 : Int32) (v3 : Int32) (M : gk_M) (k36 : Int32 → Option (Int32)) : Nat → Int32 → Option (Int32)
  | 0, _ => none
  | n + 1, x =>
    if x < 0 then
      k36 x
    else
    (f_X8_doesAct LN RF v0 x v1 v3 M).bind fun r1 =>
    if r1 = 0 then
      (f_X8_wishBehind LN RF v0 v2 x M).bind fun r2 =>
      lp_X8_actsAt_8 LN RF v0 v1 v2 v3 M k36 n r2
    else
    k36 x
def f_X8_actsAt (LN : Nat → Nat) (RF : Nat → Nat → Nat) (a0 : Nat) (a1 : Int32) (a2 : Int32) (a3 : Int32) (M : gk_M) : Option (Int32) :=
  (f_X8_wishBehind LN RF a0 a2 (-1) M).bind fun r21 =>
  gk_jn (fun y22 : Int32 =>
    some y22) fun k36_22 =>
  lp_X8_actsAt_8 LN RF a0 a1 a2 a3 M k36_22 gk_fuel r21
set_option maxHeartbeats 4000000 in
set_option maxRecDepth 100000 in
theorem lk_X8_actsAt_8 {Z : gk_Z} {Y : gk_Y} (hY : gk_WF Y) (hC : gk_C Z Y cX8_actsAt 5 RX8 3) (hR : gk_R Z Y (some .int)) (v0 : Nat) (v1 : Int32) (v2 : Int32) (v3 : Int32) (M : gk_M) (tv0 : gk_T Y 18 v0) (k36 : Int32 → Option (Int32)) (hk36 : ∀ z24 : Int32, gk_K Z Y 5 (gk_rR M) 36 [(4, .int z24)] [] M (k36 z24)) : ∀ (n : Nat) (x : Int32), gk_K Z Y 5 (gk_rR M) 8 [(0, .ref v0), (1, .int v1), (2, .int v2), (3, .int v3), (4, .int x)] [] M (lp_X8_actsAt_8 (gk_ln Y) (gk_rf Y) v0 v1 v2 v3 M k36 n x) := by
  intro n
  induction n with
  | zero => intro x; exact gk_none
  | succ n ih =>
    intro x
    rw [lp_X8_actsAt_8]
    refine gk_iload hC 4 dX8_actsAt_8 rfl (q := 10) rfl ?_
    refine gk_if_lt hC dX8_actsAt_10 (tg := 36) rfl (q := 13) rfl ?_ ?_
    · refine gk_pick [4] rfl ?_
      exact hk36 x
    · refine gk_aload_n hC 0 dX8_actsAt_13 rfl (q := 14) rfl ?_
      refine gk_iload hC 4 dX8_actsAt_14 rfl (q := 16) rfl ?_
      refine gk_iload_n hC 1 dX8_actsAt_16 rfl (q := 17) rfl ?_
      refine gk_iload_n hC 3 dX8_actsAt_17 rfl (q := 18) rfl ?_
      refine gk_callV (As := [.int x, .int v1, .int v3]) (rest := []) hC (fun l => m_X8_doesAct l hY v0 x v1 v3 M tv0) ml_RX8_161 ok_X8_doesAct dX8_actsAt_18 tv0 ⟨by decide, rfl⟩ rfl (by decide) (Nat.le_of_ble_eq_true rfl) rfl (q := 21) rfl (fun r1 => ?_)
      show gk_K Z Y 5 (gk_rR M) 21 [(0, .ref v0), (1, .int v1), (2, .int v2), (3, .int v3), (4, .int x)] [.int r1] M _
      refine gk_if_ne hC dX8_actsAt_21 (tg := 36) rfl (q := 24) rfl ?_ ?_
      · refine gk_aload_n hC 0 dX8_actsAt_24 rfl (q := 25) rfl ?_
        refine gk_iload_n hC 2 dX8_actsAt_25 rfl (q := 26) rfl ?_
        refine gk_iload hC 4 dX8_actsAt_26 rfl (q := 28) rfl ?_
        refine gk_callV (As := [.int v2, .int x]) (rest := []) hC (fun l => m_X8_wishBehind l hY v0 v2 x M tv0) ml_RX8_157 ok_X8_wishBehind dX8_actsAt_28 tv0 ⟨by decide, rfl⟩ rfl (by decide) (Nat.le_of_ble_eq_true rfl) rfl (q := 31) rfl (fun r2 => ?_)
        show gk_K Z Y 5 (gk_rR M) 31 [(0, .ref v0), (1, .int v1), (2, .int v2), (3, .int v3), (4, .int x)] [.int r2] M _
        refine gk_istore hC (lv' := [(0, .ref v0), (1, .int v1), (2, .int v2), (3, .int v3), (4, .int r2)]) [1, 2, 3, 4, 0] dX8_actsAt_31 (by decide) rfl (q := 33) rfl ?_
        refine gk_goto hC dX8_actsAt_33 (q := 8) rfl ?_
        exact ih r2
      · refine gk_pick [4] rfl ?_
        exact hk36 x
set_option maxHeartbeats 4000000 in
set_option maxRecDepth 100000 in
theorem m_X8_actsAt (l : Launch) {Y : gk_Y} (hY : gk_WF Y) (a0 : Nat) (a1 : Int32) (a2 : Int32) (a3 : Int32) (M : gk_M) (t0 : gk_T Y 18 a0) : gk_MF l Y yX8_actsAt cX8_actsAt 5 (some .int) 3 [.ref a0, .int a1, .int a2, .int a3] M (gk_rR M) (f_X8_actsAt (gk_ln Y) (gk_rf Y) a0 a1 a2 a3 M) := by
  refine gk_met hY (plainFor_of_name (by decide)) (Nat.le_of_ble_eq_true rfl) fun Z hC hR => ?_
  show gk_K Z Y 5 (gk_rR M) 0 [(0, .ref a0), (1, .int a1), (2, .int a2), (3, .int a3)] [] M _
  unfold f_X8_actsAt
  refine gk_aload_n hC 0 dX8_actsAt_0 rfl (q := 1) rfl ?_
  refine gk_iload_n hC 2 dX8_actsAt_1 rfl (q := 2) rfl ?_
  refine gk_iconst hC (v := (-1)) dX8_actsAt_2 kc_i_m1 (q := 3) rfl ?_
  refine gk_callV (As := [.int a2, .int (-1)]) (rest := []) hC (fun l => m_X8_wishBehind l hY a0 a2 (-1) M t0) ml_RX8_157 ok_X8_wishBehind dX8_actsAt_3 t0 ⟨by decide, rfl⟩ rfl (by decide) (Nat.le_of_ble_eq_true rfl) rfl (q := 6) rfl (fun r21 => ?_)
  show gk_K Z Y 5 (gk_rR M) 6 [(0, .ref a0), (1, .int a1), (2, .int a2), (3, .int a3)] [.int r21] M _
  refine gk_istore hC (lv' := [(0, .ref a0), (1, .int a1), (2, .int a2), (3, .int a3), (4, .int r21)]) [1, 2, 3, 4, 0] dX8_actsAt_6 (by decide) rfl (q := 8) rfl ?_
  refine gk_jnR (fun k36_22 => ∀ z23 : Int32, gk_K Z Y 5 (gk_rR M) 36 [(4, .int z23)] [] M (k36_22 z23)) (fun y22 => ?_) (fun k36_22 hk36_22 => ?_)
  · show gk_K Z Y 5 (gk_rR M) 36 [(4, .int y22)] [] M _
    refine gk_iload hC 0 dX8_actsAt_36 rfl (q := 38) rfl ?_
    exact gk_iret hC hR dX8_actsAt_38 rfl
  · exact lk_X8_actsAt_8 hY hC hR a0 a1 a2 a3 M t0 k36_22 hk36_22 gk_fuel r21
def f_X8_comesTo (LN : Nat → Nat) (RF : Nat → Nat → Nat) (a0 : Nat) (a1 : Int32) (a2 : Int32) (a3 : Int32) (M : gk_M) : Option (gk_M) :=
  gk_ald LN M (RF a0 9) a1 fun x22 =>
  gk_ast LN M (RF a0 10) ((9 * a1) + x22) a2 fun M24 =>
  gk_ald LN M24 (RF a0 9) a1 fun x27 =>
  gk_jn (fun y28 : Int32 =>
    gk_ast LN M24 (RF a0 11) ((9 * a1) + x22) y28 fun M30 =>
    gk_ald LN M30 (RF a0 9) a1 fun x32 =>
    gk_ast LN M30 (RF a0 9) a1 (x32 + 1) fun M33 =>
    some M33) fun k51_28 =>
  gk_jn (fun y34 : Unit =>
    k51_28 a3) fun k50_34 =>
  if x27 = 0 then
    (f_X8_has LN RF a0 a2 7 M24).bind fun r36 =>
    if r36 = 0 then
      k50_34 ()
    else
    k51_28 a2
  else
  k50_34 ()
set_option maxHeartbeats 4000000 in
set_option maxRecDepth 100000 in
theorem m_X8_comesTo (l : Launch) {Y : gk_Y} (hY : gk_WF Y) (a0 : Nat) (a1 : Int32) (a2 : Int32) (a3 : Int32) (M : gk_M) (t0 : gk_T Y 18 a0) : gk_MF l Y yX8_comesTo cX8_comesTo 5 none 1 [.ref a0, .int a1, .int a2, .int a3] M gk_rV (f_X8_comesTo (gk_ln Y) (gk_rf Y) a0 a1 a2 a3 M) := by
  refine gk_met hY (plainFor_of_name (by decide)) (Nat.le_of_ble_eq_true rfl) fun Z hC hR => ?_
  show gk_K Z Y 5 gk_rV 0 [(0, .ref a0), (1, .int a1), (2, .int a2), (3, .int a3)] [] M _
  unfold f_X8_comesTo
  refine gk_bipush hC (v := 9) dX8_comesTo_0 kc_b_9 (q := 2) rfl ?_
  refine gk_iload_n hC 1 dX8_comesTo_2 rfl (q := 3) rfl ?_
  refine gk_imul hC dX8_comesTo_3 (q := 4) rfl ?_
  refine gk_aload_n hC 0 dX8_comesTo_4 rfl (q := 5) rfl ?_
  refine gk_getR hC dX8_comesTo_5 fl_RX8_37 (by decide) t0 (q := 8) rfl (fun t21 => ?_)
  refine gk_iload_n hC 1 dX8_comesTo_8 rfl (q := 9) rfl ?_
  refine gk_iald hC dX8_comesTo_9 t21 (q := 10) rfl (fun x22 => ?_)
  refine gk_iadd hC dX8_comesTo_10 (q := 11) rfl ?_
  refine gk_istore hC (lv' := [(0, .ref a0), (1, .int a1), (2, .int a2), (3, .int a3), (4, .int ((9 * a1) + x22))]) [1, 2, 3, 4, 0] dX8_comesTo_11 (by decide) rfl (q := 13) rfl ?_
  refine gk_aload_n hC 0 dX8_comesTo_13 rfl (q := 14) rfl ?_
  refine gk_getR hC dX8_comesTo_14 fl_RX8_40 (by decide) t0 (q := 17) rfl (fun t23 => ?_)
  refine gk_iload hC 4 dX8_comesTo_17 rfl (q := 19) rfl ?_
  refine gk_iload_n hC 2 dX8_comesTo_19 rfl (q := 20) rfl ?_
  refine gk_iast hC dX8_comesTo_20 t23 (q := 21) rfl (fun M24 => ?_)
  refine gk_aload_n hC 0 dX8_comesTo_21 rfl (q := 22) rfl ?_
  refine gk_getR hC dX8_comesTo_22 fl_RX8_43 (by decide) t0 (q := 25) rfl (fun t25 => ?_)
  refine gk_iload hC 4 dX8_comesTo_25 rfl (q := 27) rfl ?_
  refine gk_aload_n hC 0 dX8_comesTo_27 rfl (q := 28) rfl ?_
  refine gk_getR hC dX8_comesTo_28 fl_RX8_37 (by decide) t0 (q := 31) rfl (fun t26 => ?_)
  refine gk_iload_n hC 1 dX8_comesTo_31 rfl (q := 32) rfl ?_
  refine gk_iald hC dX8_comesTo_32 t26 (q := 33) rfl (fun x27 => ?_)
  refine gk_jnR (fun k51_28 => ∀ z29 : Int32, gk_K Z Y 5 gk_rV 51 [(0, .ref a0), (1, .int a1)] [.int z29, .int ((9 * a1) + x22), .ref ((gk_rf Y) a0 11)] M24 (k51_28 z29)) (fun y28 => ?_) (fun k51_28 hk51_28 => ?_)
  · show gk_K Z Y 5 gk_rV 51 [(0, .ref a0), (1, .int a1)] [.int y28, .int ((9 * a1) + x22), .ref ((gk_rf Y) a0 11)] M24 _
    refine gk_iast hC dX8_comesTo_51 t25 (q := 52) rfl (fun M30 => ?_)
    refine gk_aload_n hC 0 dX8_comesTo_52 rfl (q := 53) rfl ?_
    refine gk_getR hC dX8_comesTo_53 fl_RX8_37 (by decide) t0 (q := 56) rfl (fun t31 => ?_)
    refine gk_iload_n hC 1 dX8_comesTo_56 rfl (q := 57) rfl ?_
    refine gk_dup2 hC dX8_comesTo_57 rfl rfl (q := 58) rfl ?_
    refine gk_iald hC dX8_comesTo_58 t31 (q := 59) rfl (fun x32 => ?_)
    refine gk_iconst hC (v := 1) dX8_comesTo_59 kc_i_1 (q := 60) rfl ?_
    refine gk_iadd hC dX8_comesTo_60 (q := 61) rfl ?_
    refine gk_iast hC dX8_comesTo_61 t31 (q := 62) rfl (fun M33 => ?_)
    exact gk_vret hC hR dX8_comesTo_62 rfl
  · refine gk_jnR (fun k50_34 => ∀ z35 : Unit, gk_K Z Y 5 gk_rV 50 [(0, .ref a0), (1, .int a1), (3, .int a3)] [.int ((9 * a1) + x22), .ref ((gk_rf Y) a0 11)] M24 (k50_34 z35)) (fun y34 => ?_) (fun k50_34 hk50_34 => ?_)
    · show gk_K Z Y 5 gk_rV 50 [(0, .ref a0), (1, .int a1), (3, .int a3)] [.int ((9 * a1) + x22), .ref ((gk_rf Y) a0 11)] M24 _
      refine gk_iload_n hC 2 dX8_comesTo_50 rfl (q := 51) rfl ?_
      refine gk_pick [0, 1] rfl ?_
      exact hk51_28 a3
    · refine gk_if_ne hC dX8_comesTo_33 (tg := 50) rfl (q := 36) rfl ?_ ?_
      · refine gk_aload_n hC 0 dX8_comesTo_36 rfl (q := 37) rfl ?_
        refine gk_iload_n hC 2 dX8_comesTo_37 rfl (q := 38) rfl ?_
        refine gk_bipush hC (v := 7) dX8_comesTo_38 kc_b_7 (q := 40) rfl ?_
        refine gk_callV (As := [.int a2, .int 7]) (rest := [.int ((9 * a1) + x22), .ref ((gk_rf Y) a0 11)]) hC (fun l => m_X8_has l hY a0 a2 7 M24 t0) ml_RX8_165 ok_X8_has dX8_comesTo_40 t0 ⟨by decide, rfl⟩ rfl (by decide) (Nat.le_of_ble_eq_true rfl) rfl (q := 43) rfl (fun r36 => ?_)
        show gk_K Z Y 5 gk_rV 43 [(0, .ref a0), (1, .int a1), (2, .int a2), (3, .int a3), (4, .int ((9 * a1) + x22))] [.int r36, .int ((9 * a1) + x22), .ref ((gk_rf Y) a0 11)] M24 _
        refine gk_if_eq hC dX8_comesTo_43 (tg := 50) rfl (q := 46) rfl ?_ ?_
        · refine gk_pick [0, 1, 3] rfl ?_
          exact hk50_34 ()
        · refine gk_iload_n hC 2 dX8_comesTo_46 rfl (q := 47) rfl ?_
          refine gk_goto hC dX8_comesTo_47 (q := 51) rfl ?_
          refine gk_pick [0, 1] rfl ?_
          exact hk51_28 a2
      · refine gk_pick [0, 1, 3] rfl ?_
        exact hk50_34 ()
def lp_X8_wishesBack_14 (LN : Nat → Nat) (RF : Nat → Nat → Nat) (v0 : Nat) (v1 : Int32) (v2 : Int32) (M : gk_M) (k51 : Unit → Option (gk_M)) : Nat → Int32 → Option (gk_M)
  | 0, _ => none
  | n + 1, x =>
    gk_ald LN M (RF v0 20) 4 fun x2 =>
    if x2 ≤ x then
      k51 ()
    else
    gk_ald LN M (RF v0 17) x fun x4 =>
    gk_jn (fun y5 : Unit =>
      lp_X8_wishesBack_14 LN RF v0 v1 v2 M k51 n (x + 1)) fun k45_5 =>
    if x4 = v1 then
      gk_ald LN M (RF v0 18) x fun x8 =>
      if x8 = v2 then
        some M
      else
      k45_5 ()
    else
    k45_5 ()
def f_X8_wishesBack (LN : Nat → Nat) (RF : Nat → Nat → Nat) (a0 : Nat) (a1 : Int32) (a2 : Int32) (M : gk_M) : Option (gk_M) :=
  gk_ald LN M (RF a0 20) 4 fun x22 =>
  if x22 = 8 then
    some M
  else
  gk_jn (fun y23 : Unit =>
    gk_ald LN M (RF a0 20) 4 fun x27 =>
    gk_ast LN M (RF a0 17) x27 a1 fun M28 =>
    gk_ald LN M28 (RF a0 20) 4 fun x31 =>
    gk_ast LN M28 (RF a0 18) x31 a2 fun M32 =>
    gk_ald LN M32 (RF a0 20) 4 fun x34 =>
    gk_ast LN M32 (RF a0 20) 4 (x34 + 1) fun M35 =>
    some M35) fun k51_23 =>
  lp_X8_wishesBack_14 LN RF a0 a1 a2 M k51_23 gk_fuel 0
set_option maxHeartbeats 4000000 in
set_option maxRecDepth 100000 in
theorem lk_X8_wishesBack_14 {Z : gk_Z} {Y : gk_Y} (hY : gk_WF Y) (hC : gk_C Z Y cX8_wishesBack 4 RX8 0) (hR : gk_R Z Y none) (v0 : Nat) (v1 : Int32) (v2 : Int32) (M : gk_M) (tv0 : gk_T Y 18 v0) (k51 : Unit → Option (gk_M)) (hk51 : ∀ z36 : Unit, gk_K Z Y 4 gk_rV 51 [(0, .ref v0), (1, .int v1), (2, .int v2)] [] M (k51 z36)) : ∀ (n : Nat) (x : Int32), gk_K Z Y 4 gk_rV 14 [(0, .ref v0), (1, .int v1), (2, .int v2), (3, .int x)] [] M (lp_X8_wishesBack_14 (gk_ln Y) (gk_rf Y) v0 v1 v2 M k51 n x) := by
  intro n
  induction n with
  | zero => intro x; exact gk_none
  | succ n ih =>
    intro x
    rw [lp_X8_wishesBack_14]
    refine gk_iload_n hC 3 dX8_wishesBack_14 rfl (q := 15) rfl ?_
    refine gk_aload_n hC 0 dX8_wishesBack_15 rfl (q := 16) rfl ?_
    refine gk_getR hC dX8_wishesBack_16 fl_RX8_70 (by decide) tv0 (q := 19) rfl (fun t1 => ?_)
    refine gk_iconst hC (v := 4) dX8_wishesBack_19 kc_i_4 (q := 20) rfl ?_
    refine gk_iald hC dX8_wishesBack_20 t1 (q := 21) rfl (fun x2 => ?_)
    refine gk_icmp_ge hC dX8_wishesBack_21 (tg := 51) rfl (q := 24) rfl ?_ ?_
    · refine gk_pick [0, 1, 2] rfl ?_
      exact hk51 ()
    · refine gk_aload_n hC 0 dX8_wishesBack_24 rfl (q := 25) rfl ?_
      refine gk_getR hC dX8_wishesBack_25 fl_RX8_61 (by decide) tv0 (q := 28) rfl (fun t3 => ?_)
      refine gk_iload_n hC 3 dX8_wishesBack_28 rfl (q := 29) rfl ?_
      refine gk_iald hC dX8_wishesBack_29 t3 (q := 30) rfl (fun x4 => ?_)
      refine gk_iload_n hC 1 dX8_wishesBack_30 rfl (q := 31) rfl ?_
      refine gk_jnR (fun k45_5 => ∀ z6 : Unit, gk_K Z Y 4 gk_rV 45 [(0, .ref v0), (1, .int v1), (2, .int v2), (3, .int x)] [] M (k45_5 z6)) (fun y5 => ?_) (fun k45_5 hk45_5 => ?_)
      · show gk_K Z Y 4 gk_rV 45 [(0, .ref v0), (1, .int v1), (2, .int v2), (3, .int x)] [] M _
        refine gk_iinc hC (v := 1) 3 (lv' := [(0, .ref v0), (1, .int v1), (2, .int v2), (3, .int (x + 1))]) [1, 2, 3, 0] dX8_wishesBack_45 rfl kc_i_1 (by decide) rfl (q := 48) rfl ?_
        refine gk_goto hC dX8_wishesBack_48 (q := 14) rfl ?_
        exact ih (x + 1)
      · refine gk_icmp_ne hC dX8_wishesBack_31 (tg := 45) rfl (q := 34) rfl ?_ ?_
        · refine gk_aload_n hC 0 dX8_wishesBack_34 rfl (q := 35) rfl ?_
          refine gk_getR hC dX8_wishesBack_35 fl_RX8_64 (by decide) tv0 (q := 38) rfl (fun t7 => ?_)
          refine gk_iload_n hC 3 dX8_wishesBack_38 rfl (q := 39) rfl ?_
          refine gk_iald hC dX8_wishesBack_39 t7 (q := 40) rfl (fun x8 => ?_)
          refine gk_iload_n hC 2 dX8_wishesBack_40 rfl (q := 41) rfl ?_
          refine gk_icmp_ne hC dX8_wishesBack_41 (tg := 45) rfl (q := 44) rfl ?_ ?_
          · exact gk_vret hC hR dX8_wishesBack_44 rfl
          · exact hk45_5 ()
        · exact hk45_5 ()
set_option maxHeartbeats 4000000 in
set_option maxRecDepth 100000 in
theorem m_X8_wishesBack (l : Launch) {Y : gk_Y} (hY : gk_WF Y) (a0 : Nat) (a1 : Int32) (a2 : Int32) (M : gk_M) (t0 : gk_T Y 18 a0) : gk_MF l Y yX8_wishesBack cX8_wishesBack 4 none 0 [.ref a0, .int a1, .int a2] M gk_rV (f_X8_wishesBack (gk_ln Y) (gk_rf Y) a0 a1 a2 M) := by
  refine gk_met hY (plainFor_of_name (by decide)) (Nat.le_of_ble_eq_true rfl) fun Z hC hR => ?_
  show gk_K Z Y 4 gk_rV 0 [(0, .ref a0), (1, .int a1), (2, .int a2)] [] M _
  unfold f_X8_wishesBack
  refine gk_aload_n hC 0 dX8_wishesBack_0 rfl (q := 1) rfl ?_
  refine gk_getR hC dX8_wishesBack_1 fl_RX8_70 (by decide) t0 (q := 4) rfl (fun t21 => ?_)
  refine gk_iconst hC (v := 4) dX8_wishesBack_4 kc_i_4 (q := 5) rfl ?_
  refine gk_iald hC dX8_wishesBack_5 t21 (q := 6) rfl (fun x22 => ?_)
  refine gk_bipush hC (v := 8) dX8_wishesBack_6 kc_b_8 (q := 8) rfl ?_
  refine gk_icmp_ne hC dX8_wishesBack_8 (tg := 12) rfl (q := 11) rfl ?_ ?_
  · exact gk_vret hC hR dX8_wishesBack_11 rfl
  · refine gk_iconst hC (v := 0) dX8_wishesBack_12 kc_i_0 (q := 13) rfl ?_
    refine gk_istore_n hC (lv' := [(0, .ref a0), (1, .int a1), (2, .int a2), (3, .int 0)]) [1, 2, 3, 0] dX8_wishesBack_13 (by decide) rfl (q := 14) rfl ?_
    refine gk_jnR (fun k51_23 => ∀ z24 : Unit, gk_K Z Y 4 gk_rV 51 [(0, .ref a0), (1, .int a1), (2, .int a2)] [] M (k51_23 z24)) (fun y23 => ?_) (fun k51_23 hk51_23 => ?_)
    · show gk_K Z Y 4 gk_rV 51 [(0, .ref a0), (1, .int a1), (2, .int a2)] [] M _
      refine gk_aload_n hC 0 dX8_wishesBack_51 rfl (q := 52) rfl ?_
      refine gk_getR hC dX8_wishesBack_52 fl_RX8_61 (by decide) t0 (q := 55) rfl (fun t25 => ?_)
      refine gk_aload_n hC 0 dX8_wishesBack_55 rfl (q := 56) rfl ?_
      refine gk_getR hC dX8_wishesBack_56 fl_RX8_70 (by decide) t0 (q := 59) rfl (fun t26 => ?_)
      refine gk_iconst hC (v := 4) dX8_wishesBack_59 kc_i_4 (q := 60) rfl ?_
      refine gk_iald hC dX8_wishesBack_60 t26 (q := 61) rfl (fun x27 => ?_)
      refine gk_iload_n hC 1 dX8_wishesBack_61 rfl (q := 62) rfl ?_
      refine gk_iast hC dX8_wishesBack_62 t25 (q := 63) rfl (fun M28 => ?_)
      refine gk_aload_n hC 0 dX8_wishesBack_63 rfl (q := 64) rfl ?_
      refine gk_getR hC dX8_wishesBack_64 fl_RX8_64 (by decide) t0 (q := 67) rfl (fun t29 => ?_)
      refine gk_aload_n hC 0 dX8_wishesBack_67 rfl (q := 68) rfl ?_
      refine gk_getR hC dX8_wishesBack_68 fl_RX8_70 (by decide) t0 (q := 71) rfl (fun t30 => ?_)
      refine gk_iconst hC (v := 4) dX8_wishesBack_71 kc_i_4 (q := 72) rfl ?_
      refine gk_iald hC dX8_wishesBack_72 t30 (q := 73) rfl (fun x31 => ?_)
      refine gk_iload_n hC 2 dX8_wishesBack_73 rfl (q := 74) rfl ?_
      refine gk_iast hC dX8_wishesBack_74 t29 (q := 75) rfl (fun M32 => ?_)
      refine gk_aload_n hC 0 dX8_wishesBack_75 rfl (q := 76) rfl ?_
      refine gk_getR hC dX8_wishesBack_76 fl_RX8_70 (by decide) t0 (q := 79) rfl (fun t33 => ?_)
      refine gk_iconst hC (v := 4) dX8_wishesBack_79 kc_i_4 (q := 80) rfl ?_
      refine gk_dup2 hC dX8_wishesBack_80 rfl rfl (q := 81) rfl ?_
      refine gk_iald hC dX8_wishesBack_81 t33 (q := 82) rfl (fun x34 => ?_)
      refine gk_iconst hC (v := 1) dX8_wishesBack_82 kc_i_1 (q := 83) rfl ?_
      refine gk_iadd hC dX8_wishesBack_83 (q := 84) rfl ?_
      refine gk_iast hC dX8_wishesBack_84 t33 (q := 85) rfl (fun M35 => ?_)
      exact gk_vret hC hR dX8_wishesBack_85 rfl
    · exact lk_X8_wishesBack_14 hY hC hR a0 a1 a2 M t0 k51_23 hk51_23 gk_fuel 0
def lp_X8_arrives_145 (LN : Nat → Nat) (RF : Nat → Nat → Nat) (v0 : Nat) (v1 : Int32) (v2 : Int32) (k207 : gk_M → Option (gk_M)) : Nat → (Int32 × gk_M) → Option (gk_M)
  | 0, _ => none
  | n + 1, x =>
    gk_ald LN x.2 (RF v0 20) 1 fun x2 =>
    if x2 ≤ x.1 then
      k207 x.2
    else
    gk_ald LN x.2 (RF v0 0) x.1 fun x4 =>
    gk_ald LN x.2 (RF v0 6) v1 fun x6 =>
    gk_jn (fun y7 : gk_M =>
      lp_X8_arrives_145 LN RF v0 v1 v2 k207 n ((x.1 + 1), y7)) fun k201_7 =>
    if x4 = x6 then
      gk_ald LN x.2 (RF v0 1) x.1 fun x10 =>
      if x10 = 5 then
        gk_ald LN x.2 (RF v0 5) x.1 fun x12 =>
        if x12 = 1 then
          gk_ald LN x.2 (RF v0 6) v1 fun x14 =>
          (f_X8_wishesBack LN RF v0 x14 v2 x.2).bind fun r15 =>
          k201_7 r15
        else
        k201_7 x.2
      else
      k201_7 x.2
    else
    k201_7 x.2
def lp_X8_arrives_25 (LN : Nat → Nat) (RF : Nat → Nat → Nat) (v0 : Nat) (v1 : Int32) (v2 : Int32) (M : gk_M) (k130 : Int32 → Option (gk_M)) : Nat → (Int32 × Int32) → Option (gk_M)
  | 0, _ => none
  | n + 1, x =>
    gk_ald LN M (RF v0 20) 1 fun x2 =>
    if x2 ≤ x.2 then
      k130 x.1
    else
    gk_ald LN M (RF v0 0) x.2 fun x4 =>
    gk_jn (fun y5 : Int32 =>
      gk_jn (fun y7 : Int32 =>
        lp_X8_arrives_25 LN RF v0 v1 v2 M k130 n (y7, (x.2 + 1))) fun k124_7 =>
      if y5 = 0 then
        k124_7 x.1
      else
      gk_ald LN M (RF v0 3) x.2 fun x10 =>
      (f_X8_isFree LN RF v0 x10 M).bind fun r11 =>
      if r11 = 0 then
        k124_7 x.1
      else
      gk_ald LN M (RF v0 3) x.2 fun x13 =>
      gk_ald LN M (RF v0 6) v1 fun x15 =>
      if x13 = x15 then
        k124_7 x.1
      else
      gk_ald LN M (RF v0 3) x.2 fun x17 =>
      k124_7 (x.1 ||| (1 <<< (x17 &&& 31)))) fun k75_5 =>
    gk_jn (fun y18 : Unit =>
      k75_5 0) fun k74_18 =>
    if x4 = v2 then
      gk_ald LN M (RF v0 1) x.2 fun x21 =>
      if x21 = 6 then
        gk_ald LN M (RF v0 5) x.2 fun x23 =>
        if x23 = 1 then
          k75_5 1
        else
        k74_18 ()
      else
      k74_18 ()
    else
    k74_18 ()
def f_X8_arrives (LN : Nat → Nat) (RF : Nat → Nat → Nat) (a0 : Nat) (a1 : Int32) (a2 : Int32) (M : gk_M) : Option (gk_M) :=
  (f_X8_isFree LN RF a0 a2 M).bind fun r21 =>
  gk_jn (fun y22 : Unit =>
    (f_X8_ends LN RF a0 a1 3 M).bind fun r24 =>
    gk_jn (fun y25 : gk_M =>
      some y25) fun k207_25 =>
    lp_X8_arrives_145 LN RF a0 a1 a2 k207_25 gk_fuel (0, r24)) fun k137_22 =>
  if r21 = 0 then
    k137_22 ()
  else
  gk_ald LN M (RF a0 6) a1 fun x29 =>
  if a2 = x29 then
    k137_22 ()
  else
  gk_jn (fun y30 : Int32 =>
    (f_X8_rings LN RF a0 a1 y30 M).bind fun r32 =>
    some r32) fun k130_30 =>
  lp_X8_arrives_25 LN RF a0 a1 a2 M k130_30 gk_fuel ((1 <<< (a2 &&& 31)), 0)
set_option maxHeartbeats 4000000 in
set_option maxRecDepth 100000 in
theorem lk_X8_arrives_145 {Z : gk_Z} {Y : gk_Y} (hY : gk_WF Y) (hC : gk_C Z Y cX8_arrives 6 RX8 2) (hR : gk_R Z Y none) (v0 : Nat) (v1 : Int32) (v2 : Int32) (tv0 : gk_T Y 18 v0) (k207 : gk_M → Option (gk_M)) (hk207 : ∀ z27 : gk_M, gk_K Z Y 6 gk_rV 207 [] [] z27 (k207 z27)) : ∀ (n : Nat) (x : Int32 × gk_M), gk_K Z Y 6 gk_rV 145 [(0, .ref v0), (1, .int v1), (2, .int v2), (3, .int x.1)] [] x.2 (lp_X8_arrives_145 (gk_ln Y) (gk_rf Y) v0 v1 v2 k207 n x) := by
  intro n
  induction n with
  | zero => intro x; exact gk_none
  | succ n ih =>
    intro x
    rw [lp_X8_arrives_145]
    refine gk_iload_n hC 3 dX8_arrives_145 rfl (q := 146) rfl ?_
    refine gk_aload_n hC 0 dX8_arrives_146 rfl (q := 147) rfl ?_
    refine gk_getR hC dX8_arrives_147 fl_RX8_70 (by decide) tv0 (q := 150) rfl (fun t1 => ?_)
    refine gk_iconst hC (v := 1) dX8_arrives_150 kc_i_1 (q := 151) rfl ?_
    refine gk_iald hC dX8_arrives_151 t1 (q := 152) rfl (fun x2 => ?_)
    refine gk_icmp_ge hC dX8_arrives_152 (tg := 207) rfl (q := 155) rfl ?_ ?_
    · refine gk_pick [] rfl ?_
      exact hk207 x.2
    · refine gk_aload_n hC 0 dX8_arrives_155 rfl (q := 156) rfl ?_
      refine gk_getR hC dX8_arrives_156 fl_RX8_7 (by decide) tv0 (q := 159) rfl (fun t3 => ?_)
      refine gk_iload_n hC 3 dX8_arrives_159 rfl (q := 160) rfl ?_
      refine gk_iald hC dX8_arrives_160 t3 (q := 161) rfl (fun x4 => ?_)
      refine gk_aload_n hC 0 dX8_arrives_161 rfl (q := 162) rfl ?_
      refine gk_getR hC dX8_arrives_162 fl_RX8_28 (by decide) tv0 (q := 165) rfl (fun t5 => ?_)
      refine gk_iload_n hC 1 dX8_arrives_165 rfl (q := 166) rfl ?_
      refine gk_iald hC dX8_arrives_166 t5 (q := 167) rfl (fun x6 => ?_)
      refine gk_jnR (fun k201_7 => ∀ z8 : gk_M, gk_K Z Y 6 gk_rV 201 [(0, .ref v0), (1, .int v1), (2, .int v2), (3, .int x.1)] [] z8 (k201_7 z8)) (fun y7 => ?_) (fun k201_7 hk201_7 => ?_)
      · show gk_K Z Y 6 gk_rV 201 [(0, .ref v0), (1, .int v1), (2, .int v2), (3, .int x.1)] [] y7 _
        refine gk_iinc hC (v := 1) 3 (lv' := [(0, .ref v0), (1, .int v1), (2, .int v2), (3, .int (x.1 + 1))]) [1, 2, 3, 0] dX8_arrives_201 rfl kc_i_1 (by decide) rfl (q := 204) rfl ?_
        refine gk_goto hC dX8_arrives_204 (q := 145) rfl ?_
        exact ih ((x.1 + 1), y7)
      · refine gk_icmp_ne hC dX8_arrives_167 (tg := 201) rfl (q := 170) rfl ?_ ?_
        · refine gk_aload_n hC 0 dX8_arrives_170 rfl (q := 171) rfl ?_
          refine gk_getR hC dX8_arrives_171 fl_RX8_13 (by decide) tv0 (q := 174) rfl (fun t9 => ?_)
          refine gk_iload_n hC 3 dX8_arrives_174 rfl (q := 175) rfl ?_
          refine gk_iald hC dX8_arrives_175 t9 (q := 176) rfl (fun x10 => ?_)
          refine gk_iconst hC (v := 5) dX8_arrives_176 kc_i_5 (q := 177) rfl ?_
          refine gk_icmp_ne hC dX8_arrives_177 (tg := 201) rfl (q := 180) rfl ?_ ?_
          · refine gk_aload_n hC 0 dX8_arrives_180 rfl (q := 181) rfl ?_
            refine gk_getR hC dX8_arrives_181 fl_RX8_25 (by decide) tv0 (q := 184) rfl (fun t11 => ?_)
            refine gk_iload_n hC 3 dX8_arrives_184 rfl (q := 185) rfl ?_
            refine gk_iald hC dX8_arrives_185 t11 (q := 186) rfl (fun x12 => ?_)
            refine gk_iconst hC (v := 1) dX8_arrives_186 kc_i_1 (q := 187) rfl ?_
            refine gk_icmp_ne hC dX8_arrives_187 (tg := 201) rfl (q := 190) rfl ?_ ?_
            · refine gk_aload_n hC 0 dX8_arrives_190 rfl (q := 191) rfl ?_
              refine gk_aload_n hC 0 dX8_arrives_191 rfl (q := 192) rfl ?_
              refine gk_getR hC dX8_arrives_192 fl_RX8_28 (by decide) tv0 (q := 195) rfl (fun t13 => ?_)
              refine gk_iload_n hC 1 dX8_arrives_195 rfl (q := 196) rfl ?_
              refine gk_iald hC dX8_arrives_196 t13 (q := 197) rfl (fun x14 => ?_)
              refine gk_iload_n hC 2 dX8_arrives_197 rfl (q := 198) rfl ?_
              refine gk_callV (As := [.int x14, .int v2]) (rest := []) hC (fun l => m_X8_wishesBack l hY v0 x14 v2 x.2 tv0) ml_RX8_193 ok_X8_wishesBack dX8_arrives_198 tv0 ⟨by decide, rfl⟩ rfl (by decide) (Nat.le_of_ble_eq_true rfl) rfl (q := 201) rfl (fun r15 => ?_)
              show gk_K Z Y 6 gk_rV 201 [(0, .ref v0), (1, .int v1), (2, .int v2), (3, .int x.1)] [] r15 _
              exact hk201_7 r15
            · exact hk201_7 x.2
          · exact hk201_7 x.2
        · exact hk201_7 x.2
set_option maxHeartbeats 4000000 in
set_option maxRecDepth 100000 in
theorem lk_X8_arrives_25 {Z : gk_Z} {Y : gk_Y} (hY : gk_WF Y) (hC : gk_C Z Y cX8_arrives 6 RX8 2) (hR : gk_R Z Y none) (v0 : Nat) (v1 : Int32) (v2 : Int32) (M : gk_M) (tv0 : gk_T Y 18 v0) (k130 : Int32 → Option (gk_M)) (hk130 : ∀ z33 : Int32, gk_K Z Y 6 gk_rV 130 [(0, .ref v0), (1, .int v1), (3, .int z33)] [] M (k130 z33)) : ∀ (n : Nat) (x : Int32 × Int32), gk_K Z Y 6 gk_rV 25 [(0, .ref v0), (1, .int v1), (2, .int v2), (3, .int x.1), (4, .int x.2)] [] M (lp_X8_arrives_25 (gk_ln Y) (gk_rf Y) v0 v1 v2 M k130 n x) := by
  intro n
  induction n with
  | zero => intro x; exact gk_none
  | succ n ih =>
    intro x
    rw [lp_X8_arrives_25]
    refine gk_iload hC 4 dX8_arrives_25 rfl (q := 27) rfl ?_
    refine gk_aload_n hC 0 dX8_arrives_27 rfl (q := 28) rfl ?_
    refine gk_getR hC dX8_arrives_28 fl_RX8_70 (by decide) tv0 (q := 31) rfl (fun t1 => ?_)
    refine gk_iconst hC (v := 1) dX8_arrives_31 kc_i_1 (q := 32) rfl ?_
    refine gk_iald hC dX8_arrives_32 t1 (q := 33) rfl (fun x2 => ?_)
    refine gk_icmp_ge hC dX8_arrives_33 (tg := 130) rfl (q := 36) rfl ?_ ?_
    · refine gk_pick [0, 1, 3] rfl ?_
      exact hk130 x.1
    · refine gk_aload_n hC 0 dX8_arrives_36 rfl (q := 37) rfl ?_
      refine gk_getR hC dX8_arrives_37 fl_RX8_7 (by decide) tv0 (q := 40) rfl (fun t3 => ?_)
      refine gk_iload hC 4 dX8_arrives_40 rfl (q := 42) rfl ?_
      refine gk_iald hC dX8_arrives_42 t3 (q := 43) rfl (fun x4 => ?_)
      refine gk_iload_n hC 2 dX8_arrives_43 rfl (q := 44) rfl ?_
      refine gk_jnR (fun k75_5 => ∀ z6 : Int32, gk_K Z Y 6 gk_rV 75 [(0, .ref v0), (1, .int v1), (2, .int v2), (3, .int x.1), (4, .int x.2)] [.int z6] M (k75_5 z6)) (fun y5 => ?_) (fun k75_5 hk75_5 => ?_)
      · show gk_K Z Y 6 gk_rV 75 [(0, .ref v0), (1, .int v1), (2, .int v2), (3, .int x.1), (4, .int x.2)] [.int y5] M _
        refine gk_istore hC (lv' := [(0, .ref v0), (1, .int v1), (2, .int v2), (3, .int x.1), (4, .int x.2), (5, .int y5)]) [1, 2, 3, 4, 5, 0] dX8_arrives_75 (by decide) rfl (q := 77) rfl ?_
        refine gk_iload hC 5 dX8_arrives_77 rfl (q := 79) rfl ?_
        refine gk_jnR (fun k124_7 => ∀ z8 : Int32, gk_K Z Y 6 gk_rV 124 [(0, .ref v0), (1, .int v1), (2, .int v2), (3, .int z8), (4, .int x.2)] [] M (k124_7 z8)) (fun y7 => ?_) (fun k124_7 hk124_7 => ?_)
        · show gk_K Z Y 6 gk_rV 124 [(0, .ref v0), (1, .int v1), (2, .int v2), (3, .int y7), (4, .int x.2)] [] M _
          refine gk_iinc hC (v := 1) 4 (lv' := [(0, .ref v0), (1, .int v1), (2, .int v2), (3, .int y7), (4, .int (x.2 + 1))]) [1, 2, 3, 4, 0] dX8_arrives_124 rfl kc_i_1 (by decide) rfl (q := 127) rfl ?_
          refine gk_goto hC dX8_arrives_127 (q := 25) rfl ?_
          exact ih (y7, (x.2 + 1))
        · refine gk_if_eq hC dX8_arrives_79 (tg := 124) rfl (q := 82) rfl ?_ ?_
          · refine gk_pick [0, 1, 2, 3, 4] rfl ?_
            exact hk124_7 x.1
          · refine gk_aload_n hC 0 dX8_arrives_82 rfl (q := 83) rfl ?_
            refine gk_aload_n hC 0 dX8_arrives_83 rfl (q := 84) rfl ?_
            refine gk_getR hC dX8_arrives_84 fl_RX8_19 (by decide) tv0 (q := 87) rfl (fun t9 => ?_)
            refine gk_iload hC 4 dX8_arrives_87 rfl (q := 89) rfl ?_
            refine gk_iald hC dX8_arrives_89 t9 (q := 90) rfl (fun x10 => ?_)
            refine gk_callV (As := [.int x10]) (rest := []) hC (fun l => m_X8_isFree l hY v0 x10 M tv0) ml_RX8_148 ok_X8_isFree dX8_arrives_90 tv0 ⟨by decide, rfl⟩ rfl (by decide) (Nat.le_of_ble_eq_true rfl) rfl (q := 93) rfl (fun r11 => ?_)
            show gk_K Z Y 6 gk_rV 93 [(0, .ref v0), (1, .int v1), (2, .int v2), (3, .int x.1), (4, .int x.2), (5, .int y5)] [.int r11] M _
            refine gk_if_eq hC dX8_arrives_93 (tg := 124) rfl (q := 96) rfl ?_ ?_
            · refine gk_pick [0, 1, 2, 3, 4] rfl ?_
              exact hk124_7 x.1
            · refine gk_aload_n hC 0 dX8_arrives_96 rfl (q := 97) rfl ?_
              refine gk_getR hC dX8_arrives_97 fl_RX8_19 (by decide) tv0 (q := 100) rfl (fun t12 => ?_)
              refine gk_iload hC 4 dX8_arrives_100 rfl (q := 102) rfl ?_
              refine gk_iald hC dX8_arrives_102 t12 (q := 103) rfl (fun x13 => ?_)
              refine gk_aload_n hC 0 dX8_arrives_103 rfl (q := 104) rfl ?_
              refine gk_getR hC dX8_arrives_104 fl_RX8_28 (by decide) tv0 (q := 107) rfl (fun t14 => ?_)
              refine gk_iload_n hC 1 dX8_arrives_107 rfl (q := 108) rfl ?_
              refine gk_iald hC dX8_arrives_108 t14 (q := 109) rfl (fun x15 => ?_)
              refine gk_icmp_eq hC dX8_arrives_109 (tg := 124) rfl (q := 112) rfl ?_ ?_
              · refine gk_pick [0, 1, 2, 3, 4] rfl ?_
                exact hk124_7 x.1
              · refine gk_iload_n hC 3 dX8_arrives_112 rfl (q := 113) rfl ?_
                refine gk_iconst hC (v := 1) dX8_arrives_113 kc_i_1 (q := 114) rfl ?_
                refine gk_aload_n hC 0 dX8_arrives_114 rfl (q := 115) rfl ?_
                refine gk_getR hC dX8_arrives_115 fl_RX8_19 (by decide) tv0 (q := 118) rfl (fun t16 => ?_)
                refine gk_iload hC 4 dX8_arrives_118 rfl (q := 120) rfl ?_
                refine gk_iald hC dX8_arrives_120 t16 (q := 121) rfl (fun x17 => ?_)
                refine gk_ishl hC dX8_arrives_121 (q := 122) rfl ?_
                refine gk_ior hC dX8_arrives_122 (q := 123) rfl ?_
                refine gk_istore_n hC (lv' := [(0, .ref v0), (1, .int v1), (2, .int v2), (3, .int (x.1 ||| (1 <<< (x17 &&& 31)))), (4, .int x.2)]) [1, 2, 3, 0, 4] dX8_arrives_123 (by decide) rfl (q := 124) rfl ?_
                exact hk124_7 (x.1 ||| (1 <<< (x17 &&& 31)))
      · refine gk_jnR (fun k74_18 => ∀ z19 : Unit, gk_K Z Y 6 gk_rV 74 [(0, .ref v0), (1, .int v1), (2, .int v2), (3, .int x.1), (4, .int x.2)] [] M (k74_18 z19)) (fun y18 => ?_) (fun k74_18 hk74_18 => ?_)
        · show gk_K Z Y 6 gk_rV 74 [(0, .ref v0), (1, .int v1), (2, .int v2), (3, .int x.1), (4, .int x.2)] [] M _
          refine gk_iconst hC (v := 0) dX8_arrives_74 kc_i_0 (q := 75) rfl ?_
          exact hk75_5 0
        · refine gk_icmp_ne hC dX8_arrives_44 (tg := 74) rfl (q := 47) rfl ?_ ?_
          · refine gk_aload_n hC 0 dX8_arrives_47 rfl (q := 48) rfl ?_
            refine gk_getR hC dX8_arrives_48 fl_RX8_13 (by decide) tv0 (q := 51) rfl (fun t20 => ?_)
            refine gk_iload hC 4 dX8_arrives_51 rfl (q := 53) rfl ?_
            refine gk_iald hC dX8_arrives_53 t20 (q := 54) rfl (fun x21 => ?_)
            refine gk_bipush hC (v := 6) dX8_arrives_54 kc_b_6 (q := 56) rfl ?_
            refine gk_icmp_ne hC dX8_arrives_56 (tg := 74) rfl (q := 59) rfl ?_ ?_
            · refine gk_aload_n hC 0 dX8_arrives_59 rfl (q := 60) rfl ?_
              refine gk_getR hC dX8_arrives_60 fl_RX8_25 (by decide) tv0 (q := 63) rfl (fun t22 => ?_)
              refine gk_iload hC 4 dX8_arrives_63 rfl (q := 65) rfl ?_
              refine gk_iald hC dX8_arrives_65 t22 (q := 66) rfl (fun x23 => ?_)
              refine gk_iconst hC (v := 1) dX8_arrives_66 kc_i_1 (q := 67) rfl ?_
              refine gk_icmp_ne hC dX8_arrives_67 (tg := 74) rfl (q := 70) rfl ?_ ?_
              · refine gk_iconst hC (v := 1) dX8_arrives_70 kc_i_1 (q := 71) rfl ?_
                refine gk_goto hC dX8_arrives_71 (q := 75) rfl ?_
                exact hk75_5 1
              · exact hk74_18 ()
            · exact hk74_18 ()
          · exact hk74_18 ()
set_option maxHeartbeats 4000000 in
set_option maxRecDepth 100000 in
theorem m_X8_arrives (l : Launch) {Y : gk_Y} (hY : gk_WF Y) (a0 : Nat) (a1 : Int32) (a2 : Int32) (M : gk_M) (t0 : gk_T Y 18 a0) : gk_MF l Y yX8_arrives cX8_arrives 6 none 2 [.ref a0, .int a1, .int a2] M gk_rV (f_X8_arrives (gk_ln Y) (gk_rf Y) a0 a1 a2 M) := by
  refine gk_met hY (plainFor_of_name (by decide)) (Nat.le_of_ble_eq_true rfl) fun Z hC hR => ?_
  show gk_K Z Y 6 gk_rV 0 [(0, .ref a0), (1, .int a1), (2, .int a2)] [] M _
  unfold f_X8_arrives
  refine gk_aload_n hC 0 dX8_arrives_0 rfl (q := 1) rfl ?_
  refine gk_iload_n hC 2 dX8_arrives_1 rfl (q := 2) rfl ?_
  refine gk_callV (As := [.int a2]) (rest := []) hC (fun l => m_X8_isFree l hY a0 a2 M t0) ml_RX8_148 ok_X8_isFree dX8_arrives_2 t0 ⟨by decide, rfl⟩ rfl (by decide) (Nat.le_of_ble_eq_true rfl) rfl (q := 5) rfl (fun r21 => ?_)
  show gk_K Z Y 6 gk_rV 5 [(0, .ref a0), (1, .int a1), (2, .int a2)] [.int r21] M _
  refine gk_jnR (fun k137_22 => ∀ z23 : Unit, gk_K Z Y 6 gk_rV 137 [(0, .ref a0), (1, .int a1), (2, .int a2)] [] M (k137_22 z23)) (fun y22 => ?_) (fun k137_22 hk137_22 => ?_)
  · show gk_K Z Y 6 gk_rV 137 [(0, .ref a0), (1, .int a1), (2, .int a2)] [] M _
    refine gk_aload_n hC 0 dX8_arrives_137 rfl (q := 138) rfl ?_
    refine gk_iload_n hC 1 dX8_arrives_138 rfl (q := 139) rfl ?_
    refine gk_iconst hC (v := 3) dX8_arrives_139 kc_i_3 (q := 140) rfl ?_
    refine gk_callV (As := [.int a1, .int 3]) (rest := []) hC (fun l => m_X8_ends l hY a0 a1 3 M t0) ml_RX8_172 ok_X8_ends dX8_arrives_140 t0 ⟨by decide, rfl⟩ rfl (by decide) (Nat.le_of_ble_eq_true rfl) rfl (q := 143) rfl (fun r24 => ?_)
    show gk_K Z Y 6 gk_rV 143 [(0, .ref a0), (1, .int a1), (2, .int a2)] [] r24 _
    refine gk_iconst hC (v := 0) dX8_arrives_143 kc_i_0 (q := 144) rfl ?_
    refine gk_istore_n hC (lv' := [(0, .ref a0), (1, .int a1), (2, .int a2), (3, .int 0)]) [1, 2, 3, 0] dX8_arrives_144 (by decide) rfl (q := 145) rfl ?_
    refine gk_jnR (fun k207_25 => ∀ z26 : gk_M, gk_K Z Y 6 gk_rV 207 [] [] z26 (k207_25 z26)) (fun y25 => ?_) (fun k207_25 hk207_25 => ?_)
    · show gk_K Z Y 6 gk_rV 207 [] [] y25 _
      exact gk_vret hC hR dX8_arrives_207 rfl
    · exact lk_X8_arrives_145 hY hC hR a0 a1 a2 t0 k207_25 hk207_25 gk_fuel (0, r24)
  · refine gk_if_eq hC dX8_arrives_5 (tg := 137) rfl (q := 8) rfl ?_ ?_
    · exact hk137_22 ()
    · refine gk_iload_n hC 2 dX8_arrives_8 rfl (q := 9) rfl ?_
      refine gk_aload_n hC 0 dX8_arrives_9 rfl (q := 10) rfl ?_
      refine gk_getR hC dX8_arrives_10 fl_RX8_28 (by decide) t0 (q := 13) rfl (fun t28 => ?_)
      refine gk_iload_n hC 1 dX8_arrives_13 rfl (q := 14) rfl ?_
      refine gk_iald hC dX8_arrives_14 t28 (q := 15) rfl (fun x29 => ?_)
      refine gk_icmp_eq hC dX8_arrives_15 (tg := 137) rfl (q := 18) rfl ?_ ?_
      · exact hk137_22 ()
      · refine gk_iconst hC (v := 1) dX8_arrives_18 kc_i_1 (q := 19) rfl ?_
        refine gk_iload_n hC 2 dX8_arrives_19 rfl (q := 20) rfl ?_
        refine gk_ishl hC dX8_arrives_20 (q := 21) rfl ?_
        refine gk_istore_n hC (lv' := [(0, .ref a0), (1, .int a1), (2, .int a2), (3, .int (1 <<< (a2 &&& 31)))]) [1, 2, 3, 0] dX8_arrives_21 (by decide) rfl (q := 22) rfl ?_
        refine gk_iconst hC (v := 0) dX8_arrives_22 kc_i_0 (q := 23) rfl ?_
        refine gk_istore hC (lv' := [(0, .ref a0), (1, .int a1), (2, .int a2), (3, .int (1 <<< (a2 &&& 31))), (4, .int 0)]) [1, 2, 3, 4, 0] dX8_arrives_23 (by decide) rfl (q := 25) rfl ?_
        refine gk_jnR (fun k130_30 => ∀ z31 : Int32, gk_K Z Y 6 gk_rV 130 [(0, .ref a0), (1, .int a1), (3, .int z31)] [] M (k130_30 z31)) (fun y30 => ?_) (fun k130_30 hk130_30 => ?_)
        · show gk_K Z Y 6 gk_rV 130 [(0, .ref a0), (1, .int a1), (3, .int y30)] [] M _
          refine gk_aload_n hC 0 dX8_arrives_130 rfl (q := 131) rfl ?_
          refine gk_iload_n hC 1 dX8_arrives_131 rfl (q := 132) rfl ?_
          refine gk_iload_n hC 2 dX8_arrives_132 rfl (q := 133) rfl ?_
          refine gk_callV (As := [.int a1, .int y30]) (rest := []) hC (fun l => m_X8_rings l hY a0 a1 y30 M t0) ml_RX8_190 ok_X8_rings dX8_arrives_133 t0 ⟨by decide, rfl⟩ rfl (by decide) (Nat.le_of_ble_eq_true rfl) rfl (q := 136) rfl (fun r32 => ?_)
          show gk_K Z Y 6 gk_rV 136 [(0, .ref a0), (1, .int a1), (3, .int y30)] [] r32 _
          exact gk_vret hC hR dX8_arrives_136 rfl
        · exact lk_X8_arrives_25 hY hC hR a0 a1 a2 M t0 k130_30 hk130_30 gk_fuel ((1 <<< (a2 &&& 31)), 0)
def lp_X8_goes_6 (LN : Nat → Nat) (RF : Nat → Nat → Nat) (v0 : Nat) (v1 : Int32) (k36 : gk_M → Option (gk_M)) (k112 : (Int32 × gk_M) → Option (gk_M)) : Nat → (Int32 × Int32 × gk_M) → Option (gk_M)
  | 0, _ => none
  | n + 1, x =>
    (f_X8_isInRow LN RF v0 v1 x.1 x.2.2).bind fun r1 =>
    if r1 = 0 then
      gk_ald LN x.2.2 (RF v0 6) v1 fun x3 =>
      gk_jn (fun y4 : Unit =>
        (f_X8_comesTo LN RF v0 v1 x.1 x.2.1 x.2.2).bind fun r6 =>
        (f_X8_actsAt LN RF v0 v1 x.1 x.2.1 r6).bind fun r7 =>
        if 0 ≤ r7 then
          (f_X8_notes LN RF v0 v1 r7 r6).bind fun r8 =>
          gk_ald LN r8 (RF v0 1) r7 fun x10 =>
          if x10 = 2 then
            (f_X8_ends LN RF v0 v1 1 r8).bind fun r11 =>
            some r11
          else
          gk_ald LN r8 (RF v0 1) r7 fun x13 =>
          if x13 = 4 then
            k112 (x.1, r8)
          else
          gk_ald LN r8 (RF v0 3) r7 fun x15 =>
          lp_X8_goes_6 LN RF v0 v1 k36 k112 n (x15, x.1, r8)
        else
        (f_X8_arrives LN RF v0 v1 x.1 r6).bind fun r16 =>
        some r16) fun k43_4 =>
      if x.1 = x3 then
        gk_ald LN x.2.2 (RF v0 9) v1 fun x18 =>
        if x18 ≤ 0 then
          k43_4 ()
        else
        k36 x.2.2
      else
      k43_4 ()
    else
    k36 x.2.2
def f_X8_goes (LN : Nat → Nat) (RF : Nat → Nat → Nat) (a0 : Nat) (a1 : Int32) (a2 : Int32) (a3 : Int32) (M : gk_M) : Option (gk_M) :=
  gk_jn (fun y21 : Int32 × gk_M =>
    gk_ast LN y21.2 (RF a0 7) a1 2 fun M24 =>
    gk_ast LN M24 (RF a0 12) a1 0 fun M26 =>
    gk_ast LN M26 (RF a0 13) a1 y21.1 fun M28 =>
    some M28) fun k112_21 =>
  gk_jn (fun y29 : gk_M =>
    (f_X8_ends LN RF a0 a1 2 y29).bind fun r31 =>
    some r31) fun k36_29 =>
  lp_X8_goes_6 LN RF a0 a1 k36_29 k112_21 gk_fuel (a2, a3, M)
set_option maxHeartbeats 4000000 in
set_option maxRecDepth 100000 in
theorem lk_X8_goes_6 {Z : gk_Z} {Y : gk_Y} (hY : gk_WF Y) (hC : gk_C Z Y cX8_goes 7 RX8 4) (hR : gk_R Z Y none) (v0 : Nat) (v1 : Int32) (tv0 : gk_T Y 18 v0) (k36 : gk_M → Option (gk_M)) (k112 : (Int32 × gk_M) → Option (gk_M)) (hk36 : ∀ z32 : gk_M, gk_K Z Y 7 gk_rV 36 [(0, .ref v0), (1, .int v1)] [] z32 (k36 z32)) (hk112 : ∀ z33 : Int32 × gk_M, gk_K Z Y 7 gk_rV 112 [(0, .ref v0), (1, .int v1), (4, .int z33.1)] [] z33.2 (k112 z33)) : ∀ (n : Nat) (x : Int32 × Int32 × gk_M), gk_K Z Y 7 gk_rV 6 [(0, .ref v0), (1, .int v1), (4, .int x.1), (5, .int x.2.1)] [] x.2.2 (lp_X8_goes_6 (gk_ln Y) (gk_rf Y) v0 v1 k36 k112 n x) := by
  intro n
  induction n with
  | zero => intro x; exact gk_none
  | succ n ih =>
    intro x
    rw [lp_X8_goes_6]
    refine gk_aload_n hC 0 dX8_goes_6 rfl (q := 7) rfl ?_
    refine gk_iload_n hC 1 dX8_goes_7 rfl (q := 8) rfl ?_
    refine gk_iload hC 2 dX8_goes_8 rfl (q := 10) rfl ?_
    refine gk_callV (As := [.int v1, .int x.1]) (rest := []) hC (fun l => m_X8_isInRow l hY v0 v1 x.1 x.2.2 tv0) ml_RX8_169 ok_X8_isInRow dX8_goes_10 tv0 ⟨by decide, rfl⟩ rfl (by decide) (Nat.le_of_ble_eq_true rfl) rfl (q := 13) rfl (fun r1 => ?_)
    show gk_K Z Y 7 gk_rV 13 [(0, .ref v0), (1, .int v1), (4, .int x.1), (5, .int x.2.1)] [.int r1] x.2.2 _
    refine gk_if_ne hC dX8_goes_13 (tg := 36) rfl (q := 16) rfl ?_ ?_
    · refine gk_iload hC 2 dX8_goes_16 rfl (q := 18) rfl ?_
      refine gk_aload_n hC 0 dX8_goes_18 rfl (q := 19) rfl ?_
      refine gk_getR hC dX8_goes_19 fl_RX8_28 (by decide) tv0 (q := 22) rfl (fun t2 => ?_)
      refine gk_iload_n hC 1 dX8_goes_22 rfl (q := 23) rfl ?_
      refine gk_iald hC dX8_goes_23 t2 (q := 24) rfl (fun x3 => ?_)
      refine gk_jnR (fun k43_4 => ∀ z5 : Unit, gk_K Z Y 7 gk_rV 43 [(0, .ref v0), (1, .int v1), (4, .int x.1), (5, .int x.2.1)] [] x.2.2 (k43_4 z5)) (fun y4 => ?_) (fun k43_4 hk43_4 => ?_)
      · show gk_K Z Y 7 gk_rV 43 [(0, .ref v0), (1, .int v1), (4, .int x.1), (5, .int x.2.1)] [] x.2.2 _
        refine gk_aload_n hC 0 dX8_goes_43 rfl (q := 44) rfl ?_
        refine gk_iload_n hC 1 dX8_goes_44 rfl (q := 45) rfl ?_
        refine gk_iload hC 2 dX8_goes_45 rfl (q := 47) rfl ?_
        refine gk_iload hC 3 dX8_goes_47 rfl (q := 49) rfl ?_
        refine gk_callV (As := [.int v1, .int x.1, .int x.2.1]) (rest := []) hC (fun l => m_X8_comesTo l hY v0 v1 x.1 x.2.1 x.2.2 tv0) ml_RX8_176 ok_X8_comesTo dX8_goes_49 tv0 ⟨by decide, rfl⟩ rfl (by decide) (Nat.le_of_ble_eq_true rfl) rfl (q := 52) rfl (fun r6 => ?_)
        show gk_K Z Y 7 gk_rV 52 [(0, .ref v0), (1, .int v1), (4, .int x.1), (5, .int x.2.1)] [] r6 _
        refine gk_aload_n hC 0 dX8_goes_52 rfl (q := 53) rfl ?_
        refine gk_iload_n hC 1 dX8_goes_53 rfl (q := 54) rfl ?_
        refine gk_iload hC 2 dX8_goes_54 rfl (q := 56) rfl ?_
        refine gk_iload hC 3 dX8_goes_56 rfl (q := 58) rfl ?_
        refine gk_callV (As := [.int v1, .int x.1, .int x.2.1]) (rest := []) hC (fun l => m_X8_actsAt l hY v0 v1 x.1 x.2.1 r6 tv0) ml_RX8_180 ok_X8_actsAt dX8_goes_58 tv0 ⟨by decide, rfl⟩ rfl (by decide) (Nat.le_of_ble_eq_true rfl) rfl (q := 61) rfl (fun r7 => ?_)
        show gk_K Z Y 7 gk_rV 61 [(0, .ref v0), (1, .int v1), (4, .int x.1), (5, .int x.2.1)] [.int r7] r6 _
        refine gk_istore hC (lv' := [(0, .ref v0), (1, .int v1), (4, .int x.1), (6, .int r7)]) [1, 2, 3, 0] dX8_goes_61 (by decide) rfl (q := 63) rfl ?_
        refine gk_iload hC 3 dX8_goes_63 rfl (q := 65) rfl ?_
        refine gk_if_ge hC dX8_goes_65 (tg := 76) rfl (q := 68) rfl ?_ ?_
        · refine gk_aload_n hC 0 dX8_goes_76 rfl (q := 77) rfl ?_
          refine gk_iload_n hC 1 dX8_goes_77 rfl (q := 78) rfl ?_
          refine gk_iload hC 3 dX8_goes_78 rfl (q := 80) rfl ?_
          refine gk_callV (As := [.int v1, .int r7]) (rest := []) hC (fun l => m_X8_notes l hY v0 v1 r7 r6 tv0) ml_RX8_187 ok_X8_notes dX8_goes_80 tv0 ⟨by decide, rfl⟩ rfl (by decide) (Nat.le_of_ble_eq_true rfl) rfl (q := 83) rfl (fun r8 => ?_)
          show gk_K Z Y 7 gk_rV 83 [(0, .ref v0), (1, .int v1), (4, .int x.1), (6, .int r7)] [] r8 _
          refine gk_aload_n hC 0 dX8_goes_83 rfl (q := 84) rfl ?_
          refine gk_getR hC dX8_goes_84 fl_RX8_13 (by decide) tv0 (q := 87) rfl (fun t9 => ?_)
          refine gk_iload hC 3 dX8_goes_87 rfl (q := 89) rfl ?_
          refine gk_iald hC dX8_goes_89 t9 (q := 90) rfl (fun x10 => ?_)
          refine gk_iconst hC (v := 2) dX8_goes_90 kc_i_2 (q := 91) rfl ?_
          refine gk_icmp_ne hC dX8_goes_91 (tg := 101) rfl (q := 94) rfl ?_ ?_
          · refine gk_aload_n hC 0 dX8_goes_94 rfl (q := 95) rfl ?_
            refine gk_iload_n hC 1 dX8_goes_95 rfl (q := 96) rfl ?_
            refine gk_iconst hC (v := 1) dX8_goes_96 kc_i_1 (q := 97) rfl ?_
            refine gk_callV (As := [.int v1, .int 1]) (rest := []) hC (fun l => m_X8_ends l hY v0 v1 1 r8 tv0) ml_RX8_172 ok_X8_ends dX8_goes_97 tv0 ⟨by decide, rfl⟩ rfl (by decide) (Nat.le_of_ble_eq_true rfl) rfl (q := 100) rfl (fun r11 => ?_)
            show gk_K Z Y 7 gk_rV 100 [(0, .ref v0), (1, .int v1), (4, .int x.1), (6, .int r7)] [] r11 _
            exact gk_vret hC hR dX8_goes_100 rfl
          · refine gk_aload_n hC 0 dX8_goes_101 rfl (q := 102) rfl ?_
            refine gk_getR hC dX8_goes_102 fl_RX8_13 (by decide) tv0 (q := 105) rfl (fun t12 => ?_)
            refine gk_iload hC 3 dX8_goes_105 rfl (q := 107) rfl ?_
            refine gk_iald hC dX8_goes_107 t12 (q := 108) rfl (fun x13 => ?_)
            refine gk_iconst hC (v := 4) dX8_goes_108 kc_i_4 (q := 109) rfl ?_
            refine gk_icmp_ne hC dX8_goes_109 (tg := 135) rfl (q := 112) rfl ?_ ?_
            · refine gk_pick [0, 1, 2] rfl ?_
              exact hk112 (x.1, r8)
            · refine gk_iload hC 2 dX8_goes_135 rfl (q := 137) rfl ?_
              refine gk_istore hC (lv' := [(0, .ref v0), (1, .int v1), (5, .int x.1), (6, .int r7)]) [1, 2, 0, 4] dX8_goes_137 (by decide) rfl (q := 139) rfl ?_
              refine gk_aload_n hC 0 dX8_goes_139 rfl (q := 140) rfl ?_
              refine gk_getR hC dX8_goes_140 fl_RX8_19 (by decide) tv0 (q := 143) rfl (fun t14 => ?_)
              refine gk_iload hC 3 dX8_goes_143 rfl (q := 145) rfl ?_
              refine gk_iald hC dX8_goes_145 t14 (q := 146) rfl (fun x15 => ?_)
              refine gk_istore hC (lv' := [(0, .ref v0), (1, .int v1), (4, .int x15), (5, .int x.1)]) [1, 2, 0, 3] dX8_goes_146 (by decide) rfl (q := 148) rfl ?_
              refine gk_goto hC dX8_goes_148 (q := 6) rfl ?_
              exact ih (x15, x.1, r8)
        · refine gk_aload_n hC 0 dX8_goes_68 rfl (q := 69) rfl ?_
          refine gk_iload_n hC 1 dX8_goes_69 rfl (q := 70) rfl ?_
          refine gk_iload hC 2 dX8_goes_70 rfl (q := 72) rfl ?_
          refine gk_callV (As := [.int v1, .int x.1]) (rest := []) hC (fun l => m_X8_arrives l hY v0 v1 x.1 r6 tv0) ml_RX8_184 ok_X8_arrives dX8_goes_72 tv0 ⟨by decide, rfl⟩ rfl (by decide) (Nat.le_of_ble_eq_true rfl) rfl (q := 75) rfl (fun r16 => ?_)
          show gk_K Z Y 7 gk_rV 75 [(0, .ref v0), (1, .int v1), (4, .int x.1), (6, .int r7)] [] r16 _
          exact gk_vret hC hR dX8_goes_75 rfl
      · refine gk_icmp_ne hC dX8_goes_24 (tg := 43) rfl (q := 27) rfl ?_ ?_
        · refine gk_aload_n hC 0 dX8_goes_27 rfl (q := 28) rfl ?_
          refine gk_getR hC dX8_goes_28 fl_RX8_37 (by decide) tv0 (q := 31) rfl (fun t17 => ?_)
          refine gk_iload_n hC 1 dX8_goes_31 rfl (q := 32) rfl ?_
          refine gk_iald hC dX8_goes_32 t17 (q := 33) rfl (fun x18 => ?_)
          refine gk_if_le hC dX8_goes_33 (tg := 43) rfl (q := 36) rfl ?_ ?_
          · exact hk43_4 ()
          · refine gk_pick [0, 1] rfl ?_
            exact hk36 x.2.2
        · exact hk43_4 ()
    · refine gk_pick [0, 1] rfl ?_
      exact hk36 x.2.2
set_option maxHeartbeats 4000000 in
set_option maxRecDepth 100000 in
theorem m_X8_goes (l : Launch) {Y : gk_Y} (hY : gk_WF Y) (a0 : Nat) (a1 : Int32) (a2 : Int32) (a3 : Int32) (M : gk_M) (t0 : gk_T Y 18 a0) : gk_MF l Y yX8_goes cX8_goes 7 none 4 [.ref a0, .int a1, .int a2, .int a3] M gk_rV (f_X8_goes (gk_ln Y) (gk_rf Y) a0 a1 a2 a3 M) := by
  refine gk_met hY (plainFor_of_name (by decide)) (Nat.le_of_ble_eq_true rfl) fun Z hC hR => ?_
  show gk_K Z Y 7 gk_rV 0 [(0, .ref a0), (1, .int a1), (2, .int a2), (3, .int a3)] [] M _
  unfold f_X8_goes
  refine gk_iload_n hC 2 dX8_goes_0 rfl (q := 1) rfl ?_
  refine gk_istore hC (lv' := [(0, .ref a0), (1, .int a1), (3, .int a3), (4, .int a2)]) [1, 2, 4, 0] dX8_goes_1 (by decide) rfl (q := 3) rfl ?_
  refine gk_iload_n hC 2 dX8_goes_3 rfl (q := 4) rfl ?_
  refine gk_istore hC (lv' := [(0, .ref a0), (1, .int a1), (4, .int a2), (5, .int a3)]) [1, 2, 4, 0] dX8_goes_4 (by decide) rfl (q := 6) rfl ?_
  refine gk_jnR (fun k112_21 => ∀ z22 : Int32 × gk_M, gk_K Z Y 7 gk_rV 112 [(0, .ref a0), (1, .int a1), (4, .int z22.1)] [] z22.2 (k112_21 z22)) (fun y21 => ?_) (fun k112_21 hk112_21 => ?_)
  · show gk_K Z Y 7 gk_rV 112 [(0, .ref a0), (1, .int a1), (4, .int y21.1)] [] y21.2 _
    refine gk_aload_n hC 0 dX8_goes_112 rfl (q := 113) rfl ?_
    refine gk_getR hC dX8_goes_113 fl_RX8_31 (by decide) t0 (q := 116) rfl (fun t23 => ?_)
    refine gk_iload_n hC 1 dX8_goes_116 rfl (q := 117) rfl ?_
    refine gk_iconst hC (v := 2) dX8_goes_117 kc_i_2 (q := 118) rfl ?_
    refine gk_iast hC dX8_goes_118 t23 (q := 119) rfl (fun M24 => ?_)
    refine gk_aload_n hC 0 dX8_goes_119 rfl (q := 120) rfl ?_
    refine gk_getR hC dX8_goes_120 fl_RX8_46 (by decide) t0 (q := 123) rfl (fun t25 => ?_)
    refine gk_iload_n hC 1 dX8_goes_123 rfl (q := 124) rfl ?_
    refine gk_iconst hC (v := 0) dX8_goes_124 kc_i_0 (q := 125) rfl ?_
    refine gk_iast hC dX8_goes_125 t25 (q := 126) rfl (fun M26 => ?_)
    refine gk_aload_n hC 0 dX8_goes_126 rfl (q := 127) rfl ?_
    refine gk_getR hC dX8_goes_127 fl_RX8_49 (by decide) t0 (q := 130) rfl (fun t27 => ?_)
    refine gk_iload_n hC 1 dX8_goes_130 rfl (q := 131) rfl ?_
    refine gk_iload hC 2 dX8_goes_131 rfl (q := 133) rfl ?_
    refine gk_iast hC dX8_goes_133 t27 (q := 134) rfl (fun M28 => ?_)
    exact gk_vret hC hR dX8_goes_134 rfl
  · refine gk_jnR (fun k36_29 => ∀ z30 : gk_M, gk_K Z Y 7 gk_rV 36 [(0, .ref a0), (1, .int a1)] [] z30 (k36_29 z30)) (fun y29 => ?_) (fun k36_29 hk36_29 => ?_)
    · show gk_K Z Y 7 gk_rV 36 [(0, .ref a0), (1, .int a1)] [] y29 _
      refine gk_aload_n hC 0 dX8_goes_36 rfl (q := 37) rfl ?_
      refine gk_iload_n hC 1 dX8_goes_37 rfl (q := 38) rfl ?_
      refine gk_iconst hC (v := 2) dX8_goes_38 kc_i_2 (q := 39) rfl ?_
      refine gk_callV (As := [.int a1, .int 2]) (rest := []) hC (fun l => m_X8_ends l hY a0 a1 2 y29 t0) ml_RX8_172 ok_X8_ends dX8_goes_39 t0 ⟨by decide, rfl⟩ rfl (by decide) (Nat.le_of_ble_eq_true rfl) rfl (q := 42) rfl (fun r31 => ?_)
      show gk_K Z Y 7 gk_rV 42 [(0, .ref a0), (1, .int a1)] [] r31 _
      exact gk_vret hC hR dX8_goes_42 rfl
    · exact lk_X8_goes_6 hY hC hR a0 a1 t0 k36_29 k112_21 hk36_29 hk112_21 gk_fuel (a2, a3, M)
def lp_X8_settles_2 (LN : Nat → Nat) (RF : Nat → Nat → Nat) (v0 : Nat) (k44 : gk_M → Option (gk_M)) : Nat → (Int32 × gk_M) → Option (gk_M)
  | 0, _ => none
  | n + 1, x =>
    gk_ald LN x.2 (RF v0 20) 0 fun x2 =>
    if x2 ≤ x.1 then
      k44 x.2
    else
    (f_X8_knockAt LN RF v0 x.1 x.2).bind fun r3 =>
    gk_jn (fun y4 : gk_M =>
      lp_X8_settles_2 LN RF v0 k44 n ((x.1 + 1), y4)) fun k38_4 =>
    if r3 < 0 then
      k38_4 x.2
    else
    (f_X8_isFree LN RF v0 x.1 x.2).bind fun r6 =>
    if r6 = 0 then
      k38_4 x.2
    else
    (f_X8_rings LN RF v0 r3 (1 <<< (x.1 &&& 31)) x.2).bind fun r7 =>
    k38_4 r7
def f_X8_settles (LN : Nat → Nat) (RF : Nat → Nat → Nat) (a0 : Nat) (M : gk_M) : Option (gk_M) :=
  gk_jn (fun y21 : gk_M =>
    some y21) fun k44_21 =>
  lp_X8_settles_2 LN RF a0 k44_21 gk_fuel (0, M)
set_option maxHeartbeats 4000000 in
set_option maxRecDepth 100000 in
theorem lk_X8_settles_2 {Z : gk_Z} {Y : gk_Y} (hY : gk_WF Y) (hC : gk_C Z Y cX8_settles 3 RX8 2) (hR : gk_R Z Y none) (v0 : Nat) (tv0 : gk_T Y 18 v0) (k44 : gk_M → Option (gk_M)) (hk44 : ∀ z23 : gk_M, gk_K Z Y 3 gk_rV 44 [] [] z23 (k44 z23)) : ∀ (n : Nat) (x : Int32 × gk_M), gk_K Z Y 3 gk_rV 2 [(0, .ref v0), (1, .int x.1)] [] x.2 (lp_X8_settles_2 (gk_ln Y) (gk_rf Y) v0 k44 n x) := by
  intro n
  induction n with
  | zero => intro x; exact gk_none
  | succ n ih =>
    intro x
    rw [lp_X8_settles_2]
    refine gk_iload_n hC 1 dX8_settles_2 rfl (q := 3) rfl ?_
    refine gk_aload_n hC 0 dX8_settles_3 rfl (q := 4) rfl ?_
    refine gk_getR hC dX8_settles_4 fl_RX8_70 (by decide) tv0 (q := 7) rfl (fun t1 => ?_)
    refine gk_iconst hC (v := 0) dX8_settles_7 kc_i_0 (q := 8) rfl ?_
    refine gk_iald hC dX8_settles_8 t1 (q := 9) rfl (fun x2 => ?_)
    refine gk_icmp_ge hC dX8_settles_9 (tg := 44) rfl (q := 12) rfl ?_ ?_
    · refine gk_pick [] rfl ?_
      exact hk44 x.2
    · refine gk_aload_n hC 0 dX8_settles_12 rfl (q := 13) rfl ?_
      refine gk_iload_n hC 1 dX8_settles_13 rfl (q := 14) rfl ?_
      refine gk_callV (As := [.int x.1]) (rest := []) hC (fun l => m_X8_knockAt l hY v0 x.1 x.2 tv0) ml_RX8_154 ok_X8_knockAt dX8_settles_14 tv0 ⟨by decide, rfl⟩ rfl (by decide) (Nat.le_of_ble_eq_true rfl) rfl (q := 17) rfl (fun r3 => ?_)
      show gk_K Z Y 3 gk_rV 17 [(0, .ref v0), (1, .int x.1)] [.int r3] x.2 _
      refine gk_istore_n hC (lv' := [(0, .ref v0), (1, .int x.1), (2, .int r3)]) [1, 2, 0] dX8_settles_17 (by decide) rfl (q := 18) rfl ?_
      refine gk_iload_n hC 2 dX8_settles_18 rfl (q := 19) rfl ?_
      refine gk_jnR (fun k38_4 => ∀ z5 : gk_M, gk_K Z Y 3 gk_rV 38 [(0, .ref v0), (1, .int x.1)] [] z5 (k38_4 z5)) (fun y4 => ?_) (fun k38_4 hk38_4 => ?_)
      · show gk_K Z Y 3 gk_rV 38 [(0, .ref v0), (1, .int x.1)] [] y4 _
        refine gk_iinc hC (v := 1) 1 (lv' := [(0, .ref v0), (1, .int (x.1 + 1))]) [1, 0] dX8_settles_38 rfl kc_i_1 (by decide) rfl (q := 41) rfl ?_
        refine gk_goto hC dX8_settles_41 (q := 2) rfl ?_
        exact ih ((x.1 + 1), y4)
      · refine gk_if_lt hC dX8_settles_19 (tg := 38) rfl (q := 22) rfl ?_ ?_
        · refine gk_pick [0, 1] rfl ?_
          exact hk38_4 x.2
        · refine gk_aload_n hC 0 dX8_settles_22 rfl (q := 23) rfl ?_
          refine gk_iload_n hC 1 dX8_settles_23 rfl (q := 24) rfl ?_
          refine gk_callV (As := [.int x.1]) (rest := []) hC (fun l => m_X8_isFree l hY v0 x.1 x.2 tv0) ml_RX8_148 ok_X8_isFree dX8_settles_24 tv0 ⟨by decide, rfl⟩ rfl (by decide) (Nat.le_of_ble_eq_true rfl) rfl (q := 27) rfl (fun r6 => ?_)
          show gk_K Z Y 3 gk_rV 27 [(0, .ref v0), (1, .int x.1), (2, .int r3)] [.int r6] x.2 _
          refine gk_if_eq hC dX8_settles_27 (tg := 38) rfl (q := 30) rfl ?_ ?_
          · refine gk_pick [0, 1] rfl ?_
            exact hk38_4 x.2
          · refine gk_aload_n hC 0 dX8_settles_30 rfl (q := 31) rfl ?_
            refine gk_iload_n hC 2 dX8_settles_31 rfl (q := 32) rfl ?_
            refine gk_iconst hC (v := 1) dX8_settles_32 kc_i_1 (q := 33) rfl ?_
            refine gk_iload_n hC 1 dX8_settles_33 rfl (q := 34) rfl ?_
            refine gk_ishl hC dX8_settles_34 (q := 35) rfl ?_
            refine gk_callV (As := [.int r3, .int (1 <<< (x.1 &&& 31))]) (rest := []) hC (fun l => m_X8_rings l hY v0 r3 (1 <<< (x.1 &&& 31)) x.2 tv0) ml_RX8_190 ok_X8_rings dX8_settles_35 tv0 ⟨by decide, rfl⟩ rfl (by decide) (Nat.le_of_ble_eq_true rfl) rfl (q := 38) rfl (fun r7 => ?_)
            show gk_K Z Y 3 gk_rV 38 [(0, .ref v0), (1, .int x.1), (2, .int r3)] [] r7 _
            refine gk_pick [0, 1] rfl ?_
            exact hk38_4 r7
set_option maxHeartbeats 4000000 in
set_option maxRecDepth 100000 in
theorem m_X8_settles (l : Launch) {Y : gk_Y} (hY : gk_WF Y) (a0 : Nat) (M : gk_M) (t0 : gk_T Y 18 a0) : gk_MF l Y yX8_settles cX8_settles 3 none 2 [.ref a0] M gk_rV (f_X8_settles (gk_ln Y) (gk_rf Y) a0 M) := by
  refine gk_met hY (plainFor_of_name (by decide)) (Nat.le_of_ble_eq_true rfl) fun Z hC hR => ?_
  show gk_K Z Y 3 gk_rV 0 [(0, .ref a0)] [] M _
  unfold f_X8_settles
  refine gk_iconst hC (v := 0) dX8_settles_0 kc_i_0 (q := 1) rfl ?_
  refine gk_istore_n hC (lv' := [(0, .ref a0), (1, .int 0)]) [1, 0] dX8_settles_1 (by decide) rfl (q := 2) rfl ?_
  refine gk_jnR (fun k44_21 => ∀ z22 : gk_M, gk_K Z Y 3 gk_rV 44 [] [] z22 (k44_21 z22)) (fun y21 => ?_) (fun k44_21 hk44_21 => ?_)
  · show gk_K Z Y 3 gk_rV 44 [] [] y21 _
    exact gk_vret hC hR dX8_settles_44 rfl
  · exact lk_X8_settles_2 hY hC hR a0 t0 k44_21 hk44_21 gk_fuel (0, M)
def f_X8_dials (LN : Nat → Nat) (RF : Nat → Nat → Nat) (a0 : Nat) (a1 : Int32) (a2 : Int32) (M : gk_M) : Option (Int32 × gk_M) :=
  gk_ald LN M (RF a0 20) 2 fun x22 =>
  gk_ald LN M (RF a0 20) 2 fun x24 =>
  gk_ast LN M (RF a0 20) 2 (x24 + 1) fun M25 =>
  gk_ast LN M25 (RF a0 6) x22 a1 fun M27 =>
  gk_ast LN M27 (RF a0 7) x22 0 fun M29 =>
  gk_ast LN M29 (RF a0 8) x22 0 fun M31 =>
  gk_ast LN M31 (RF a0 9) x22 0 fun M33 =>
  gk_ast LN M33 (RF a0 12) x22 0 fun M35 =>
  gk_ast LN M35 (RF a0 13) x22 (-1) fun M37 =>
  gk_ast LN M37 (RF a0 14) x22 0 fun M39 =>
  gk_ast LN M39 (RF a0 15) x22 0 fun M41 =>
  (f_X8_goes LN RF a0 x22 a2 a1 M41).bind fun r42 =>
  (f_X8_settles LN RF a0 r42).bind fun r43 =>
  some (x22, r43)
set_option maxHeartbeats 4000000 in
set_option maxRecDepth 100000 in
theorem m_X8_dials (l : Launch) {Y : gk_Y} (hY : gk_WF Y) (a0 : Nat) (a1 : Int32) (a2 : Int32) (M : gk_M) (t0 : gk_T Y 18 a0) : gk_MF l Y yX8_dials cX8_dials 4 (some .int) 5 [.ref a0, .int a1, .int a2] M gk_rI (f_X8_dials (gk_ln Y) (gk_rf Y) a0 a1 a2 M) := by
  refine gk_met hY (plainFor_of_name (by decide)) (Nat.le_of_ble_eq_true rfl) fun Z hC hR => ?_
  show gk_K Z Y 4 gk_rI 0 [(0, .ref a0), (1, .int a1), (2, .int a2)] [] M _
  unfold f_X8_dials
  refine gk_aload_n hC 0 dX8_dials_0 rfl (q := 1) rfl ?_
  refine gk_getR hC dX8_dials_1 fl_RX8_70 (by decide) t0 (q := 4) rfl (fun t21 => ?_)
  refine gk_iconst hC (v := 2) dX8_dials_4 kc_i_2 (q := 5) rfl ?_
  refine gk_iald hC dX8_dials_5 t21 (q := 6) rfl (fun x22 => ?_)
  refine gk_istore_n hC (lv' := [(0, .ref a0), (1, .int a1), (2, .int a2), (3, .int x22)]) [1, 2, 3, 0] dX8_dials_6 (by decide) rfl (q := 7) rfl ?_
  refine gk_aload_n hC 0 dX8_dials_7 rfl (q := 8) rfl ?_
  refine gk_getR hC dX8_dials_8 fl_RX8_70 (by decide) t0 (q := 11) rfl (fun t23 => ?_)
  refine gk_iconst hC (v := 2) dX8_dials_11 kc_i_2 (q := 12) rfl ?_
  refine gk_dup2 hC dX8_dials_12 rfl rfl (q := 13) rfl ?_
  refine gk_iald hC dX8_dials_13 t23 (q := 14) rfl (fun x24 => ?_)
  refine gk_iconst hC (v := 1) dX8_dials_14 kc_i_1 (q := 15) rfl ?_
  refine gk_iadd hC dX8_dials_15 (q := 16) rfl ?_
  refine gk_iast hC dX8_dials_16 t23 (q := 17) rfl (fun M25 => ?_)
  refine gk_aload_n hC 0 dX8_dials_17 rfl (q := 18) rfl ?_
  refine gk_getR hC dX8_dials_18 fl_RX8_28 (by decide) t0 (q := 21) rfl (fun t26 => ?_)
  refine gk_iload_n hC 3 dX8_dials_21 rfl (q := 22) rfl ?_
  refine gk_iload_n hC 1 dX8_dials_22 rfl (q := 23) rfl ?_
  refine gk_iast hC dX8_dials_23 t26 (q := 24) rfl (fun M27 => ?_)
  refine gk_aload_n hC 0 dX8_dials_24 rfl (q := 25) rfl ?_
  refine gk_getR hC dX8_dials_25 fl_RX8_31 (by decide) t0 (q := 28) rfl (fun t28 => ?_)
  refine gk_iload_n hC 3 dX8_dials_28 rfl (q := 29) rfl ?_
  refine gk_iconst hC (v := 0) dX8_dials_29 kc_i_0 (q := 30) rfl ?_
  refine gk_iast hC dX8_dials_30 t28 (q := 31) rfl (fun M29 => ?_)
  refine gk_aload_n hC 0 dX8_dials_31 rfl (q := 32) rfl ?_
  refine gk_getR hC dX8_dials_32 fl_RX8_34 (by decide) t0 (q := 35) rfl (fun t30 => ?_)
  refine gk_iload_n hC 3 dX8_dials_35 rfl (q := 36) rfl ?_
  refine gk_iconst hC (v := 0) dX8_dials_36 kc_i_0 (q := 37) rfl ?_
  refine gk_iast hC dX8_dials_37 t30 (q := 38) rfl (fun M31 => ?_)
  refine gk_aload_n hC 0 dX8_dials_38 rfl (q := 39) rfl ?_
  refine gk_getR hC dX8_dials_39 fl_RX8_37 (by decide) t0 (q := 42) rfl (fun t32 => ?_)
  refine gk_iload_n hC 3 dX8_dials_42 rfl (q := 43) rfl ?_
  refine gk_iconst hC (v := 0) dX8_dials_43 kc_i_0 (q := 44) rfl ?_
  refine gk_iast hC dX8_dials_44 t32 (q := 45) rfl (fun M33 => ?_)
  refine gk_aload_n hC 0 dX8_dials_45 rfl (q := 46) rfl ?_
  refine gk_getR hC dX8_dials_46 fl_RX8_46 (by decide) t0 (q := 49) rfl (fun t34 => ?_)
  refine gk_iload_n hC 3 dX8_dials_49 rfl (q := 50) rfl ?_
  refine gk_iconst hC (v := 0) dX8_dials_50 kc_i_0 (q := 51) rfl ?_
  refine gk_iast hC dX8_dials_51 t34 (q := 52) rfl (fun M35 => ?_)
  refine gk_aload_n hC 0 dX8_dials_52 rfl (q := 53) rfl ?_
  refine gk_getR hC dX8_dials_53 fl_RX8_49 (by decide) t0 (q := 56) rfl (fun t36 => ?_)
  refine gk_iload_n hC 3 dX8_dials_56 rfl (q := 57) rfl ?_
  refine gk_iconst hC (v := (-1)) dX8_dials_57 kc_i_m1 (q := 58) rfl ?_
  refine gk_iast hC dX8_dials_58 t36 (q := 59) rfl (fun M37 => ?_)
  refine gk_aload_n hC 0 dX8_dials_59 rfl (q := 60) rfl ?_
  refine gk_getR hC dX8_dials_60 fl_RX8_52 (by decide) t0 (q := 63) rfl (fun t38 => ?_)
  refine gk_iload_n hC 3 dX8_dials_63 rfl (q := 64) rfl ?_
  refine gk_iconst hC (v := 0) dX8_dials_64 kc_i_0 (q := 65) rfl ?_
  refine gk_iast hC dX8_dials_65 t38 (q := 66) rfl (fun M39 => ?_)
  refine gk_aload_n hC 0 dX8_dials_66 rfl (q := 67) rfl ?_
  refine gk_getR hC dX8_dials_67 fl_RX8_55 (by decide) t0 (q := 70) rfl (fun t40 => ?_)
  refine gk_iload_n hC 3 dX8_dials_70 rfl (q := 71) rfl ?_
  refine gk_iconst hC (v := 0) dX8_dials_71 kc_i_0 (q := 72) rfl ?_
  refine gk_iast hC dX8_dials_72 t40 (q := 73) rfl (fun M41 => ?_)
  refine gk_aload_n hC 0 dX8_dials_73 rfl (q := 74) rfl ?_
  refine gk_iload_n hC 3 dX8_dials_74 rfl (q := 75) rfl ?_
  refine gk_iload_n hC 2 dX8_dials_75 rfl (q := 76) rfl ?_
  refine gk_iload_n hC 1 dX8_dials_76 rfl (q := 77) rfl ?_
  refine gk_callV (As := [.int x22, .int a2, .int a1]) (rest := []) hC (fun l => m_X8_goes l hY a0 x22 a2 a1 M41 t0) ml_RX8_196 ok_X8_goes dX8_dials_77 t0 ⟨by decide, rfl⟩ rfl (by decide) (Nat.le_of_ble_eq_true rfl) rfl (q := 80) rfl (fun r42 => ?_)
  show gk_K Z Y 4 gk_rI 80 [(0, .ref a0), (1, .int a1), (2, .int a2), (3, .int x22)] [] r42 _
  refine gk_aload_n hC 0 dX8_dials_80 rfl (q := 81) rfl ?_
  refine gk_callV (As := []) (rest := []) hC (fun l => m_X8_settles l hY a0 r42 t0) ml_RX8_199 ok_X8_settles dX8_dials_81 t0 ⟨by decide, rfl⟩ rfl (by decide) (Nat.le_of_ble_eq_true rfl) rfl (q := 84) rfl (fun r43 => ?_)
  show gk_K Z Y 4 gk_rI 84 [(0, .ref a0), (1, .int a1), (2, .int a2), (3, .int x22)] [] r43 _
  refine gk_iload_n hC 3 dX8_dials_84 rfl (q := 85) rfl ?_
  exact gk_iret hC hR dX8_dials_85 rfl
def f_X8_dial (LN : Nat → Nat) (RF : Nat → Nat → Nat) (a0 : Nat) (a1 : Int32) (a2 : Int32) (M : gk_M) : Option (Int32 × gk_M) :=
  (f_X8_isLine LN RF a0 a1 M).bind fun r21 =>
  gk_jn (fun y22 : Unit =>
    (f_X8_refused LN RF a0 1 M).bind fun r24 =>
    some (r24.1, r24.2)) fun k16_22 =>
  if r21 = 0 then
    k16_22 ()
  else
  (f_X8_isLine LN RF a0 a2 M).bind fun r25 =>
  if r25 = 0 then
    k16_22 ()
  else
  gk_ald LN M (RF a0 20) 2 fun x27 =>
  if x27 = 60 then
    (f_X8_refused LN RF a0 2 M).bind fun r28 =>
    some (r28.1, r28.2)
  else
  (f_X8_isFree LN RF a0 a1 M).bind fun r29 =>
  if r29 = 0 then
    (f_X8_refused LN RF a0 3 M).bind fun r30 =>
    some (r30.1, r30.2)
  else
  (f_X8_dials LN RF a0 a1 a2 M).bind fun r31 =>
  (f_X8_done LN RF a0 r31.1 r31.2).bind fun r32 =>
  some (r32.1, r32.2)
set_option maxHeartbeats 4000000 in
set_option maxRecDepth 100000 in
theorem m_X8_dial (l : Launch) {Y : gk_Y} (hY : gk_WF Y) (a0 : Nat) (a1 : Int32) (a2 : Int32) (M : gk_M) (t0 : gk_T Y 18 a0) : gk_MF l Y yX8_dial cX8_dial 3 (some .int) 6 [.ref a0, .int a1, .int a2] M gk_rI (f_X8_dial (gk_ln Y) (gk_rf Y) a0 a1 a2 M) := by
  refine gk_met hY (plainFor_of_name (by decide)) (Nat.le_of_ble_eq_true rfl) fun Z hC hR => ?_
  show gk_K Z Y 3 gk_rI 0 [(0, .ref a0), (1, .int a1), (2, .int a2)] [] M _
  unfold f_X8_dial
  refine gk_aload_n hC 0 dX8_dial_0 rfl (q := 1) rfl ?_
  refine gk_iload_n hC 1 dX8_dial_1 rfl (q := 2) rfl ?_
  refine gk_callV (As := [.int a1]) (rest := []) hC (fun l => m_X8_isLine l hY a0 a1 M t0) ml_RX8_120 ok_X8_isLine dX8_dial_2 t0 ⟨by decide, rfl⟩ rfl (by decide) (Nat.le_of_ble_eq_true rfl) rfl (q := 5) rfl (fun r21 => ?_)
  show gk_K Z Y 3 gk_rI 5 [(0, .ref a0), (1, .int a1), (2, .int a2)] [.int r21] M _
  refine gk_jnR (fun k16_22 => ∀ z23 : Unit, gk_K Z Y 3 gk_rI 16 [(0, .ref a0)] [] M (k16_22 z23)) (fun y22 => ?_) (fun k16_22 hk16_22 => ?_)
  · show gk_K Z Y 3 gk_rI 16 [(0, .ref a0)] [] M _
    refine gk_aload_n hC 0 dX8_dial_16 rfl (q := 17) rfl ?_
    refine gk_iconst hC (v := 1) dX8_dial_17 kc_i_1 (q := 18) rfl ?_
    refine gk_callV (As := [.int 1]) (rest := []) hC (fun l => m_X8_refused l hY a0 1 M t0) ml_RX8_113 ok_X8_refused dX8_dial_18 t0 ⟨by decide, rfl⟩ rfl (by decide) (Nat.le_of_ble_eq_true rfl) rfl (q := 21) rfl (fun r24 => ?_)
    show gk_K Z Y 3 gk_rI 21 [(0, .ref a0)] [.int r24.1] r24.2 _
    exact gk_iret hC hR dX8_dial_21 rfl
  · refine gk_if_eq hC dX8_dial_5 (tg := 16) rfl (q := 8) rfl ?_ ?_
    · refine gk_pick [0] rfl ?_
      exact hk16_22 ()
    · refine gk_aload_n hC 0 dX8_dial_8 rfl (q := 9) rfl ?_
      refine gk_iload_n hC 2 dX8_dial_9 rfl (q := 10) rfl ?_
      refine gk_callV (As := [.int a2]) (rest := []) hC (fun l => m_X8_isLine l hY a0 a2 M t0) ml_RX8_120 ok_X8_isLine dX8_dial_10 t0 ⟨by decide, rfl⟩ rfl (by decide) (Nat.le_of_ble_eq_true rfl) rfl (q := 13) rfl (fun r25 => ?_)
      show gk_K Z Y 3 gk_rI 13 [(0, .ref a0), (1, .int a1), (2, .int a2)] [.int r25] M _
      refine gk_if_ne hC dX8_dial_13 (tg := 22) rfl (q := 16) rfl ?_ ?_
      · refine gk_pick [0] rfl ?_
        exact hk16_22 ()
      · refine gk_aload_n hC 0 dX8_dial_22 rfl (q := 23) rfl ?_
        refine gk_getR hC dX8_dial_23 fl_RX8_70 (by decide) t0 (q := 26) rfl (fun t26 => ?_)
        refine gk_iconst hC (v := 2) dX8_dial_26 kc_i_2 (q := 27) rfl ?_
        refine gk_iald hC dX8_dial_27 t26 (q := 28) rfl (fun x27 => ?_)
        refine gk_bipush hC (v := 60) dX8_dial_28 kc_b_60 (q := 30) rfl ?_
        refine gk_icmp_ne hC dX8_dial_30 (tg := 39) rfl (q := 33) rfl ?_ ?_
        · refine gk_aload_n hC 0 dX8_dial_33 rfl (q := 34) rfl ?_
          refine gk_iconst hC (v := 2) dX8_dial_34 kc_i_2 (q := 35) rfl ?_
          refine gk_callV (As := [.int 2]) (rest := []) hC (fun l => m_X8_refused l hY a0 2 M t0) ml_RX8_113 ok_X8_refused dX8_dial_35 t0 ⟨by decide, rfl⟩ rfl (by decide) (Nat.le_of_ble_eq_true rfl) rfl (q := 38) rfl (fun r28 => ?_)
          show gk_K Z Y 3 gk_rI 38 [(0, .ref a0), (1, .int a1), (2, .int a2)] [.int r28.1] r28.2 _
          exact gk_iret hC hR dX8_dial_38 rfl
        · refine gk_aload_n hC 0 dX8_dial_39 rfl (q := 40) rfl ?_
          refine gk_iload_n hC 1 dX8_dial_40 rfl (q := 41) rfl ?_
          refine gk_callV (As := [.int a1]) (rest := []) hC (fun l => m_X8_isFree l hY a0 a1 M t0) ml_RX8_148 ok_X8_isFree dX8_dial_41 t0 ⟨by decide, rfl⟩ rfl (by decide) (Nat.le_of_ble_eq_true rfl) rfl (q := 44) rfl (fun r29 => ?_)
          show gk_K Z Y 3 gk_rI 44 [(0, .ref a0), (1, .int a1), (2, .int a2)] [.int r29] M _
          refine gk_if_ne hC dX8_dial_44 (tg := 53) rfl (q := 47) rfl ?_ ?_
          · refine gk_aload_n hC 0 dX8_dial_47 rfl (q := 48) rfl ?_
            refine gk_iconst hC (v := 3) dX8_dial_48 kc_i_3 (q := 49) rfl ?_
            refine gk_callV (As := [.int 3]) (rest := []) hC (fun l => m_X8_refused l hY a0 3 M t0) ml_RX8_113 ok_X8_refused dX8_dial_49 t0 ⟨by decide, rfl⟩ rfl (by decide) (Nat.le_of_ble_eq_true rfl) rfl (q := 52) rfl (fun r30 => ?_)
            show gk_K Z Y 3 gk_rI 52 [(0, .ref a0), (1, .int a1), (2, .int a2)] [.int r30.1] r30.2 _
            exact gk_iret hC hR dX8_dial_52 rfl
          · refine gk_aload_n hC 0 dX8_dial_53 rfl (q := 54) rfl ?_
            refine gk_aload_n hC 0 dX8_dial_54 rfl (q := 55) rfl ?_
            refine gk_iload_n hC 1 dX8_dial_55 rfl (q := 56) rfl ?_
            refine gk_iload_n hC 2 dX8_dial_56 rfl (q := 57) rfl ?_
            refine gk_callV (As := [.int a1, .int a2]) (rest := [.ref a0]) hC (fun l => m_X8_dials l hY a0 a1 a2 M t0) ml_RX8_202 ok_X8_dials dX8_dial_57 t0 ⟨by decide, rfl⟩ rfl (by decide) (Nat.le_of_ble_eq_true rfl) rfl (q := 60) rfl (fun r31 => ?_)
            show gk_K Z Y 3 gk_rI 60 [(0, .ref a0), (1, .int a1), (2, .int a2)] [.int r31.1, .ref a0] r31.2 _
            refine gk_callV (As := [.int r31.1]) (rest := []) hC (fun l => m_X8_done l hY a0 r31.1 r31.2 t0) ml_RX8_117 ok_X8_done dX8_dial_60 t0 ⟨by decide, rfl⟩ rfl (by decide) (Nat.le_of_ble_eq_true rfl) rfl (q := 63) rfl (fun r32 => ?_)
            show gk_K Z Y 3 gk_rI 63 [(0, .ref a0), (1, .int a1), (2, .int a2)] [.int r32.1] r32.2 _
            exact gk_iret hC hR dX8_dial_63 rfl
def f_X8_take (LN : Nat → Nat) (RF : Nat → Nat → Nat) (a0 : Nat) (a1 : Int32) (M : gk_M) : Option (Int32 × gk_M) :=
  (f_X8_isLine LN RF a0 a1 M).bind fun r21 =>
  if r21 = 0 then
    (f_X8_refused LN RF a0 1 M).bind fun r22 =>
    some (r22.1, r22.2)
  else
  (f_X8_callOf LN RF a0 a1 M).bind fun r23 =>
  gk_jn (fun y24 : Unit =>
    (f_X8_refused LN RF a0 3 M).bind fun r26 =>
    some (r26.1, r26.2)) fun k37_24 =>
  if r23 < 0 then
    k37_24 ()
  else
  gk_ald LN M (RF a0 12) r23 fun x28 =>
  if ((x28 >>> (a1 &&& 31)) &&& 1) = 0 then
    k37_24 ()
  else
  gk_ast LN M (RF a0 7) r23 1 fun M30 =>
  gk_ast LN M30 (RF a0 12) r23 0 fun M32 =>
  gk_ast LN M32 (RF a0 13) r23 a1 fun M34 =>
  (f_X8_settles LN RF a0 M34).bind fun r35 =>
  (f_X8_done LN RF a0 r23 r35).bind fun r36 =>
  some (r36.1, r36.2)
set_option maxHeartbeats 4000000 in
set_option maxRecDepth 100000 in
theorem m_X8_take (l : Launch) {Y : gk_Y} (hY : gk_WF Y) (a0 : Nat) (a1 : Int32) (M : gk_M) (t0 : gk_T Y 18 a0) : gk_MF l Y yX8_take cX8_take 3 (some .int) 3 [.ref a0, .int a1] M gk_rI (f_X8_take (gk_ln Y) (gk_rf Y) a0 a1 M) := by
  refine gk_met hY (plainFor_of_name (by decide)) (Nat.le_of_ble_eq_true rfl) fun Z hC hR => ?_
  show gk_K Z Y 3 gk_rI 0 [(0, .ref a0), (1, .int a1)] [] M _
  unfold f_X8_take
  refine gk_aload_n hC 0 dX8_take_0 rfl (q := 1) rfl ?_
  refine gk_iload_n hC 1 dX8_take_1 rfl (q := 2) rfl ?_
  refine gk_callV (As := [.int a1]) (rest := []) hC (fun l => m_X8_isLine l hY a0 a1 M t0) ml_RX8_120 ok_X8_isLine dX8_take_2 t0 ⟨by decide, rfl⟩ rfl (by decide) (Nat.le_of_ble_eq_true rfl) rfl (q := 5) rfl (fun r21 => ?_)
  show gk_K Z Y 3 gk_rI 5 [(0, .ref a0), (1, .int a1)] [.int r21] M _
  refine gk_if_ne hC dX8_take_5 (tg := 14) rfl (q := 8) rfl ?_ ?_
  · refine gk_aload_n hC 0 dX8_take_8 rfl (q := 9) rfl ?_
    refine gk_iconst hC (v := 1) dX8_take_9 kc_i_1 (q := 10) rfl ?_
    refine gk_callV (As := [.int 1]) (rest := []) hC (fun l => m_X8_refused l hY a0 1 M t0) ml_RX8_113 ok_X8_refused dX8_take_10 t0 ⟨by decide, rfl⟩ rfl (by decide) (Nat.le_of_ble_eq_true rfl) rfl (q := 13) rfl (fun r22 => ?_)
    show gk_K Z Y 3 gk_rI 13 [(0, .ref a0), (1, .int a1)] [.int r22.1] r22.2 _
    exact gk_iret hC hR dX8_take_13 rfl
  · refine gk_aload_n hC 0 dX8_take_14 rfl (q := 15) rfl ?_
    refine gk_iload_n hC 1 dX8_take_15 rfl (q := 16) rfl ?_
    refine gk_callV (As := [.int a1]) (rest := []) hC (fun l => m_X8_callOf l hY a0 a1 M t0) ml_RX8_145 ok_X8_callOf dX8_take_16 t0 ⟨by decide, rfl⟩ rfl (by decide) (Nat.le_of_ble_eq_true rfl) rfl (q := 19) rfl (fun r23 => ?_)
    show gk_K Z Y 3 gk_rI 19 [(0, .ref a0), (1, .int a1)] [.int r23] M _
    refine gk_istore_n hC (lv' := [(0, .ref a0), (1, .int a1), (2, .int r23)]) [1, 2, 0] dX8_take_19 (by decide) rfl (q := 20) rfl ?_
    refine gk_iload_n hC 2 dX8_take_20 rfl (q := 21) rfl ?_
    refine gk_jnR (fun k37_24 => ∀ z25 : Unit, gk_K Z Y 3 gk_rI 37 [(0, .ref a0)] [] M (k37_24 z25)) (fun y24 => ?_) (fun k37_24 hk37_24 => ?_)
    · show gk_K Z Y 3 gk_rI 37 [(0, .ref a0)] [] M _
      refine gk_aload_n hC 0 dX8_take_37 rfl (q := 38) rfl ?_
      refine gk_iconst hC (v := 3) dX8_take_38 kc_i_3 (q := 39) rfl ?_
      refine gk_callV (As := [.int 3]) (rest := []) hC (fun l => m_X8_refused l hY a0 3 M t0) ml_RX8_113 ok_X8_refused dX8_take_39 t0 ⟨by decide, rfl⟩ rfl (by decide) (Nat.le_of_ble_eq_true rfl) rfl (q := 42) rfl (fun r26 => ?_)
      show gk_K Z Y 3 gk_rI 42 [(0, .ref a0)] [.int r26.1] r26.2 _
      exact gk_iret hC hR dX8_take_42 rfl
    · refine gk_if_lt hC dX8_take_21 (tg := 37) rfl (q := 24) rfl ?_ ?_
      · refine gk_pick [0] rfl ?_
        exact hk37_24 ()
      · refine gk_aload_n hC 0 dX8_take_24 rfl (q := 25) rfl ?_
        refine gk_getR hC dX8_take_25 fl_RX8_46 (by decide) t0 (q := 28) rfl (fun t27 => ?_)
        refine gk_iload_n hC 2 dX8_take_28 rfl (q := 29) rfl ?_
        refine gk_iald hC dX8_take_29 t27 (q := 30) rfl (fun x28 => ?_)
        refine gk_iload_n hC 1 dX8_take_30 rfl (q := 31) rfl ?_
        refine gk_ishr hC dX8_take_31 (q := 32) rfl ?_
        refine gk_iconst hC (v := 1) dX8_take_32 kc_i_1 (q := 33) rfl ?_
        refine gk_iand hC dX8_take_33 (q := 34) rfl ?_
        refine gk_if_ne hC dX8_take_34 (tg := 43) rfl (q := 37) rfl ?_ ?_
        · refine gk_pick [0] rfl ?_
          exact hk37_24 ()
        · refine gk_aload_n hC 0 dX8_take_43 rfl (q := 44) rfl ?_
          refine gk_getR hC dX8_take_44 fl_RX8_31 (by decide) t0 (q := 47) rfl (fun t29 => ?_)
          refine gk_iload_n hC 2 dX8_take_47 rfl (q := 48) rfl ?_
          refine gk_iconst hC (v := 1) dX8_take_48 kc_i_1 (q := 49) rfl ?_
          refine gk_iast hC dX8_take_49 t29 (q := 50) rfl (fun M30 => ?_)
          refine gk_aload_n hC 0 dX8_take_50 rfl (q := 51) rfl ?_
          refine gk_getR hC dX8_take_51 fl_RX8_46 (by decide) t0 (q := 54) rfl (fun t31 => ?_)
          refine gk_iload_n hC 2 dX8_take_54 rfl (q := 55) rfl ?_
          refine gk_iconst hC (v := 0) dX8_take_55 kc_i_0 (q := 56) rfl ?_
          refine gk_iast hC dX8_take_56 t31 (q := 57) rfl (fun M32 => ?_)
          refine gk_aload_n hC 0 dX8_take_57 rfl (q := 58) rfl ?_
          refine gk_getR hC dX8_take_58 fl_RX8_49 (by decide) t0 (q := 61) rfl (fun t33 => ?_)
          refine gk_iload_n hC 2 dX8_take_61 rfl (q := 62) rfl ?_
          refine gk_iload_n hC 1 dX8_take_62 rfl (q := 63) rfl ?_
          refine gk_iast hC dX8_take_63 t33 (q := 64) rfl (fun M34 => ?_)
          refine gk_aload_n hC 0 dX8_take_64 rfl (q := 65) rfl ?_
          refine gk_callV (As := []) (rest := []) hC (fun l => m_X8_settles l hY a0 M34 t0) ml_RX8_199 ok_X8_settles dX8_take_65 t0 ⟨by decide, rfl⟩ rfl (by decide) (Nat.le_of_ble_eq_true rfl) rfl (q := 68) rfl (fun r35 => ?_)
          show gk_K Z Y 3 gk_rI 68 [(0, .ref a0), (1, .int a1), (2, .int r23)] [] r35 _
          refine gk_aload_n hC 0 dX8_take_68 rfl (q := 69) rfl ?_
          refine gk_iload_n hC 2 dX8_take_69 rfl (q := 70) rfl ?_
          refine gk_callV (As := [.int r23]) (rest := []) hC (fun l => m_X8_done l hY a0 r23 r35 t0) ml_RX8_117 ok_X8_done dX8_take_70 t0 ⟨by decide, rfl⟩ rfl (by decide) (Nat.le_of_ble_eq_true rfl) rfl (q := 73) rfl (fun r36 => ?_)
          show gk_K Z Y 3 gk_rI 73 [(0, .ref a0), (1, .int a1), (2, .int r23)] [.int r36.1] r36.2 _
          exact gk_iret hC hR dX8_take_73 rfl
end
