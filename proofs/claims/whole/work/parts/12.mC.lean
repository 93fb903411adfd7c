/-! LabyrinthGarden$Walker.placeBehind -/
def f_X8_placeBehind_147 (k118 : Int32 → Int32 → Int32 → Int32 → Int32 → Int32 → St → Option (Int32 × St)) (x5 : Int32) (x6 : Int32) (x7 : Int32) (x10 : Int32) (x11 : Int32) (s0 : Int32) (S : St) : Option (Int32 × St) :=
  lt ((x10 - ((ush x7 s0) &&& 1)) : Int32) fun y1 =>
  lt (x11 + 1 : Int32) fun y2 =>
  k118 x5 x6 x7 s0 y1 y2 S
def f_X8_placeBehind_167  (x5 : Int32) (x9 : Int32) (S : St) : Option (Int32 × St) :=
  ck (x5 + x9) 24 <|
  some ((rd S 13 (x5 + x9).toNatClampNeg), S)
def f_X8_placeBehind_118 (k118 : Int32 → Int32 → Int32 → Int32 → Int32 → Int32 → St → Option (Int32 × St)) (x5 : Int32) (x6 : Int32) (x7 : Int32) (x9 : Int32) (x10 : Int32) (x11 : Int32) (S : St) : Option (Int32 × St) :=
  if x6 ≤ x11 then (
    f_X8_placeBehind_167  x5 x9 S)
  else (
    if x10 ≤ 0 then (
      f_X8_placeBehind_167  x5 x9 S)
    else (
      if x6 ≤ (x9 + 1) then (
        f_X8_placeBehind_147 k118 x5 x6 x7 x10 x11 0 S)
      else (
        f_X8_placeBehind_147 k118 x5 x6 x7 x10 x11 (x9 + 1) S)))
def g_X8_placeBehind_118  : Nat → Int32 → Int32 → Int32 → Int32 → Int32 → Int32 → St → Option (Int32 × St)
  | 0 => fun _ _ _ _ _ _ _ => none
  | n + 1 => f_X8_placeBehind_118 (g_X8_placeBehind_118  n)
def f_X8_placeBehind_97  (x2 : Int32) (x5 : Int32) (x6 : Int32) (x7 : Int32) (x8 : Int32) (x9 : Int32) (S : St) : Option (Int32 × St) :=
  if x2 = 0 then (
    g_X8_placeBehind_118  fuel x5 x6 x7 x9 1 0 S)
  else (
    ckn x8 <|
    lt (((irem (x2 - 1) x8) + 1) : Int32) fun y3 =>
    g_X8_placeBehind_118  fuel x5 x6 x7 x9 y3 0 S)
def f_X8_placeBehind_0  (x1 : Int32) (x2 : Int32) (x3 : Int32) (S : St) : Option (Int32 × St) :=
  ck x1 24 <|
  lt ((rd S 10 x1.toNatClampNeg) : Int32) fun y2 =>
  ck y2 8 <|
  lt ((rd S 9 y2.toNatClampNeg) : Int32) fun y4 =>
  lt ((rd S 8 y2.toNatClampNeg) : Int32) fun y5 =>
  lt (((ush x3 y4) &&& ((shl 1 y5) - 1)) : Int32) fun y6 =>
  bI (m_J6_bitCount_0f7a4 y6 S) fun r8 S7 =>
  if r8 = 0 then (
    some (x1, S7))
  else (
    lt ((rd S7 11 x1.toNatClampNeg) : Int32) fun y10 =>
    if x2 = 0 then (
      bI (m_X9_hasBit y6 y10 S7) fun r13 S12 =>
      if r13 = 0 then (
        f_X8_placeBehind_97  x2 y4 y5 y6 r8 y10 S12)
      else (
        some ((rd S12 13 x1.toNatClampNeg), S12)))
    else (
      f_X8_placeBehind_97  x2 y4 y5 y6 r8 y10 S7))
def m_X8_placeBehind (a1 : Int32) (a2 : Int32) (a3 : Int32) (S : St) : Option (Int32 × St) := f_X8_placeBehind_0 a1 a2 a3 S
def rm_X8_placeBehind : Room := { frames := 1, cells := 0, slots := 0, locals := 21 }
set_option maxRecDepth 20000 in
set_option maxHeartbeats 2000000 in
theorem t_X8_placeBehind_147 {x : Ctx} (C : Cx x WX cX8_placeBehind RX8 12 rm_X8_placeBehind (some .int)) {res : Int32 × St} {k118 : Int32 → Int32 → Int32 → Int32 → Int32 → Int32 → St → Option (Int32 × St)} (hk118 : ∀ (x5 : Int32) (x6 : Int32) (x7 : Int32) (x9 : Int32) (x10 : Int32) (x11 : Int32) (S : St), k118 x5 x6 x7 x9 x10 x11 S = some res → V x WX 12 (QI x WX res) S 118 [(0, .ref (xq x 24)), (5, .int x5), (6, .int x6), (7, .int x7), (9, .int x9), (10, .int x10), (11, .int x11)] []) (x5 : Int32) (x6 : Int32) (x7 : Int32) (x10 : Int32) (x11 : Int32) (s0 : Int32) (S : St) (h : f_X8_placeBehind_147 k118 x5 x6 x7 x10 x11 s0 S = some res) : V x WX 12 (QI x WX res) S 147 [(0, .ref (xq x 24)), (5, .int x5), (6, .int x6), (7, .int x7), (10, .int x10), (11, .int x11)] [.int s0] := by
  unfold f_X8_placeBehind_147 at h
  refine v_istore (L' := [(9, .int s0), (0, .ref (xq x 24)), (5, .int x5), (6, .int x6), (7, .int x7), (10, .int x10), (11, .int x11)]) C dX8_placeBehind_147 (by decide) rfl (n := 149) rfl rfl ?_
  refine v_iload C 5 dX8_placeBehind_149 rfl (n := 151) rfl ?_
  refine v_iload C 4 dX8_placeBehind_151 rfl (n := 153) rfl ?_
  refine v_iload C 0 dX8_placeBehind_153 rfl (n := 155) rfl ?_
  refine v_iushr C dX8_placeBehind_155 (n := 156) rfl ?_
  refine v_iconst (v := 1) C dX8_placeBehind_156 (by decide) (n := 157) rfl ?_
  refine v_iand C dX8_placeBehind_157 (n := 158) rfl ?_
  refine v_isub C dX8_placeBehind_158 (n := 159) rfl ?_
  obtain ⟨y1, ey1, h⟩ := lt_e h
  refine v_istore (L' := [(10, .int y1), (9, .int s0), (0, .ref (xq x 24)), (5, .int x5), (6, .int x6), (7, .int x7), (11, .int x11)]) C dX8_placeBehind_159 (by decide) rfl (n := 161) rfl ey1 ?_
  obtain ⟨y2, ey2, h⟩ := lt_e h
  refine v_iinc (L' := [(11, .int y2), (10, .int y1), (9, .int s0), (0, .ref (xq x 24)), (5, .int x5), (6, .int x6), (7, .int x7)]) C 6 dX8_placeBehind_161 rfl (by rw [ey2]; rfl) (by decide) rfl (n := 164) rfl ?_
  refine v_goto C dX8_placeBehind_164 (n := 118) (by decide) ?_
  refine v_sub [3, 4, 5, 6, 2, 1, 0] rfl ?_
  exact hk118 x5 x6 x7 s0 y1 y2 S h
set_option maxRecDepth 20000 in
set_option maxHeartbeats 2000000 in
theorem t_X8_placeBehind_167 {x : Ctx} (C : Cx x WX cX8_placeBehind RX8 12 rm_X8_placeBehind (some .int)) {res : Int32 × St}  (x5 : Int32) (x9 : Int32) (S : St) (h : f_X8_placeBehind_167  x5 x9 S = some res) : V x WX 12 (QI x WX res) S 167 [(0, .ref (xq x 24)), (5, .int x5), (9, .int x9)] [] := by
  unfold f_X8_placeBehind_167 at h
  refine v_aload_n C 0 dX8_placeBehind_167 rfl rfl (n := 168) rfl ?_
  refine g_X8_garden C w_5_12 dX8_placeBehind_168 (n := 171) rfl ?_
  refine g_X0_otherOf C w_21_16 dX8_placeBehind_171 (n := 174) rfl ?_
  refine v_iload C 1 dX8_placeBehind_174 rfl (n := 176) rfl ?_
  refine v_iload C 2 dX8_placeBehind_176 rfl (n := 178) rfl ?_
  refine v_iadd C dX8_placeBehind_178 (n := 179) rfl ?_
  obtain ⟨hi1, h⟩ := ck_e h
  refine v_ald C aX_13 hi1 dX8_placeBehind_179 (n := 180) rfl ?_
  obtain rfl := Option.some.inj h
  exact v_iret C dX8_placeBehind_180
set_option maxRecDepth 20000 in
set_option maxHeartbeats 2000000 in
theorem t_X8_placeBehind_118 {x : Ctx} (C : Cx x WX cX8_placeBehind RX8 12 rm_X8_placeBehind (some .int)) {res : Int32 × St} {k118 : Int32 → Int32 → Int32 → Int32 → Int32 → Int32 → St → Option (Int32 × St)} (hk118 : ∀ (x5 : Int32) (x6 : Int32) (x7 : Int32) (x9 : Int32) (x10 : Int32) (x11 : Int32) (S : St), k118 x5 x6 x7 x9 x10 x11 S = some res → V x WX 12 (QI x WX res) S 118 [(0, .ref (xq x 24)), (5, .int x5), (6, .int x6), (7, .int x7), (9, .int x9), (10, .int x10), (11, .int x11)] []) (x5 : Int32) (x6 : Int32) (x7 : Int32) (x9 : Int32) (x10 : Int32) (x11 : Int32) (S : St) (h : f_X8_placeBehind_118 k118 x5 x6 x7 x9 x10 x11 S = some res) : V x WX 12 (QI x WX res) S 118 [(0, .ref (xq x 24)), (5, .int x5), (6, .int x6), (7, .int x7), (9, .int x9), (10, .int x10), (11, .int x11)] [] := by
  unfold f_X8_placeBehind_118 at h
  refine v_iload C 6 dX8_placeBehind_118 rfl (n := 120) rfl ?_
  refine v_iload C 2 dX8_placeBehind_120 rfl (n := 122) rfl ?_
  refine v_icmp_ge C dX8_placeBehind_122 (t := 167) (by decide) (n := 125) rfl (fun c1 => ?_) (fun c1 => ?_)
  · have h := ite_p c1 h
    refine v_sub [0, 1, 4] rfl ?_
    exact t_X8_placeBehind_167 C  x5 x9 S h
  · have h := ite_n c1 h
    refine v_iload C 5 dX8_placeBehind_125 rfl (n := 127) rfl ?_
    refine v_if_le C dX8_placeBehind_127 (t := 167) (by decide) (n := 130) rfl (fun c2 => ?_) (fun c2 => ?_)
    · have h := ite_p c2 h
      refine v_sub [0, 1, 4] rfl ?_
      exact t_X8_placeBehind_167 C  x5 x9 S h
    · have h := ite_n c2 h
      refine v_iload C 4 dX8_placeBehind_130 rfl (n := 132) rfl ?_
      refine v_iconst (v := 1) C dX8_placeBehind_132 (by decide) (n := 133) rfl ?_
      refine v_iadd C dX8_placeBehind_133 (n := 134) rfl ?_
      refine v_iload C 2 dX8_placeBehind_134 rfl (n := 136) rfl ?_
      refine v_icmp_ge C dX8_placeBehind_136 (t := 146) (by decide) (n := 139) rfl (fun c3 => ?_) (fun c3 => ?_)
      · have h := ite_p c3 h
        refine v_iconst (v := 0) C dX8_placeBehind_146 (by decide) (n := 147) rfl ?_
        refine v_sub [0, 1, 2, 3, 5, 6] rfl ?_
        exact t_X8_placeBehind_147 C hk118 x5 x6 x7 x10 x11 0 S h
      · have h := ite_n c3 h
        refine v_iload C 4 dX8_placeBehind_139 rfl (n := 141) rfl ?_
        refine v_iconst (v := 1) C dX8_placeBehind_141 (by decide) (n := 142) rfl ?_
        refine v_iadd C dX8_placeBehind_142 (n := 143) rfl ?_
        refine v_goto C dX8_placeBehind_143 (n := 147) (by decide) ?_
        refine v_sub [0, 1, 2, 3, 5, 6] rfl ?_
        exact t_X8_placeBehind_147 C hk118 x5 x6 x7 x10 x11 (x9 + 1) S h
theorem tg_X8_placeBehind_118 {x : Ctx} (C : Cx x WX cX8_placeBehind RX8 12 rm_X8_placeBehind (some .int)) {res : Int32 × St}  : ∀ (n : Nat) (x5 : Int32) (x6 : Int32) (x7 : Int32) (x9 : Int32) (x10 : Int32) (x11 : Int32) (S : St), g_X8_placeBehind_118  n x5 x6 x7 x9 x10 x11 S = some res → V x WX 12 (QI x WX res) S 118 [(0, .ref (xq x 24)), (5, .int x5), (6, .int x6), (7, .int x7), (9, .int x9), (10, .int x10), (11, .int x11)] [] := by
  intro n
  induction n with
  | zero => intro x5 x6 x7 x9 x10 x11 S h; cases h
  | succ n ih => intro x5 x6 x7 x9 x10 x11 S h; exact t_X8_placeBehind_118 C (fun x5 x6 x7 x9 x10 x11 S h => ih x5 x6 x7 x9 x10 x11 S h) x5 x6 x7 x9 x10 x11 S h
set_option maxRecDepth 20000 in
set_option maxHeartbeats 2000000 in
theorem t_X8_placeBehind_97 {x : Ctx} (C : Cx x WX cX8_placeBehind RX8 12 rm_X8_placeBehind (some .int)) {res : Int32 × St}  (x2 : Int32) (x5 : Int32) (x6 : Int32) (x7 : Int32) (x8 : Int32) (x9 : Int32) (S : St) (h : f_X8_placeBehind_97  x2 x5 x6 x7 x8 x9 S = some res) : V x WX 12 (QI x WX res) S 97 [(0, .ref (xq x 24)), (2, .int x2), (5, .int x5), (6, .int x6), (7, .int x7), (8, .int x8), (9, .int x9)] [] := by
  unfold f_X8_placeBehind_97 at h
  refine v_iload_n C 1 dX8_placeBehind_97 rfl rfl (n := 98) rfl ?_
  refine v_if_ne C dX8_placeBehind_98 (t := 105) (by decide) (n := 101) rfl (fun c1 => ?_) (fun c1 => ?_)
  · have h := ite_n c1 h
    refine v_iload_n C 1 dX8_placeBehind_105 rfl rfl (n := 106) rfl ?_
    refine v_iconst (v := 1) C dX8_placeBehind_106 (by decide) (n := 107) rfl ?_
    refine v_isub C dX8_placeBehind_107 (n := 108) rfl ?_
    refine v_iload C 5 dX8_placeBehind_108 rfl (n := 110) rfl ?_
    obtain ⟨hz2, h⟩ := ckn_e h
    refine v_irem C dX8_placeBehind_110 hz2 (n := 111) rfl ?_
    refine v_iconst (v := 1) C dX8_placeBehind_111 (by decide) (n := 112) rfl ?_
    refine v_iadd C dX8_placeBehind_112 (n := 113) rfl ?_
    obtain ⟨y3, ey3, h⟩ := lt_e h
    refine v_istore (L' := [(10, .int y3), (0, .ref (xq x 24)), (2, .int x2), (5, .int x5), (6, .int x6), (7, .int x7), (8, .int x8), (9, .int x9)]) C dX8_placeBehind_113 (by decide) rfl (n := 115) rfl ey3 ?_
    refine v_iconst (v := 0) C dX8_placeBehind_115 (by decide) (n := 116) rfl ?_
    refine v_istore (L' := [(11, .int 0), (10, .int y3), (0, .ref (xq x 24)), (2, .int x2), (5, .int x5), (6, .int x6), (7, .int x7), (8, .int x8), (9, .int x9)]) C dX8_placeBehind_116 (by decide) rfl (n := 118) rfl rfl ?_
    refine v_sub [2, 4, 5, 6, 8, 1, 0] rfl ?_
    exact tg_X8_placeBehind_118 C  fuel x5 x6 x7 x9 y3 0 S h
  · have h := ite_p c1 h
    refine v_iconst (v := 1) C dX8_placeBehind_101 (by decide) (n := 102) rfl ?_
    refine v_goto C dX8_placeBehind_102 (n := 113) (by decide) ?_
    refine v_istore (L' := [(10, .int 1), (0, .ref (xq x 24)), (2, .int x2), (5, .int x5), (6, .int x6), (7, .int x7), (8, .int x8), (9, .int x9)]) C dX8_placeBehind_113 (by decide) rfl (n := 115) rfl rfl ?_
    refine v_iconst (v := 0) C dX8_placeBehind_115 (by decide) (n := 116) rfl ?_
    refine v_istore (L' := [(11, .int 0), (10, .int 1), (0, .ref (xq x 24)), (2, .int x2), (5, .int x5), (6, .int x6), (7, .int x7), (8, .int x8), (9, .int x9)]) C dX8_placeBehind_116 (by decide) rfl (n := 118) rfl rfl ?_
    refine v_sub [2, 4, 5, 6, 8, 1, 0] rfl ?_
    exact tg_X8_placeBehind_118 C  fuel x5 x6 x7 x9 1 0 S h
set_option maxRecDepth 20000 in
set_option maxHeartbeats 2000000 in
theorem t_X8_placeBehind_0 {x : Ctx} (C : Cx x WX cX8_placeBehind RX8 12 rm_X8_placeBehind (some .int)) {res : Int32 × St}  (x1 : Int32) (x2 : Int32) (x3 : Int32) (S : St) (h : f_X8_placeBehind_0  x1 x2 x3 S = some res) : V x WX 12 (QI x WX res) S 0 [(0, .ref (xq x 24)), (1, .int x1), (2, .int x2), (3, .int x3)] [] := by
  unfold f_X8_placeBehind_0 at h
  refine v_aload_n C 0 dX8_placeBehind_0 rfl rfl (n := 1) rfl ?_
  refine g_X8_garden C w_5_12 dX8_placeBehind_1 (n := 4) rfl ?_
  refine g_X0_junctionAt C w_20_21 dX8_placeBehind_4 (n := 7) rfl ?_
  refine v_iload_n C 1 dX8_placeBehind_7 rfl rfl (n := 8) rfl ?_
  obtain ⟨hi1, h⟩ := ck_e h
  refine v_ald C aX_10 hi1 dX8_placeBehind_8 (n := 9) rfl ?_
  obtain ⟨y2, ey2, h⟩ := lt_e h
  refine v_istore (L' := [(4, .int y2), (0, .ref (xq x 24)), (1, .int x1), (2, .int x2), (3, .int x3)]) C dX8_placeBehind_9 (by decide) rfl (n := 11) rfl ey2 ?_
  refine v_aload_n C 1 dX8_placeBehind_11 rfl rfl (n := 12) rfl ?_
  refine g_X8_garden C w_5_12 dX8_placeBehind_12 (n := 15) rfl ?_
  refine g_X0_firstPlaceOf C w_21_13 dX8_placeBehind_15 (n := 18) rfl ?_
  refine v_iload C 0 dX8_placeBehind_18 rfl (n := 20) rfl ?_
  obtain ⟨hi3, h⟩ := ck_e h
  refine v_ald C aX_9 hi3 dX8_placeBehind_20 (n := 21) rfl ?_
  obtain ⟨y4, ey4, h⟩ := lt_e h
  refine v_istore (L' := [(5, .int y4), (4, .int y2), (0, .ref (xq x 24)), (1, .int x1), (2, .int x2), (3, .int x3)]) C dX8_placeBehind_21 (by decide) rfl (n := 23) rfl ey4 ?_
  refine v_aload_n C 2 dX8_placeBehind_23 rfl rfl (n := 24) rfl ?_
  refine g_X8_garden C w_5_12 dX8_placeBehind_24 (n := 27) rfl ?_
  refine g_X0_endsOf C w_21_14 dX8_placeBehind_27 (n := 30) rfl ?_
  refine v_iload C 1 dX8_placeBehind_30 rfl (n := 32) rfl ?_
  refine v_ald C aX_8 hi3 dX8_placeBehind_32 (n := 33) rfl ?_
  obtain ⟨y5, ey5, h⟩ := lt_e h
  refine v_istore (L' := [(6, .int y5), (5, .int y4), (4, .int y2), (0, .ref (xq x 24)), (1, .int x1), (2, .int x2), (3, .int x3)]) C dX8_placeBehind_33 (by decide) rfl (n := 35) rfl ey5 ?_
  refine v_iload_n C 6 dX8_placeBehind_35 rfl rfl (n := 36) rfl ?_
  refine v_iload C 1 dX8_placeBehind_36 rfl (n := 38) rfl ?_
  refine v_iushr C dX8_placeBehind_38 (n := 39) rfl ?_
  refine v_iconst (v := 1) C dX8_placeBehind_39 (by decide) (n := 40) rfl ?_
  refine v_iload C 0 dX8_placeBehind_40 rfl (n := 42) rfl ?_
  refine v_ishl C dX8_placeBehind_42 (n := 43) rfl ?_
  refine v_iconst (v := 1) C dX8_placeBehind_43 (by decide) (n := 44) rfl ?_
  refine v_isub C dX8_placeBehind_44 (n := 45) rfl ?_
  refine v_iand C dX8_placeBehind_45 (n := 46) rfl ?_
  obtain ⟨y6, ey6, h⟩ := lt_e h
  refine v_istore (L' := [(7, .int y6), (6, .int y5), (5, .int y4), (4, .int y2), (0, .ref (xq x 24)), (1, .int x1), (2, .int x2), (3, .int x3)]) C dX8_placeBehind_46 (by decide) rfl (n := 48) rfl ey6 ?_
  refine v_iload C 0 dX8_placeBehind_48 rfl (n := 50) rfl ?_
  obtain ⟨r8, S7, eS7, h⟩ := bI_e h
  refine v_callSI (As := [.int y6]) C (c_J6_bitCount_0f7a4 y6 S eS7) mf_J6_bitCount_0f7a4 w_21_17 ⟨rfl, rfl, by decide, by decide⟩ rfl rfl (Nat.le_of_ble_eq_true rfl) dX8_placeBehind_50 (n := 53) rfl ?_
  refine v_istore (L' := [(8, .int r8), (7, .int y6), (6, .int y5), (5, .int y4), (4, .int y2), (0, .ref (xq x 24)), (1, .int x1), (2, .int x2), (3, .int x3)]) C dX8_placeBehind_53 (by decide) rfl (n := 55) rfl rfl ?_
  refine v_iload C 0 dX8_placeBehind_55 rfl (n := 57) rfl ?_
  refine v_if_ne C dX8_placeBehind_57 (t := 62) (by decide) (n := 60) rfl (fun c9 => ?_) (fun c9 => ?_)
  · have h := ite_n c9 h
    refine v_aload_n C 5 dX8_placeBehind_62 rfl rfl (n := 63) rfl ?_
    refine g_X8_garden C w_5_12 dX8_placeBehind_63 (n := 66) rfl ?_
    refine g_X0_endAt C w_21_15 dX8_placeBehind_66 (n := 69) rfl ?_
    refine v_iload_n C 6 dX8_placeBehind_69 rfl rfl (n := 70) rfl ?_
    refine v_ald C aX_11 hi1 dX8_placeBehind_70 (n := 71) rfl ?_
    obtain ⟨y10, ey10, h⟩ := lt_e h
    refine v_istore (L' := [(9, .int y10), (8, .int r8), (7, .int y6), (6, .int y5), (5, .int y4), (4, .int y2), (0, .ref (xq x 24)), (1, .int x1), (2, .int x2), (3, .int x3)]) C dX8_placeBehind_71 (by decide) rfl (n := 73) rfl ey10 ?_
    refine v_iload_n C 8 dX8_placeBehind_73 rfl rfl (n := 74) rfl ?_
    refine v_if_ne C dX8_placeBehind_74 (t := 97) (by decide) (n := 77) rfl (fun c11 => ?_) (fun c11 => ?_)
    · have h := ite_n c11 h
      refine v_sub [6, 8, 4, 3, 2, 1, 0] rfl ?_
      exact t_X8_placeBehind_97 C  x2 y4 y5 y6 r8 y10 S7 h
    · have h := ite_p c11 h
      refine v_iload C 2 dX8_placeBehind_77 rfl (n := 79) rfl ?_
      refine v_iload C 0 dX8_placeBehind_79 rfl (n := 81) rfl ?_
      obtain ⟨r13, S12, eS12, h⟩ := bI_e h
      refine v_callNI (As := [.int y6, .int y10]) C (c_X9_hasBit y6 y10 S7 eS12) mf_X9_hasBit (List.mem_of_getElem? (i := 9) rfl : (RX8, 50, yX9_hasBit, RX9) ∈ nestW) ⟨rfl, rfl, by decide, by decide⟩ rfl rfl (Nat.le_of_ble_eq_true rfl) dX8_placeBehind_81 (n := 84) rfl ?_
      refine v_if_eq C dX8_placeBehind_84 (t := 97) (by decide) (n := 87) rfl (fun c14 => ?_) (fun c14 => ?_)
      · have h := ite_p c14 h
        refine v_sub [6, 8, 4, 3, 2, 1, 0] rfl ?_
        exact t_X8_placeBehind_97 C  x2 y4 y5 y6 r8 y10 S12 h
      · have h := ite_n c14 h
        refine v_aload_n C 6 dX8_placeBehind_87 rfl rfl (n := 88) rfl ?_
        refine g_X8_garden C w_5_12 dX8_placeBehind_88 (n := 91) rfl ?_
        refine g_X0_otherOf C w_21_16 dX8_placeBehind_91 (n := 94) rfl ?_
        refine v_iload_n C 7 dX8_placeBehind_94 rfl rfl (n := 95) rfl ?_
        refine v_ald C aX_13 hi1 dX8_placeBehind_95 (n := 96) rfl ?_
        obtain rfl := Option.some.inj h
        exact v_iret C dX8_placeBehind_96
  · have h := ite_p c9 h
    refine v_iload_n C 6 dX8_placeBehind_60 rfl rfl (n := 61) rfl ?_
    obtain rfl := Option.some.inj h
    exact v_iret C dX8_placeBehind_61
theorem c_X8_placeBehind {l : Launch} {D : va_G} {q : Nat → Nat} {ar : Ar} (a1 : Int32) (a2 : Int32) (a3 : Int32) (S : St) {res : Int32 × St} (h : m_X8_placeBehind a1 a2 a3 S = some res) : MetI l D q ar WX yX8_placeBehind cX8_placeBehind 12 (some .int) rm_X8_placeBehind [.ref (q 24), .int a1, .int a2, .int a3] S res := by
  refine metI_of adrX (by decide +kernel) (Nat.le_of_ble_eq_true rfl) (fun x e1 e2 e3 e4 C => ?_)
  subst e1; subst e2; subst e3; subst e4
  exact v_sub [0, 1, 2, 3] rfl (t_X8_placeBehind_0 C a1 a2 a3 S h)
theorem mf_X8_placeBehind : CalV yX8_placeBehind cX8_placeBehind 12 (some .int) RX8 3 := ⟨w_21_12, w_21_10, w_21_11, w_2_8, rfl, by decide +kernel, by decide +kernel, by decide +kernel⟩
/-! LabyrinthGarden$Walker.comesOut -/
def f_X8_comesOut_238 (k29 : Int32 → Int32 → Int32 → Int32 → Int32 → Int32 → Int32 → St → Option (Int32 × St)) (x3 : Int32) (x4 : Int32) (x5 : Int32) (x6 : Int32) (x8 : Int32) (x9 : Int32) (s0 : Int32) (S : St) : Option (Int32 × St) :=
  lt (up S 24 1 ((rd S 24 1) + 1)) fun S1 =>
  k29 x3 x4 x5 x6 s0 x8 x9 S1
def f_X8_comesOut_142 (k29 : Int32 → Int32 → Int32 → Int32 → Int32 → Int32 → Int32 → St → Option (Int32 × St)) (x3 : Int32) (x4 : Int32) (x5 : Int32) (x6 : Int32) (x7 : Int32) (x8 : Int32) (x9 : Int32) (x11 : Int32) (S : St) : Option (Int32 × St) :=
  bI (m_X9_hasBit x6 x11 S) fun r2 S1 =>
  bI (m_X5_actOf (rs (rd S 24 4)) x5 r2 S1) fun r4 S3 =>
  bI (m_X5_marksAfter (rs (rd S3 24 4)) r4 x6 x11 S3) fun r6 S5 =>
  ck r4 8 <|
  ck x7 8 <|
  bI (m_X8_placeBehind x4 (rd S5 ((rs (rd S5 24 4)) + 1) r4.toNatClampNeg) ((rd S5 26 x7.toNatClampNeg) &&& (x3 ^^^ (-1))) S5) fun r10 S9 =>
  lt ((rd S9 ((rs (rd S9 24 4)) + 3) r4.toNatClampNeg) : Int32) fun y11 =>
  if (rd S9 6 6) ≤ (x7 + 1) then (
    f_X8_comesOut_238 k29 x3 r10 y11 r6 x8 x9 0 S9)
  else (
    f_X8_comesOut_238 k29 x3 r10 y11 r6 x8 x9 (x7 + 1) S9)
def f_X8_comesOut_29 (k29 : Int32 → Int32 → Int32 → Int32 → Int32 → Int32 → Int32 → St → Option (Int32 × St)) (x3 : Int32) (x4 : Int32) (x5 : Int32) (x6 : Int32) (x7 : Int32) (x8 : Int32) (x9 : Int32) (S : St) : Option (Int32 × St) :=
  if 1500 < (rd S 24 1) then (
    some (0, S))
  else (
    lt (((((shl x4 13) ||| (shl x5 11)) ||| (shl x6 3)) ||| x7) : Int32) fun y2 =>
    ck (rd S 24 1) 1501 <|
    lt (up S 25 (rd S 24 1).toNatClampNeg y2) fun S4 =>
    ck x4 24 <|
    lt ((rd S4 10 x4.toNatClampNeg) : Int32) fun y6 =>
    bI (m_X9_hasBit (rd S4 6 3) y6 S4) fun r8 S7 =>
    if r8 = 0 then (
      if y2 = x8 then (
        some (0, S7))
      else (
        if (rd S7 24 1) = 1500 then (
          some (0, S7))
        else (
          if (rd S7 24 1) = x9 then (
            lt (((2 * (rd S7 24 1)) + 1) : Int32) fun y13 =>
            f_X8_comesOut_142 k29 x3 x4 x5 x6 x7 y2 y13 y6 S7)
          else (
            f_X8_comesOut_142 k29 x3 x4 x5 x6 x7 x8 x9 y6 S7))))
    else (
      some (1, S7)))
def g_X8_comesOut_29  : Nat → Int32 → Int32 → Int32 → Int32 → Int32 → Int32 → Int32 → St → Option (Int32 × St)
  | 0 => fun _ _ _ _ _ _ _ _ => none
  | n + 1 => f_X8_comesOut_29 (g_X8_comesOut_29  n)
def f_X8_comesOut_0  (x1 : Int32) (x2 : Int32) (x3 : Int32) (S : St) : Option (Int32 × St) :=
  lt ((rd S (rs (rd S 24 4)) 4) : Int32) fun y1 =>
  lt (up S 24 1 0) fun S2 =>
  g_X8_comesOut_29  fuel x3 x1 y1 x2 0 (-1) 0 S2
def m_X8_comesOut (a1 : Int32) (a2 : Int32) (a3 : Int32) (S : St) : Option (Int32 × St) := f_X8_comesOut_0 a1 a2 a3 S
def rm_X8_comesOut : Room := { frames := 2, cells := 0, slots := 0, locals := 52 }
set_option maxRecDepth 20000 in
set_option maxHeartbeats 2000000 in
theorem t_X8_comesOut_238 {x : Ctx} (C : Cx x WX cX8_comesOut RX8 13 rm_X8_comesOut (some .boolean)) {res : Int32 × St} {k29 : Int32 → Int32 → Int32 → Int32 → Int32 → Int32 → Int32 → St → Option (Int32 × St)} (hk29 : ∀ (x3 : Int32) (x4 : Int32) (x5 : Int32) (x6 : Int32) (x7 : Int32) (x8 : Int32) (x9 : Int32) (S : St), k29 x3 x4 x5 x6 x7 x8 x9 S = some res → V x WX 13 (QI x WX res) S 29 [(0, .ref (xq x 24)), (3, .int x3), (4, .int x4), (5, .int x5), (6, .int x6), (7, .int x7), (8, .int x8), (9, .int x9)] []) (x3 : Int32) (x4 : Int32) (x5 : Int32) (x6 : Int32) (x8 : Int32) (x9 : Int32) (s0 : Int32) (S : St) (h : f_X8_comesOut_238 k29 x3 x4 x5 x6 x8 x9 s0 S = some res) : V x WX 13 (QI x WX res) S 238 [(0, .ref (xq x 24)), (3, .int x3), (4, .int x4), (5, .int x5), (6, .int x6), (8, .int x8), (9, .int x9)] [.int s0] := by
  unfold f_X8_comesOut_238 at h
  refine v_istore (L' := [(7, .int s0), (0, .ref (xq x 24)), (3, .int x3), (4, .int x4), (5, .int x5), (6, .int x6), (8, .int x8), (9, .int x9)]) C dX8_comesOut_238 (by decide) rfl (n := 240) rfl rfl ?_
  refine v_aload_n C 1 dX8_comesOut_240 rfl rfl (n := 241) rfl ?_
  refine v_dup C dX8_comesOut_241 rfl (n := 242) rfl ?_
  refine g_X8_last C w_5_10 dX8_comesOut_242 (n := 245) rfl ?_
  refine v_iconst (v := 1) C dX8_comesOut_245 (by decide) (n := 246) rfl ?_
  refine v_iadd C dX8_comesOut_246 (n := 247) rfl ?_
  obtain ⟨S1, eS1, h⟩ := lt_e h
  refine p_X8_last C w_5_10 dX8_comesOut_247 (n := 250) rfl eS1 ?_
  refine v_goto C dX8_comesOut_250 (n := 29) (by decide) ?_
  refine v_sub [1, 2, 3, 4, 5, 0, 6, 7] rfl ?_
  exact hk29 x3 x4 x5 x6 s0 x8 x9 S1 h
set_option maxRecDepth 20000 in
set_option maxHeartbeats 2000000 in
theorem t_X8_comesOut_142 {x : Ctx} (C : Cx x WX cX8_comesOut RX8 13 rm_X8_comesOut (some .boolean)) {res : Int32 × St} {k29 : Int32 → Int32 → Int32 → Int32 → Int32 → Int32 → Int32 → St → Option (Int32 × St)} (hk29 : ∀ (x3 : Int32) (x4 : Int32) (x5 : Int32) (x6 : Int32) (x7 : Int32) (x8 : Int32) (x9 : Int32) (S : St), k29 x3 x4 x5 x6 x7 x8 x9 S = some res → V x WX 13 (QI x WX res) S 29 [(0, .ref (xq x 24)), (3, .int x3), (4, .int x4), (5, .int x5), (6, .int x6), (7, .int x7), (8, .int x8), (9, .int x9)] []) (x3 : Int32) (x4 : Int32) (x5 : Int32) (x6 : Int32) (x7 : Int32) (x8 : Int32) (x9 : Int32) (x11 : Int32) (S : St) (h : f_X8_comesOut_142 k29 x3 x4 x5 x6 x7 x8 x9 x11 S = some res) : V x WX 13 (QI x WX res) S 142 [(0, .ref (xq x 24)), (3, .int x3), (4, .int x4), (5, .int x5), (6, .int x6), (7, .int x7), (8, .int x8), (9, .int x9), (11, .int x11)] [] := by
  unfold f_X8_comesOut_142 at h
  refine v_aload_n C 0 dX8_comesOut_142 rfl rfl (n := 143) rfl ?_
  refine g_X8_rules C w_5_13 dX8_comesOut_143 (n := 146) rfl ?_
  refine v_iload C 3 dX8_comesOut_146 rfl (n := 148) rfl ?_
  refine v_iload C 4 dX8_comesOut_148 rfl (n := 150) rfl ?_
  refine v_iload C 8 dX8_comesOut_150 rfl (n := 152) rfl ?_
  obtain ⟨r2, S1, eS1, h⟩ := bI_e h
  refine v_callNI (As := [.int x6, .int x11]) C (c_X9_hasBit x6 x11 S eS1) mf_X9_hasBit (List.mem_of_getElem? (i := 9) rfl : (RX8, 50, yX9_hasBit, RX9) ∈ nestW) ⟨rfl, rfl, by decide, by decide⟩ rfl rfl (Nat.le_of_ble_eq_true rfl) dX8_comesOut_152 (n := 155) rfl ?_
  obtain ⟨r4, S3, eS3, h⟩ := bI_e h
  refine v_callVI (As := [.int x5, .int r2]) C (c_X5_actOf (rs (rd S 24 4)) x5 r2 S1 eS3) mf_X5_actOf w_21_1 (oX5 (rs_ok _) _ _ _) rfl ⟨rfl, rfl, by decide, by decide⟩ rfl rfl (Nat.le_of_ble_eq_true rfl) dX8_comesOut_155 (n := 158) rfl ?_
  refine v_istore (L' := [(12, .int r4), (0, .ref (xq x 24)), (3, .int x3), (4, .int x4), (5, .int x5), (6, .int x6), (7, .int x7), (8, .int x8), (9, .int x9), (11, .int x11)]) C dX8_comesOut_158 (by decide) rfl (n := 160) rfl rfl ?_
  refine v_aload_n C 1 dX8_comesOut_160 rfl rfl (n := 161) rfl ?_
  refine g_X8_rules C w_5_13 dX8_comesOut_161 (n := 164) rfl ?_
  refine v_iload C 0 dX8_comesOut_164 rfl (n := 166) rfl ?_
  refine v_iload C 5 dX8_comesOut_166 rfl (n := 168) rfl ?_
  refine v_iload C 9 dX8_comesOut_168 rfl (n := 170) rfl ?_
  obtain ⟨r6, S5, eS5, h⟩ := bI_e h
  refine v_callVI (As := [.int r4, .int x6, .int x11]) C (c_X5_marksAfter (rs (rd S3 24 4)) r4 x6 x11 S3 eS5) mf_X5_marksAfter w_21_5 (oX5 (rs_ok _) _ _ _) rfl ⟨rfl, rfl, by decide, by decide⟩ rfl rfl (Nat.le_of_ble_eq_true rfl) dX8_comesOut_170 (n := 173) rfl ?_
  refine v_istore (L' := [(6, .int r6), (12, .int r4), (0, .ref (xq x 24)), (3, .int x3), (4, .int x4), (5, .int x5), (7, .int x7), (8, .int x8), (9, .int x9), (11, .int x11)]) C dX8_comesOut_173 (by decide) rfl (n := 175) rfl rfl ?_
  refine v_aload_n C 2 dX8_comesOut_175 rfl rfl (n := 176) rfl ?_
  refine v_iload C 4 dX8_comesOut_176 rfl (n := 178) rfl ?_
  refine v_aload_n C 2 dX8_comesOut_178 rfl rfl (n := 179) rfl ?_
  refine g_X8_rules C w_5_13 dX8_comesOut_179 (n := 182) rfl ?_
  refine g_X5_number (rs_ok _) C w_20_23 dX8_comesOut_182 (n := 185) rfl ?_
  refine v_iload C 1 dX8_comesOut_185 rfl (n := 187) rfl ?_
  obtain ⟨hi7, h⟩ := ck_e h
  refine v_ald C (aR_1 (rs_ok _)) hi7 dX8_comesOut_187 (n := 188) rfl ?_
  refine v_aload_n C 2 dX8_comesOut_188 rfl rfl (n := 189) rfl ?_
  refine g_X8_openAt C w_5_11 dX8_comesOut_189 (n := 192) rfl ?_
  refine v_iload C 6 dX8_comesOut_192 rfl (n := 194) rfl ?_
  obtain ⟨hi8, h⟩ := ck_e h
  refine v_ald C aX_26 hi8 dX8_comesOut_194 (n := 195) rfl ?_
  refine v_iload_n C 3 dX8_comesOut_195 rfl rfl (n := 196) rfl ?_
  refine v_iconst (v := (-1)) C dX8_comesOut_196 (by decide) (n := 197) rfl ?_
  refine v_ixor C dX8_comesOut_197 (n := 198) rfl ?_
  refine v_iand C dX8_comesOut_198 (n := 199) rfl ?_
  obtain ⟨r10, S9, eS9, h⟩ := bI_e h
  refine v_callVI (As := [.int x4, .int (rd S5 ((rs (rd S5 24 4)) + 1) r4.toNatClampNeg), .int ((rd S5 26 x7.toNatClampNeg) &&& (x3 ^^^ (-1)))]) C (c_X8_placeBehind x4 (rd S5 ((rs (rd S5 24 4)) + 1) r4.toNatClampNeg) ((rd S5 26 x7.toNatClampNeg) &&& (x3 ^^^ (-1))) S5 eS9) mf_X8_placeBehind w_21_9 (oX8 _ _ _) rfl ⟨rfl, rfl, by decide, by decide⟩ rfl rfl (Nat.le_of_ble_eq_true rfl) dX8_comesOut_199 (n := 202) rfl ?_
  refine v_istore (L' := [(4, .int r10), (6, .int r6), (12, .int r4), (0, .ref (xq x 24)), (3, .int x3), (5, .int x5), (7, .int x7), (8, .int x8), (9, .int x9), (11, .int x11)]) C dX8_comesOut_202 (by decide) rfl (n := 204) rfl rfl ?_
  refine v_aload_n C 3 dX8_comesOut_204 rfl rfl (n := 205) rfl ?_
  refine g_X8_rules C w_5_13 dX8_comesOut_205 (n := 208) rfl ?_
  refine g_X5_next (rs_ok _) C w_21_0 dX8_comesOut_208 (n := 211) rfl ?_
  refine v_iload C 2 dX8_comesOut_211 rfl (n := 213) rfl ?_
  refine v_ald C (aR_3 (rs_ok _)) hi7 dX8_comesOut_213 (n := 214) rfl ?_
  obtain ⟨y11, ey11, h⟩ := lt_e h
  refine v_istore (L' := [(5, .int y11), (4, .int r10), (6, .int r6), (12, .int r4), (0, .ref (xq x 24)), (3, .int x3), (7, .int x7), (8, .int x8), (9, .int x9), (11, .int x11)]) C dX8_comesOut_214 (by decide) rfl (n := 216) rfl ey11 ?_
  refine v_iload C 6 dX8_comesOut_216 rfl (n := 218) rfl ?_
  refine v_iconst (v := 1) C dX8_comesOut_218 (by decide) (n := 219) rfl ?_
  refine v_iadd C dX8_comesOut_219 (n := 220) rfl ?_
  refine v_aload_n C 4 dX8_comesOut_220 rfl rfl (n := 221) rfl ?_
  refine g_X8_garden C w_5_12 dX8_comesOut_221 (n := 224) rfl ?_
  refine g_X0_beats C w_20_7 dX8_comesOut_224 (n := 227) rfl ?_
  refine v_icmp_ge C dX8_comesOut_227 (t := 237) (by decide) (n := 230) rfl (fun c12 => ?_) (fun c12 => ?_)
  · have h := ite_p c12 h
    refine v_iconst (v := 0) C dX8_comesOut_237 (by decide) (n := 238) rfl ?_
    refine v_sub [4, 5, 1, 0, 2, 7, 8] rfl ?_
    exact t_X8_comesOut_238 C hk29 x3 r10 y11 r6 x8 x9 0 S9 h
  · have h := ite_n c12 h
    refine v_iload C 6 dX8_comesOut_230 rfl (n := 232) rfl ?_
    refine v_iconst (v := 1) C dX8_comesOut_232 (by decide) (n := 233) rfl ?_
    refine v_iadd C dX8_comesOut_233 (n := 234) rfl ?_
    refine v_goto C dX8_comesOut_234 (n := 238) (by decide) ?_
    refine v_sub [4, 5, 1, 0, 2, 7, 8] rfl ?_
    exact t_X8_comesOut_238 C hk29 x3 r10 y11 r6 x8 x9 (x7 + 1) S9 h
set_option maxRecDepth 20000 in
set_option maxHeartbeats 2000000 in
theorem t_X8_comesOut_29 {x : Ctx} (C : Cx x WX cX8_comesOut RX8 13 rm_X8_comesOut (some .boolean)) {res : Int32 × St} {k29 : Int32 → Int32 → Int32 → Int32 → Int32 → Int32 → Int32 → St → Option (Int32 × St)} (hk29 : ∀ (x3 : Int32) (x4 : Int32) (x5 : Int32) (x6 : Int32) (x7 : Int32) (x8 : Int32) (x9 : Int32) (S : St), k29 x3 x4 x5 x6 x7 x8 x9 S = some res → V x WX 13 (QI x WX res) S 29 [(0, .ref (xq x 24)), (3, .int x3), (4, .int x4), (5, .int x5), (6, .int x6), (7, .int x7), (8, .int x8), (9, .int x9)] []) (x3 : Int32) (x4 : Int32) (x5 : Int32) (x6 : Int32) (x7 : Int32) (x8 : Int32) (x9 : Int32) (S : St) (h : f_X8_comesOut_29 k29 x3 x4 x5 x6 x7 x8 x9 S = some res) : V x WX 13 (QI x WX res) S 29 [(0, .ref (xq x 24)), (3, .int x3), (4, .int x4), (5, .int x5), (6, .int x6), (7, .int x7), (8, .int x8), (9, .int x9)] [] := by
  unfold f_X8_comesOut_29 at h
  refine v_aload_n C 0 dX8_comesOut_29 rfl rfl (n := 30) rfl ?_
  refine g_X8_last C w_5_10 dX8_comesOut_30 (n := 33) rfl ?_
  refine v_sipush (v := 1500) C dX8_comesOut_33 (by decide) (n := 36) rfl ?_
  refine v_icmp_gt C dX8_comesOut_36 (t := 253) (by decide) (n := 39) rfl (fun c1 => ?_) (fun c1 => ?_)
  · have h := ite_p c1 h
    refine v_iconst (v := 0) C dX8_comesOut_253 (by decide) (n := 254) rfl ?_
    obtain rfl := Option.some.inj h
    exact v_zret C (Or.inl rfl) dX8_comesOut_254
  · have h := ite_n c1 h
    refine v_iload C 2 dX8_comesOut_39 rfl (n := 41) rfl ?_
    refine v_bipush (v := 13) C dX8_comesOut_41 (by decide) (n := 43) rfl ?_
    refine v_ishl C dX8_comesOut_43 (n := 44) rfl ?_
    refine v_iload C 3 dX8_comesOut_44 rfl (n := 46) rfl ?_
    refine v_bipush (v := 11) C dX8_comesOut_46 (by decide) (n := 48) rfl ?_
    refine v_ishl C dX8_comesOut_48 (n := 49) rfl ?_
    refine v_ior C dX8_comesOut_49 (n := 50) rfl ?_
    refine v_iload C 4 dX8_comesOut_50 rfl (n := 52) rfl ?_
    refine v_iconst (v := 3) C dX8_comesOut_52 (by decide) (n := 53) rfl ?_
    refine v_ishl C dX8_comesOut_53 (n := 54) rfl ?_
    refine v_ior C dX8_comesOut_54 (n := 55) rfl ?_
    refine v_iload C 5 dX8_comesOut_55 rfl (n := 57) rfl ?_
    refine v_ior C dX8_comesOut_57 (n := 58) rfl ?_
    obtain ⟨y2, ey2, h⟩ := lt_e h
    refine v_istore (L' := [(10, .int y2), (0, .ref (xq x 24)), (3, .int x3), (4, .int x4), (5, .int x5), (6, .int x6), (7, .int x7), (8, .int x8), (9, .int x9)]) C dX8_comesOut_58 (by decide) rfl (n := 60) rfl ey2 ?_
    refine v_aload_n C 1 dX8_comesOut_60 rfl rfl (n := 61) rfl ?_
    refine g_X8_history C w_5_9 dX8_comesOut_61 (n := 64) rfl ?_
    refine v_aload_n C 1 dX8_comesOut_64 rfl rfl (n := 65) rfl ?_
    refine g_X8_last C w_5_10 dX8_comesOut_65 (n := 68) rfl ?_
    refine v_iload C 0 dX8_comesOut_68 rfl (n := 70) rfl ?_
    obtain ⟨hi3, h⟩ := ck_e h
    obtain ⟨S4, eS4, h⟩ := lt_e h
    refine v_ast C aX_25 hi3 dX8_comesOut_70 (n := 71) rfl eS4 ?_
    refine v_aload_n C 1 dX8_comesOut_71 rfl rfl (n := 72) rfl ?_
    refine g_X8_garden C w_5_12 dX8_comesOut_72 (n := 75) rfl ?_
    refine g_X0_junctionAt C w_20_21 dX8_comesOut_75 (n := 78) rfl ?_
    refine v_iload C 3 dX8_comesOut_78 rfl (n := 80) rfl ?_
    obtain ⟨hi5, h⟩ := ck_e h
    refine v_ald C aX_10 hi5 dX8_comesOut_80 (n := 81) rfl ?_
    obtain ⟨y6, ey6, h⟩ := lt_e h
    refine v_istore (L' := [(11, .int y6), (10, .int y2), (0, .ref (xq x 24)), (3, .int x3), (4, .int x4), (5, .int x5), (6, .int x6), (7, .int x7), (8, .int x8), (9, .int x9)]) C dX8_comesOut_81 (by decide) rfl (n := 83) rfl ey6 ?_
    refine v_aload_n C 2 dX8_comesOut_83 rfl rfl (n := 84) rfl ?_
    refine g_X8_garden C w_5_12 dX8_comesOut_84 (n := 87) rfl ?_
    refine g_X0_outs C w_20_22 dX8_comesOut_87 (n := 90) rfl ?_
    refine v_iload C 0 dX8_comesOut_90 rfl (n := 92) rfl ?_
    obtain ⟨r8, S7, eS7, h⟩ := bI_e h
    refine v_callNI (As := [.int (rd S4 6 3), .int y6]) C (c_X9_hasBit (rd S4 6 3) y6 S4 eS7) mf_X9_hasBit (List.mem_of_getElem? (i := 9) rfl : (RX8, 50, yX9_hasBit, RX9) ∈ nestW) ⟨rfl, rfl, by decide, by decide⟩ rfl rfl (Nat.le_of_ble_eq_true rfl) dX8_comesOut_92 (n := 95) rfl ?_
    refine v_if_eq C dX8_comesOut_95 (t := 100) (by decide) (n := 98) rfl (fun c9 => ?_) (fun c9 => ?_)
    · have h := ite_p c9 h
      refine v_iload C 1 dX8_comesOut_100 rfl (n := 102) rfl ?_
      refine v_iload C 8 dX8_comesOut_102 rfl (n := 104) rfl ?_
      refine v_icmp_eq C dX8_comesOut_104 (t := 117) (by decide) (n := 107) rfl (fun c10 => ?_) (fun c10 => ?_)
      · have h := ite_p c10 h
        refine v_iconst (v := 0) C dX8_comesOut_117 (by decide) (n := 118) rfl ?_
        obtain rfl := Option.some.inj h
        exact v_zret C (Or.inl rfl) dX8_comesOut_118
      · have h := ite_n c10 h
        refine v_aload_n C 2 dX8_comesOut_107 rfl rfl (n := 108) rfl ?_
        refine g_X8_last C w_5_10 dX8_comesOut_108 (n := 111) rfl ?_
        refine v_sipush (v := 1500) C dX8_comesOut_111 (by decide) (n := 114) rfl ?_
        refine v_icmp_ne C dX8_comesOut_114 (t := 119) (by decide) (n := 117) rfl (fun c11 => ?_) (fun c11 => ?_)
        · have h := ite_n c11 h
          refine v_aload_n C 2 dX8_comesOut_119 rfl rfl (n := 120) rfl ?_
          refine g_X8_last C w_5_10 dX8_comesOut_120 (n := 123) rfl ?_
          refine v_iload C 9 dX8_comesOut_123 rfl (n := 125) rfl ?_
          refine v_icmp_ne C dX8_comesOut_125 (t := 142) (by decide) (n := 128) rfl (fun c12 => ?_) (fun c12 => ?_)
          · have h := ite_n c12 h
            refine v_sub [2, 3, 4, 5, 6, 7, 8, 9, 0] rfl ?_
            exact t_X8_comesOut_142 C hk29 x3 x4 x5 x6 x7 x8 x9 y6 S7 h
          · have h := ite_p c12 h
            refine v_iload C 1 dX8_comesOut_128 rfl (n := 130) rfl ?_
            refine v_istore (L' := [(8, .int y2), (11, .int y6), (10, .int y2), (0, .ref (xq x 24)), (3, .int x3), (4, .int x4), (5, .int x5), (6, .int x6), (7, .int x7), (9, .int x9)]) C dX8_comesOut_130 (by decide) rfl (n := 132) rfl rfl ?_
            refine v_iconst (v := 2) C dX8_comesOut_132 (by decide) (n := 133) rfl ?_
            refine v_aload_n C 3 dX8_comesOut_133 rfl rfl (n := 134) rfl ?_
            refine g_X8_last C w_5_10 dX8_comesOut_134 (n := 137) rfl ?_
            refine v_imul C dX8_comesOut_137 (n := 138) rfl ?_
            refine v_iconst (v := 1) C dX8_comesOut_138 (by decide) (n := 139) rfl ?_
            refine v_iadd C dX8_comesOut_139 (n := 140) rfl ?_
            obtain ⟨y13, ey13, h⟩ := lt_e h
            refine v_istore (L' := [(9, .int y13), (8, .int y2), (11, .int y6), (10, .int y2), (0, .ref (xq x 24)), (3, .int x3), (4, .int x4), (5, .int x5), (6, .int x6), (7, .int x7)]) C dX8_comesOut_140 (by decide) rfl (n := 142) rfl ey13 ?_
            refine v_sub [4, 5, 6, 7, 8, 9, 1, 0, 2] rfl ?_
            exact t_X8_comesOut_142 C hk29 x3 x4 x5 x6 x7 y2 y13 y6 S7 h
        · have h := ite_p c11 h
          refine v_iconst (v := 0) C dX8_comesOut_117 (by decide) (n := 118) rfl ?_
          obtain rfl := Option.some.inj h
          exact v_zret C (Or.inl rfl) dX8_comesOut_118
    · have h := ite_n c9 h
      refine v_iconst (v := 1) C dX8_comesOut_98 (by decide) (n := 99) rfl ?_
      obtain rfl := Option.some.inj h
      exact v_zret C (Or.inr rfl) dX8_comesOut_99
theorem tg_X8_comesOut_29 {x : Ctx} (C : Cx x WX cX8_comesOut RX8 13 rm_X8_comesOut (some .boolean)) {res : Int32 × St}  : ∀ (n : Nat) (x3 : Int32) (x4 : Int32) (x5 : Int32) (x6 : Int32) (x7 : Int32) (x8 : Int32) (x9 : Int32) (S : St), g_X8_comesOut_29  n x3 x4 x5 x6 x7 x8 x9 S = some res → V x WX 13 (QI x WX res) S 29 [(0, .ref (xq x 24)), (3, .int x3), (4, .int x4), (5, .int x5), (6, .int x6), (7, .int x7), (8, .int x8), (9, .int x9)] [] := by
  intro n
  induction n with
  | zero => intro x3 x4 x5 x6 x7 x8 x9 S h; cases h
  | succ n ih => intro x3 x4 x5 x6 x7 x8 x9 S h; exact t_X8_comesOut_29 C (fun x3 x4 x5 x6 x7 x8 x9 S h => ih x3 x4 x5 x6 x7 x8 x9 S h) x3 x4 x5 x6 x7 x8 x9 S h
set_option maxRecDepth 20000 in
set_option maxHeartbeats 2000000 in
theorem t_X8_comesOut_0 {x : Ctx} (C : Cx x WX cX8_comesOut RX8 13 rm_X8_comesOut (some .boolean)) {res : Int32 × St}  (x1 : Int32) (x2 : Int32) (x3 : Int32) (S : St) (h : f_X8_comesOut_0  x1 x2 x3 S = some res) : V x WX 13 (QI x WX res) S 0 [(0, .ref (xq x 24)), (1, .int x1), (2, .int x2), (3, .int x3)] [] := by
  unfold f_X8_comesOut_0 at h
  refine v_iload_n C 1 dX8_comesOut_0 rfl rfl (n := 1) rfl ?_
  refine v_istore (L' := [(4, .int x1), (0, .ref (xq x 24)), (1, .int x1), (2, .int x2), (3, .int x3)]) C dX8_comesOut_1 (by decide) rfl (n := 3) rfl rfl ?_
  refine v_aload_n C 1 dX8_comesOut_3 rfl rfl (n := 4) rfl ?_
  refine g_X8_rules C w_5_13 dX8_comesOut_4 (n := 7) rfl ?_
  refine g_X5_firstState (rs_ok _) C w_20_20 dX8_comesOut_7 (n := 10) rfl ?_
  obtain ⟨y1, ey1, h⟩ := lt_e h
  refine v_istore (L' := [(5, .int y1), (4, .int x1), (0, .ref (xq x 24)), (1, .int x1), (2, .int x2), (3, .int x3)]) C dX8_comesOut_10 (by decide) rfl (n := 12) rfl ey1 ?_
  refine v_iload_n C 4 dX8_comesOut_12 rfl rfl (n := 13) rfl ?_
  refine v_istore (L' := [(6, .int x2), (5, .int y1), (4, .int x1), (0, .ref (xq x 24)), (1, .int x1), (2, .int x2), (3, .int x3)]) C dX8_comesOut_13 (by decide) rfl (n := 15) rfl rfl ?_
  refine v_iconst (v := 0) C dX8_comesOut_15 (by decide) (n := 16) rfl ?_
  refine v_istore (L' := [(7, .int 0), (6, .int x2), (5, .int y1), (4, .int x1), (0, .ref (xq x 24)), (1, .int x1), (2, .int x2), (3, .int x3)]) C dX8_comesOut_16 (by decide) rfl (n := 18) rfl rfl ?_
  refine v_iconst (v := (-1)) C dX8_comesOut_18 (by decide) (n := 19) rfl ?_
  refine v_istore (L' := [(8, .int (-1)), (7, .int 0), (6, .int x2), (5, .int y1), (4, .int x1), (0, .ref (xq x 24)), (1, .int x1), (2, .int x2), (3, .int x3)]) C dX8_comesOut_19 (by decide) rfl (n := 21) rfl rfl ?_
  refine v_iconst (v := 0) C dX8_comesOut_21 (by decide) (n := 22) rfl ?_
  refine v_istore (L' := [(9, .int 0), (8, .int (-1)), (7, .int 0), (6, .int x2), (5, .int y1), (4, .int x1), (0, .ref (xq x 24)), (1, .int x1), (2, .int x2), (3, .int x3)]) C dX8_comesOut_22 (by decide) rfl (n := 24) rfl rfl ?_
  refine v_aload_n C 6 dX8_comesOut_24 rfl rfl (n := 25) rfl ?_
  refine v_iconst (v := 0) C dX8_comesOut_25 (by decide) (n := 26) rfl ?_
  obtain ⟨S2, eS2, h⟩ := lt_e h
  refine p_X8_last C w_5_10 dX8_comesOut_26 (n := 29) rfl eS2 ?_
  refine v_sub [6, 9, 5, 4, 3, 2, 1, 0] rfl ?_
  exact tg_X8_comesOut_29 C  fuel x3 x1 y1 x2 0 (-1) 0 S2 h
theorem c_X8_comesOut {l : Launch} {D : va_G} {q : Nat → Nat} {ar : Ar} (a1 : Int32) (a2 : Int32) (a3 : Int32) (S : St) {res : Int32 × St} (h : m_X8_comesOut a1 a2 a3 S = some res) : MetI l D q ar WX yX8_comesOut cX8_comesOut 13 (some .boolean) rm_X8_comesOut [.ref (q 24), .int a1, .int a2, .int a3] S res := by
  refine metI_of adrX (by decide +kernel) (Nat.le_of_ble_eq_true rfl) (fun x e1 e2 e3 e4 C => ?_)
  subst e1; subst e2; subst e3; subst e4
  exact v_sub [0, 1, 2, 3] rfl (t_X8_comesOut_0 C a1 a2 a3 S h)
theorem mf_X8_comesOut : CalV yX8_comesOut cX8_comesOut 13 (some .boolean) RX8 3 := ⟨w_20_19, w_20_17, w_20_18, w_2_8, rfl, by decide +kernel, by decide +kernel, by decide +kernel⟩
/-! LabyrinthGarden$Helper.nobodyIsLost -/
def f_X1_nobodyIsLost_8 (k8 : Int32 → Int32 → Int32 → Int32 → St → Option (Int32 × St)) (x1 : Int32) (x2 : Int32) (x3 : Int32) (x4 : Int32) (S : St) : Option (Int32 × St) :=
  if (rd S 6 2) ≤ x4 then (
    some (1, S))
  else (
    bI (m_X8_comesOut x3 x1 x2 S) fun r3 S2 =>
    if r3 = 0 then (
      lt (up S2 29 4 x3) fun S9 =>
      some (0, S9))
    else (
      if (rd S2 6 2) ≤ (x3 + 1) then (
        lt (x4 + 1 : Int32) fun y6 =>
        k8 x1 x2 0 y6 S2)
      else (
        lt ((x3 + 1) : Int32) fun y7 =>
        lt (x4 + 1 : Int32) fun y8 =>
        k8 x1 x2 y7 y8 S2)))
def g_X1_nobodyIsLost_8  : Nat → Int32 → Int32 → Int32 → Int32 → St → Option (Int32 × St)
  | 0 => fun _ _ _ _ _ => none
  | n + 1 => f_X1_nobodyIsLost_8 (g_X1_nobodyIsLost_8  n)
def f_X1_nobodyIsLost_0  (x1 : Int32) (x2 : Int32) (S : St) : Option (Int32 × St) :=
  lt ((rd S 29 4) : Int32) fun y1 =>
  g_X1_nobodyIsLost_8  fuel x1 x2 y1 0 S
def m_X1_nobodyIsLost (a1 : Int32) (a2 : Int32) (S : St) : Option (Int32 × St) := f_X1_nobodyIsLost_0 a1 a2 S
def rm_X1_nobodyIsLost : Room := { frames := 3, cells := 0, slots := 0, locals := 84 }
set_option maxRecDepth 20000 in
set_option maxHeartbeats 2000000 in
theorem t_X1_nobodyIsLost_8 {x : Ctx} (C : Cx x WX cX1_nobodyIsLost RX1 5 rm_X1_nobodyIsLost (some .boolean)) {res : Int32 × St} {k8 : Int32 → Int32 → Int32 → Int32 → St → Option (Int32 × St)} (hk8 : ∀ (x1 : Int32) (x2 : Int32) (x3 : Int32) (x4 : Int32) (S : St), k8 x1 x2 x3 x4 S = some res → V x WX 5 (QI x WX res) S 8 [(0, .ref (xq x 29)), (1, .int x1), (2, .int x2), (3, .int x3), (4, .int x4)] []) (x1 : Int32) (x2 : Int32) (x3 : Int32) (x4 : Int32) (S : St) (h : f_X1_nobodyIsLost_8 k8 x1 x2 x3 x4 S = some res) : V x WX 5 (QI x WX res) S 8 [(0, .ref (xq x 29)), (1, .int x1), (2, .int x2), (3, .int x3), (4, .int x4)] [] := by
  unfold f_X1_nobodyIsLost_8 at h
  refine v_iload C 4 dX1_nobodyIsLost_8 rfl (n := 10) rfl ?_
  refine v_aload_n C 0 dX1_nobodyIsLost_10 rfl rfl (n := 11) rfl ?_
  refine g_X1_garden C w_6_1 dX1_nobodyIsLost_11 (n := 14) rfl ?_
  refine g_X0_places C w_25_18 dX1_nobodyIsLost_14 (n := 17) rfl ?_
  refine v_icmp_ge C dX1_nobodyIsLost_17 (t := 67) (by decide) (n := 20) rfl (fun c1 => ?_) (fun c1 => ?_)
  · have h := ite_p c1 h
    refine v_iconst (v := 1) C dX1_nobodyIsLost_67 (by decide) (n := 68) rfl ?_
    obtain rfl := Option.some.inj h
    exact v_zret C (Or.inr rfl) dX1_nobodyIsLost_68
  · have h := ite_n c1 h
    refine v_aload_n C 0 dX1_nobodyIsLost_20 rfl rfl (n := 21) rfl ?_
    refine g_X1_walker C w_6_2 dX1_nobodyIsLost_21 (n := 24) rfl ?_
    refine v_iload_n C 3 dX1_nobodyIsLost_24 rfl rfl (n := 25) rfl ?_
    refine v_iload_n C 1 dX1_nobodyIsLost_25 rfl rfl (n := 26) rfl ?_
    refine v_iload_n C 2 dX1_nobodyIsLost_26 rfl rfl (n := 27) rfl ?_
    obtain ⟨r3, S2, eS2, h⟩ := bI_e h
    refine v_callVI (As := [.int x3, .int x1, .int x2]) C (c_X8_comesOut x3 x1 x2 S eS2) mf_X8_comesOut w_25_19 (oX8 _ _ _) rfl ⟨rfl, rfl, by decide, by decide⟩ rfl rfl (Nat.le_of_ble_eq_true rfl) dX1_nobodyIsLost_27 (n := 30) rfl ?_
    refine v_if_ne C dX1_nobodyIsLost_30 (t := 40) (by decide) (n := 33) rfl (fun c4 => ?_) (fun c4 => ?_)
    · have h := ite_n c4 h
      refine v_iload_n C 3 dX1_nobodyIsLost_40 rfl rfl (n := 41) rfl ?_
      refine v_iconst (v := 1) C dX1_nobodyIsLost_41 (by decide) (n := 42) rfl ?_
      refine v_iadd C dX1_nobodyIsLost_42 (n := 43) rfl ?_
      refine v_aload_n C 0 dX1_nobodyIsLost_43 rfl rfl (n := 44) rfl ?_
      refine g_X1_garden C w_6_1 dX1_nobodyIsLost_44 (n := 47) rfl ?_
      refine g_X0_places C w_25_18 dX1_nobodyIsLost_47 (n := 50) rfl ?_
      refine v_icmp_ge C dX1_nobodyIsLost_50 (t := 59) (by decide) (n := 53) rfl (fun c5 => ?_) (fun c5 => ?_)
      · have h := ite_p c5 h
        refine v_iconst (v := 0) C dX1_nobodyIsLost_59 (by decide) (n := 60) rfl ?_
        refine v_istore_n (L' := [(3, .int 0), (0, .ref (xq x 29)), (1, .int x1), (2, .int x2), (4, .int x4)]) C dX1_nobodyIsLost_60 rfl (by decide) rfl (n := 61) rfl rfl ?_
        obtain ⟨y6, ey6, h⟩ := lt_e h
        refine v_iinc (L' := [(4, .int y6), (3, .int 0), (0, .ref (xq x 29)), (1, .int x1), (2, .int x2)]) C 4 dX1_nobodyIsLost_61 rfl (by rw [ey6]; rfl) (by decide) rfl (n := 64) rfl ?_
        refine v_goto C dX1_nobodyIsLost_64 (n := 8) (by decide) ?_
        refine v_sub [2, 3, 4, 1, 0] rfl ?_
        exact hk8 x1 x2 0 y6 S2 h
      · have h := ite_n c5 h
        refine v_iload_n C 3 dX1_nobodyIsLost_53 rfl rfl (n := 54) rfl ?_
        refine v_iconst (v := 1) C dX1_nobodyIsLost_54 (by decide) (n := 55) rfl ?_
        refine v_iadd C dX1_nobodyIsLost_55 (n := 56) rfl ?_
        refine v_goto C dX1_nobodyIsLost_56 (n := 60) (by decide) ?_
        obtain ⟨y7, ey7, h⟩ := lt_e h
        refine v_istore_n (L' := [(3, .int y7), (0, .ref (xq x 29)), (1, .int x1), (2, .int x2), (4, .int x4)]) C dX1_nobodyIsLost_60 rfl (by decide) rfl (n := 61) rfl ey7 ?_
        obtain ⟨y8, ey8, h⟩ := lt_e h
        refine v_iinc (L' := [(4, .int y8), (3, .int y7), (0, .ref (xq x 29)), (1, .int x1), (2, .int x2)]) C 4 dX1_nobodyIsLost_61 rfl (by rw [ey8]; rfl) (by decide) rfl (n := 64) rfl ?_
        refine v_goto C dX1_nobodyIsLost_64 (n := 8) (by decide) ?_
        refine v_sub [2, 3, 4, 1, 0] rfl ?_
        exact hk8 x1 x2 y7 y8 S2 h
    · have h := ite_p c4 h
      refine v_aload_n C 0 dX1_nobodyIsLost_33 rfl rfl (n := 34) rfl ?_
      refine v_iload_n C 3 dX1_nobodyIsLost_34 rfl rfl (n := 35) rfl ?_
      obtain ⟨S9, eS9, h⟩ := lt_e h
      refine p_X1_lostLately C w_6_0 dX1_nobodyIsLost_35 (n := 38) rfl eS9 ?_
      refine v_iconst (v := 0) C dX1_nobodyIsLost_38 (by decide) (n := 39) rfl ?_
      obtain rfl := Option.some.inj h
      exact v_zret C (Or.inl rfl) dX1_nobodyIsLost_39
theorem tg_X1_nobodyIsLost_8 {x : Ctx} (C : Cx x WX cX1_nobodyIsLost RX1 5 rm_X1_nobodyIsLost (some .boolean)) {res : Int32 × St}  : ∀ (n : Nat) (x1 : Int32) (x2 : Int32) (x3 : Int32) (x4 : Int32) (S : St), g_X1_nobodyIsLost_8  n x1 x2 x3 x4 S = some res → V x WX 5 (QI x WX res) S 8 [(0, .ref (xq x 29)), (1, .int x1), (2, .int x2), (3, .int x3), (4, .int x4)] [] := by
  intro n
  induction n with
  | zero => intro x1 x2 x3 x4 S h; cases h
  | succ n ih => intro x1 x2 x3 x4 S h; exact t_X1_nobodyIsLost_8 C (fun x1 x2 x3 x4 S h => ih x1 x2 x3 x4 S h) x1 x2 x3 x4 S h
set_option maxRecDepth 20000 in
set_option maxHeartbeats 2000000 in
theorem t_X1_nobodyIsLost_0 {x : Ctx} (C : Cx x WX cX1_nobodyIsLost RX1 5 rm_X1_nobodyIsLost (some .boolean)) {res : Int32 × St}  (x1 : Int32) (x2 : Int32) (S : St) (h : f_X1_nobodyIsLost_0  x1 x2 S = some res) : V x WX 5 (QI x WX res) S 0 [(0, .ref (xq x 29)), (1, .int x1), (2, .int x2)] [] := by
  unfold f_X1_nobodyIsLost_0 at h
  refine v_aload_n C 0 dX1_nobodyIsLost_0 rfl rfl (n := 1) rfl ?_
  refine g_X1_lostLately C w_6_0 dX1_nobodyIsLost_1 (n := 4) rfl ?_
  obtain ⟨y1, ey1, h⟩ := lt_e h
  refine v_istore_n (L' := [(3, .int y1), (0, .ref (xq x 29)), (1, .int x1), (2, .int x2)]) C dX1_nobodyIsLost_4 rfl (by decide) rfl (n := 5) rfl ey1 ?_
  refine v_iconst (v := 0) C dX1_nobodyIsLost_5 (by decide) (n := 6) rfl ?_
  refine v_istore (L' := [(4, .int 0), (3, .int y1), (0, .ref (xq x 29)), (1, .int x1), (2, .int x2)]) C dX1_nobodyIsLost_6 (by decide) rfl (n := 8) rfl rfl ?_
  refine v_sub [2, 3, 4, 1, 0] rfl ?_
  exact tg_X1_nobodyIsLost_8 C  fuel x1 x2 y1 0 S h
theorem c_X1_nobodyIsLost {l : Launch} {D : va_G} {q : Nat → Nat} {ar : Ar} (a1 : Int32) (a2 : Int32) (S : St) {res : Int32 × St} (h : m_X1_nobodyIsLost a1 a2 S = some res) : MetI l D q ar WX yX1_nobodyIsLost cX1_nobodyIsLost 5 (some .boolean) rm_X1_nobodyIsLost [.ref (q 29), .int a1, .int a2] S res := by
  refine metI_of adrX (by decide +kernel) (Nat.le_of_ble_eq_true rfl) (fun x e1 e2 e3 e4 C => ?_)
  subst e1; subst e2; subst e3; subst e4
  exact v_sub [0, 1, 2] rfl (t_X1_nobodyIsLost_0 C a1 a2 S h)
theorem mf_X1_nobodyIsLost : CalV yX1_nobodyIsLost cX1_nobodyIsLost 5 (some .boolean) RX1 2 := ⟨w_25_17, w_25_15, w_25_16, w_2_16, rfl, by decide +kernel, by decide +kernel, by decide +kernel⟩
/-! LabyrinthGarden$Helper.saves -/
def f_X1_saves_0  (x1 : Int32) (x2 : Int32) (S : St) : Option (Int32 × St) :=
  if x1 = 0 then (
    bI (m_X1_nobodyIsLost ((rd S 6 4) ||| x2) 0 S) fun r8 S7 =>
    ckz r8 <|
    some (r8, S7))
  else (
    bI (m_X0_placesOfPaths x2 S) fun r3 S2 =>
    bI (m_X1_nobodyIsLost (rd S 6 4) r3 S2) fun r5 S4 =>
    ckz r5 <|
    some (r5, S4))
def m_X1_saves (a1 : Int32) (a2 : Int32) (S : St) : Option (Int32 × St) := f_X1_saves_0 a1 a2 S
def rm_X1_saves : Room := { frames := 4, cells := 0, slots := 0, locals := 108 }
set_option maxRecDepth 20000 in
set_option maxHeartbeats 2000000 in
theorem t_X1_saves_0 {x : Ctx} (C : Cx x WX cX1_saves RX1 3 rm_X1_saves (some .boolean)) {res : Int32 × St}  (x1 : Int32) (x2 : Int32) (S : St) (h : f_X1_saves_0  x1 x2 S = some res) : V x WX 3 (QI x WX res) S 0 [(0, .ref (xq x 29)), (1, .int x1), (2, .int x2)] [] := by
  unfold f_X1_saves_0 at h
  refine v_iload_n C 1 dX1_saves_0 rfl rfl (n := 1) rfl ?_
  refine v_if_ne C dX1_saves_1 (t := 19) (by decide) (n := 4) rfl (fun c1 => ?_) (fun c1 => ?_)
  · have h := ite_n c1 h
    refine v_aload_n C 0 dX1_saves_19 rfl rfl (n := 20) rfl ?_
    refine v_aload_n C 0 dX1_saves_20 rfl rfl (n := 21) rfl ?_
    refine g_X1_garden C w_6_1 dX1_saves_21 (n := 24) rfl ?_
    refine g_X0_marks C w_25_8 dX1_saves_24 (n := 27) rfl ?_
    refine v_aload_n C 0 dX1_saves_27 rfl rfl (n := 28) rfl ?_
    refine g_X1_garden C w_6_1 dX1_saves_28 (n := 31) rfl ?_
    refine v_iload_n C 2 dX1_saves_31 rfl rfl (n := 32) rfl ?_
    obtain ⟨r3, S2, eS2, h⟩ := bI_e h
    refine v_callVI (As := [.int x2]) C (c_X0_placesOfPaths x2 S eS2) mf_X0_placesOfPaths w_25_20 (oX0 _ _ _) rfl ⟨rfl, rfl, by decide, by decide⟩ rfl rfl (Nat.le_of_ble_eq_true rfl) dX1_saves_32 (n := 35) rfl ?_
    obtain ⟨r5, S4, eS4, h⟩ := bI_e h
    refine v_callVI (As := [.int (rd S 6 4), .int r3]) C (c_X1_nobodyIsLost (rd S 6 4) r3 S2 eS4) mf_X1_nobodyIsLost w_25_14 (oX1 _ _ _) rfl ⟨rfl, rfl, by decide, by decide⟩ rfl rfl (Nat.le_of_ble_eq_true rfl) dX1_saves_35 (n := 38) rfl ?_
    obtain ⟨hz6, h⟩ := ckz_e h
    obtain rfl := Option.some.inj h
    exact v_zret C hz6 dX1_saves_38
  · have h := ite_p c1 h
    refine v_aload_n C 0 dX1_saves_4 rfl rfl (n := 5) rfl ?_
    refine v_aload_n C 0 dX1_saves_5 rfl rfl (n := 6) rfl ?_
    refine g_X1_garden C w_6_1 dX1_saves_6 (n := 9) rfl ?_
    refine g_X0_marks C w_25_8 dX1_saves_9 (n := 12) rfl ?_
    refine v_iload_n C 2 dX1_saves_12 rfl rfl (n := 13) rfl ?_
    refine v_ior C dX1_saves_13 (n := 14) rfl ?_
    refine v_iconst (v := 0) C dX1_saves_14 (by decide) (n := 15) rfl ?_
    obtain ⟨r8, S7, eS7, h⟩ := bI_e h
    refine v_callVI (As := [.int ((rd S 6 4) ||| x2), .int 0]) C (c_X1_nobodyIsLost ((rd S 6 4) ||| x2) 0 S eS7) mf_X1_nobodyIsLost w_25_14 (oX1 _ _ _) rfl ⟨rfl, rfl, by decide, by decide⟩ rfl rfl (Nat.le_of_ble_eq_true rfl) dX1_saves_15 (n := 18) rfl ?_
    obtain ⟨hz9, h⟩ := ckz_e h
    obtain rfl := Option.some.inj h
    exact v_zret C hz9 dX1_saves_18
theorem c_X1_saves {l : Launch} {D : va_G} {q : Nat → Nat} {ar : Ar} (a1 : Int32) (a2 : Int32) (S : St) {res : Int32 × St} (h : m_X1_saves a1 a2 S = some res) : MetI l D q ar WX yX1_saves cX1_saves 3 (some .boolean) rm_X1_saves [.ref (q 29), .int a1, .int a2] S res := by
  refine metI_of adrX (by decide +kernel) (Nat.le_of_ble_eq_true rfl) (fun x e1 e2 e3 e4 C => ?_)
  subst e1; subst e2; subst e3; subst e4
  exact v_sub [0, 1, 2] rfl (t_X1_saves_0 C a1 a2 S h)
theorem mf_X1_saves : CalV yX1_saves cX1_saves 3 (some .boolean) RX1 2 := ⟨w_25_13, w_25_11, w_25_12, w_2_16, rfl, by decide +kernel, by decide +kernel, by decide +kernel⟩
/-! LabyrinthGarden$Helper.keep -/
def f_X1_keep_0  (x1 : Int32) (x2 : Int32) (x3 : Int32) (S : St) : Option (Int32 × St) :=
  lt (up S 29 1 x1) fun S1 =>
  lt (up S1 30 (0 : Int32).toNatClampNeg x2) fun S2 =>
  lt (up S2 30 (1 : Int32).toNatClampNeg x3) fun S3 =>
  some (x1, S3)
def m_X1_keep (a1 : Int32) (a2 : Int32) (a3 : Int32) (S : St) : Option (Int32 × St) := f_X1_keep_0 a1 a2 a3 S
def rm_X1_keep : Room := { frames := 0, cells := 0, slots := 0, locals := 0 }
set_option maxRecDepth 20000 in
set_option maxHeartbeats 2000000 in
theorem t_X1_keep_0 {x : Ctx} (C : Cx x WX cX1_keep RX1 4 rm_X1_keep (some .int)) {res : Int32 × St}  (x1 : Int32) (x2 : Int32) (x3 : Int32) (S : St) (h : f_X1_keep_0  x1 x2 x3 S = some res) : V x WX 4 (QI x WX res) S 0 [(0, .ref (xq x 29)), (1, .int x1), (2, .int x2), (3, .int x3)] [] := by
  unfold f_X1_keep_0 at h
  refine v_aload_n C 0 dX1_keep_0 rfl rfl (n := 1) rfl ?_
  refine v_iload_n C 1 dX1_keep_1 rfl rfl (n := 2) rfl ?_
  obtain ⟨S1, eS1, h⟩ := lt_e h
  refine p_X1_keptCount C w_5_23 dX1_keep_2 (n := 5) rfl eS1 ?_
  refine v_aload_n C 0 dX1_keep_5 rfl rfl (n := 6) rfl ?_
  refine g_X1_kept C w_5_22 dX1_keep_6 (n := 9) rfl ?_
  refine v_iconst (v := 0) C dX1_keep_9 (by decide) (n := 10) rfl ?_
  refine v_iload_n C 2 dX1_keep_10 rfl rfl (n := 11) rfl ?_
  obtain ⟨S2, eS2, h⟩ := lt_e h
  refine v_ast C aX_30 (show vp_in 0 2 by unfold vp_in; decide) dX1_keep_11 (n := 12) rfl eS2 ?_
  refine v_aload_n C 0 dX1_keep_12 rfl rfl (n := 13) rfl ?_
  refine g_X1_kept C w_5_22 dX1_keep_13 (n := 16) rfl ?_
  refine v_iconst (v := 1) C dX1_keep_16 (by decide) (n := 17) rfl ?_
  refine v_iload_n C 3 dX1_keep_17 rfl rfl (n := 18) rfl ?_
  obtain ⟨S3, eS3, h⟩ := lt_e h
  refine v_ast C aX_30 (show vp_in 1 2 by unfold vp_in; decide) dX1_keep_18 (n := 19) rfl eS3 ?_
  refine v_iload_n C 1 dX1_keep_19 rfl rfl (n := 20) rfl ?_
  obtain rfl := Option.some.inj h
  exact v_iret C dX1_keep_20
theorem c_X1_keep {l : Launch} {D : va_G} {q : Nat → Nat} {ar : Ar} (a1 : Int32) (a2 : Int32) (a3 : Int32) (S : St) {res : Int32 × St} (h : m_X1_keep a1 a2 a3 S = some res) : MetI l D q ar WX yX1_keep cX1_keep 4 (some .int) rm_X1_keep [.ref (q 29), .int a1, .int a2, .int a3] S res := by
  refine metI_of adrX (by decide +kernel) (Nat.le_of_ble_eq_true rfl) (fun x e1 e2 e3 e4 C => ?_)
  subst e1; subst e2; subst e3; subst e4
  exact v_sub [0, 1, 2, 3] rfl (t_X1_keep_0 C a1 a2 a3 S h)
theorem mf_X1_keep : CalV yX1_keep cX1_keep 4 (some .int) RX1 3 := ⟨w_26_0, w_25_22, w_25_23, w_2_16, rfl, by decide +kernel, by decide +kernel, by decide +kernel⟩
/-! LabyrinthGarden$Helper.seek -/
def f_X1_seek_126 (k114 : Int32 → Int32 → Int32 → Int32 → St → Option (Int32 × St)) (k126 : Int32 → Int32 → Int32 → Int32 → Int32 → St → Option (Int32 × St)) (x1 : Int32) (x2 : Int32) (x3 : Int32) (x4 : Int32) (x5 : Int32) (S : St) : Option (Int32 × St) :=
  if x2 ≤ x5 then (
    lt (x4 + 1 : Int32) fun y2 =>
    k114 x1 x2 x3 y2 S)
  else (
    bI (m_X9_hasBit x3 x4 S) fun r4 S3 =>
    if r4 = 0 then (
      bI (m_X9_hasBit x3 x5 S3) fun r8 S7 =>
      if r8 = 0 then (
        bI (m_X1_saves x1 ((shl 1 x4) ||| (shl 1 x5)) S7) fun r12 S11 =>
        if r12 = 0 then (
          lt (x5 + 1 : Int32) fun y14 =>
          k126 x1 x2 x3 x4 y14 S11)
        else (
          bI (m_X1_keep 2 x4 x5 S11) fun r16 S15 =>
          some (r16, S15)))
      else (
        lt (x5 + 1 : Int32) fun y10 =>
        k126 x1 x2 x3 x4 y10 S7))
    else (
      lt (x5 + 1 : Int32) fun y6 =>
      k126 x1 x2 x3 x4 y6 S3))
def g_X1_seek_126 (k114 : Int32 → Int32 → Int32 → Int32 → St → Option (Int32 × St)) : Nat → Int32 → Int32 → Int32 → Int32 → Int32 → St → Option (Int32 × St)
  | 0 => fun _ _ _ _ _ _ => none
  | n + 1 => f_X1_seek_126 k114 (g_X1_seek_126 k114 n)
def f_X1_seek_114 (k114 : Int32 → Int32 → Int32 → Int32 → St → Option (Int32 × St)) (x1 : Int32) (x2 : Int32) (x3 : Int32) (x4 : Int32) (S : St) : Option (Int32 × St) :=
  if x2 ≤ x4 then (
    some ((-1), S))
  else (
    lt ((x4 + 1) : Int32) fun y2 =>
    g_X1_seek_126 k114 fuel x1 x2 x3 x4 y2 S)
def g_X1_seek_114  : Nat → Int32 → Int32 → Int32 → Int32 → St → Option (Int32 × St)
  | 0 => fun _ _ _ _ _ => none
  | n + 1 => f_X1_seek_114 (g_X1_seek_114  n)
def f_X1_seek_69 (k69 : Int32 → Int32 → Int32 → Int32 → St → Option (Int32 × St)) (x1 : Int32) (x2 : Int32) (x3 : Int32) (x4 : Int32) (S : St) : Option (Int32 × St) :=
  if x2 ≤ x4 then (
    g_X1_seek_114  fuel x1 x2 x3 0 S)
  else (
    bI (m_X9_hasBit x3 x4 S) fun r3 S2 =>
    if r3 = 0 then (
      bI (m_X1_saves x1 (shl 1 x4) S2) fun r7 S6 =>
      if r7 = 0 then (
        lt (x4 + 1 : Int32) fun y9 =>
        k69 x1 x2 x3 y9 S6)
      else (
        bI (m_X1_keep 1 x4 (-1) S6) fun r11 S10 =>
        some (r11, S10)))
    else (
      lt (x4 + 1 : Int32) fun y5 =>
      k69 x1 x2 x3 y5 S2))
def g_X1_seek_69  : Nat → Int32 → Int32 → Int32 → Int32 → St → Option (Int32 × St)
  | 0 => fun _ _ _ _ _ => none
  | n + 1 => f_X1_seek_69 (g_X1_seek_69  n)
def f_X1_seek_43  (x1 : Int32) (s0 : Int32) (S : St) : Option (Int32 × St) :=
  if x1 = 0 then (
    lt ((rd S 6 4) : Int32) fun y3 =>
    g_X1_seek_69  fuel x1 s0 y3 0 S)
  else (
    lt ((rd S 6 5) : Int32) fun y2 =>
    g_X1_seek_69  fuel x1 s0 y2 0 S)
def f_X1_seek_0  (x1 : Int32) (S : St) : Option (Int32 × St) :=
  lt (up S 29 4 0) fun S1 =>
  bI (m_X1_saves x1 0 S1) fun r3 S2 =>
  if r3 = 0 then (
    if x1 = 0 then (
      f_X1_seek_43  x1 (rd S2 6 0) S2)
    else (
      f_X1_seek_43  x1 (rd S2 6 1) S2))
  else (
    bI (m_X1_keep 0 (-1) (-1) S2) fun r7 S6 =>
    some (r7, S6))
def m_X1_seek (a1 : Int32) (S : St) : Option (Int32 × St) := f_X1_seek_0 a1 S
def rm_X1_seek : Room := { frames := 5, cells := 0, slots := 0, locals := 130 }
set_option maxRecDepth 20000 in
set_option maxHeartbeats 2000000 in
theorem t_X1_seek_126 {x : Ctx} (C : Cx x WX cX1_seek RX1 6 rm_X1_seek (some .int)) {res : Int32 × St} {k114 : Int32 → Int32 → Int32 → Int32 → St → Option (Int32 × St)} (hk114 : ∀ (x1 : Int32) (x2 : Int32) (x3 : Int32) (x4 : Int32) (S : St), k114 x1 x2 x3 x4 S = some res → V x WX 6 (QI x WX res) S 114 [(0, .ref (xq x 29)), (1, .int x1), (2, .int x2), (3, .int x3), (4, .int x4)] []) {k126 : Int32 → Int32 → Int32 → Int32 → Int32 → St → Option (Int32 × St)} (hk126 : ∀ (x1 : Int32) (x2 : Int32) (x3 : Int32) (x4 : Int32) (x5 : Int32) (S : St), k126 x1 x2 x3 x4 x5 S = some res → V x WX 6 (QI x WX res) S 126 [(0, .ref (xq x 29)), (1, .int x1), (2, .int x2), (3, .int x3), (4, .int x4), (5, .int x5)] []) (x1 : Int32) (x2 : Int32) (x3 : Int32) (x4 : Int32) (x5 : Int32) (S : St) (h : f_X1_seek_126 k114 k126 x1 x2 x3 x4 x5 S = some res) : V x WX 6 (QI x WX res) S 126 [(0, .ref (xq x 29)), (1, .int x1), (2, .int x2), (3, .int x3), (4, .int x4), (5, .int x5)] [] := by
  unfold f_X1_seek_126 at h
  refine v_iload C 5 dX1_seek_126 rfl (n := 128) rfl ?_
  refine v_iload_n C 2 dX1_seek_128 rfl rfl (n := 129) rfl ?_
  refine v_icmp_ge C dX1_seek_129 (t := 183) (by decide) (n := 132) rfl (fun c1 => ?_) (fun c1 => ?_)
  · have h := ite_p c1 h
    obtain ⟨y2, ey2, h⟩ := lt_e h
    refine v_iinc (L' := [(4, .int y2), (0, .ref (xq x 29)), (1, .int x1), (2, .int x2), (3, .int x3), (5, .int x5)]) C 4 dX1_seek_183 rfl (by rw [ey2]; rfl) (by decide) rfl (n := 186) rfl ?_
    refine v_goto C dX1_seek_186 (n := 114) (by decide) ?_
    refine v_sub [1, 2, 3, 4, 0] rfl ?_
    exact hk114 x1 x2 x3 y2 S h
  · have h := ite_n c1 h
    refine v_iload_n C 3 dX1_seek_132 rfl rfl (n := 133) rfl ?_
    refine v_iload C 4 dX1_seek_133 rfl (n := 135) rfl ?_
    obtain ⟨r4, S3, eS3, h⟩ := bI_e h
    refine v_callNI (As := [.int x3, .int x4]) C (c_X9_hasBit x3 x4 S eS3) mf_X9_hasBit (List.mem_of_getElem? (i := 11) rfl : (RX1, 52, yX9_hasBit, RX9) ∈ nestW) ⟨rfl, rfl, by decide, by decide⟩ rfl rfl (Nat.le_of_ble_eq_true rfl) dX1_seek_135 (n := 138) rfl ?_
    refine v_if_ne C dX1_seek_138 (t := 177) (by decide) (n := 141) rfl (fun c5 => ?_) (fun c5 => ?_)
    · have h := ite_n c5 h
      obtain ⟨y6, ey6, h⟩ := lt_e h
      refine v_iinc (L' := [(5, .int y6), (0, .ref (xq x 29)), (1, .int x1), (2, .int x2), (3, .int x3), (4, .int x4)]) C 5 dX1_seek_177 rfl (by rw [ey6]; rfl) (by decide) rfl (n := 180) rfl ?_
      refine v_goto C dX1_seek_180 (n := 126) (by decide) ?_
      refine v_sub [1, 2, 3, 4, 5, 0] rfl ?_
      exact hk126 x1 x2 x3 x4 y6 S3 h
    · have h := ite_p c5 h
      refine v_iload_n C 3 dX1_seek_141 rfl rfl (n := 142) rfl ?_
      refine v_iload C 5 dX1_seek_142 rfl (n := 144) rfl ?_
      obtain ⟨r8, S7, eS7, h⟩ := bI_e h
      refine v_callNI (As := [.int x3, .int x5]) C (c_X9_hasBit x3 x5 S3 eS7) mf_X9_hasBit (List.mem_of_getElem? (i := 11) rfl : (RX1, 52, yX9_hasBit, RX9) ∈ nestW) ⟨rfl, rfl, by decide, by decide⟩ rfl rfl (Nat.le_of_ble_eq_true rfl) dX1_seek_144 (n := 147) rfl ?_
      refine v_if_ne C dX1_seek_147 (t := 177) (by decide) (n := 150) rfl (fun c9 => ?_) (fun c9 => ?_)
      · have h := ite_n c9 h
        obtain ⟨y10, ey10, h⟩ := lt_e h
        refine v_iinc (L' := [(5, .int y10), (0, .ref (xq x 29)), (1, .int x1), (2, .int x2), (3, .int x3), (4, .int x4)]) C 5 dX1_seek_177 rfl (by rw [ey10]; rfl) (by decide) rfl (n := 180) rfl ?_
        refine v_goto C dX1_seek_180 (n := 126) (by decide) ?_
        refine v_sub [1, 2, 3, 4, 5, 0] rfl ?_
        exact hk126 x1 x2 x3 x4 y10 S7 h
      · have h := ite_p c9 h
        refine v_aload_n C 0 dX1_seek_150 rfl rfl (n := 151) rfl ?_
        refine v_iload_n C 1 dX1_seek_151 rfl rfl (n := 152) rfl ?_
        refine v_iconst (v := 1) C dX1_seek_152 (by decide) (n := 153) rfl ?_
        refine v_iload C 4 dX1_seek_153 rfl (n := 155) rfl ?_
        refine v_ishl C dX1_seek_155 (n := 156) rfl ?_
        refine v_iconst (v := 1) C dX1_seek_156 (by decide) (n := 157) rfl ?_
        refine v_iload C 5 dX1_seek_157 rfl (n := 159) rfl ?_
        refine v_ishl C dX1_seek_159 (n := 160) rfl ?_
        refine v_ior C dX1_seek_160 (n := 161) rfl ?_
        obtain ⟨r12, S11, eS11, h⟩ := bI_e h
        refine v_callVI (As := [.int x1, .int ((shl 1 x4) ||| (shl 1 x5))]) C (c_X1_saves x1 ((shl 1 x4) ||| (shl 1 x5)) S7 eS11) mf_X1_saves w_25_10 (oX1 _ _ _) rfl ⟨rfl, rfl, by decide, by decide⟩ rfl rfl (Nat.le_of_ble_eq_true rfl) dX1_seek_161 (n := 164) rfl ?_
        refine v_if_eq C dX1_seek_164 (t := 177) (by decide) (n := 167) rfl (fun c13 => ?_) (fun c13 => ?_)
        · have h := ite_p c13 h
          obtain ⟨y14, ey14, h⟩ := lt_e h
          refine v_iinc (L' := [(5, .int y14), (0, .ref (xq x 29)), (1, .int x1), (2, .int x2), (3, .int x3), (4, .int x4)]) C 5 dX1_seek_177 rfl (by rw [ey14]; rfl) (by decide) rfl (n := 180) rfl ?_
          refine v_goto C dX1_seek_180 (n := 126) (by decide) ?_
          refine v_sub [1, 2, 3, 4, 5, 0] rfl ?_
          exact hk126 x1 x2 x3 x4 y14 S11 h
        · have h := ite_n c13 h
          refine v_aload_n C 0 dX1_seek_167 rfl rfl (n := 168) rfl ?_
          refine v_iconst (v := 2) C dX1_seek_168 (by decide) (n := 169) rfl ?_
          refine v_iload C 4 dX1_seek_169 rfl (n := 171) rfl ?_
          refine v_iload C 5 dX1_seek_171 rfl (n := 173) rfl ?_
          obtain ⟨r16, S15, eS15, h⟩ := bI_e h
          refine v_callVI (As := [.int 2, .int x4, .int x5]) C (c_X1_keep 2 x4 x5 S11 eS15) mf_X1_keep w_25_21 (oX1 _ _ _) rfl ⟨rfl, rfl, by decide, by decide⟩ rfl rfl (Nat.le_of_ble_eq_true rfl) dX1_seek_173 (n := 176) rfl ?_
          obtain rfl := Option.some.inj h
          exact v_iret C dX1_seek_176
theorem tg_X1_seek_126 {x : Ctx} (C : Cx x WX cX1_seek RX1 6 rm_X1_seek (some .int)) {res : Int32 × St} {k114 : Int32 → Int32 → Int32 → Int32 → St → Option (Int32 × St)} (hk114 : ∀ (x1 : Int32) (x2 : Int32) (x3 : Int32) (x4 : Int32) (S : St), k114 x1 x2 x3 x4 S = some res → V x WX 6 (QI x WX res) S 114 [(0, .ref (xq x 29)), (1, .int x1), (2, .int x2), (3, .int x3), (4, .int x4)] []) : ∀ (n : Nat) (x1 : Int32) (x2 : Int32) (x3 : Int32) (x4 : Int32) (x5 : Int32) (S : St), g_X1_seek_126 k114 n x1 x2 x3 x4 x5 S = some res → V x WX 6 (QI x WX res) S 126 [(0, .ref (xq x 29)), (1, .int x1), (2, .int x2), (3, .int x3), (4, .int x4), (5, .int x5)] [] := by
  intro n
  induction n with
  | zero => intro x1 x2 x3 x4 x5 S h; cases h
  | succ n ih => intro x1 x2 x3 x4 x5 S h; exact t_X1_seek_126 C hk114 (fun x1 x2 x3 x4 x5 S h => ih x1 x2 x3 x4 x5 S h) x1 x2 x3 x4 x5 S h
set_option maxRecDepth 20000 in
set_option maxHeartbeats 2000000 in
theorem t_X1_seek_114 {x : Ctx} (C : Cx x WX cX1_seek RX1 6 rm_X1_seek (some .int)) {res : Int32 × St} {k114 : Int32 → Int32 → Int32 → Int32 → St → Option (Int32 × St)} (hk114 : ∀ (x1 : Int32) (x2 : Int32) (x3 : Int32) (x4 : Int32) (S : St), k114 x1 x2 x3 x4 S = some res → V x WX 6 (QI x WX res) S 114 [(0, .ref (xq x 29)), (1, .int x1), (2, .int x2), (3, .int x3), (4, .int x4)] []) (x1 : Int32) (x2 : Int32) (x3 : Int32) (x4 : Int32) (S : St) (h : f_X1_seek_114 k114 x1 x2 x3 x4 S = some res) : V x WX 6 (QI x WX res) S 114 [(0, .ref (xq x 29)), (1, .int x1), (2, .int x2), (3, .int x3), (4, .int x4)] [] := by
  unfold f_X1_seek_114 at h
  refine v_iload C 4 dX1_seek_114 rfl (n := 116) rfl ?_
  refine v_iload_n C 2 dX1_seek_116 rfl rfl (n := 117) rfl ?_
  refine v_icmp_ge C dX1_seek_117 (t := 189) (by decide) (n := 120) rfl (fun c1 => ?_) (fun c1 => ?_)
  · have h := ite_p c1 h
    refine v_iconst (v := (-1)) C dX1_seek_189 (by decide) (n := 190) rfl ?_
    obtain rfl := Option.some.inj h
    exact v_iret C dX1_seek_190
  · have h := ite_n c1 h
    refine v_iload C 4 dX1_seek_120 rfl (n := 122) rfl ?_
    refine v_iconst (v := 1) C dX1_seek_122 (by decide) (n := 123) rfl ?_
    refine v_iadd C dX1_seek_123 (n := 124) rfl ?_
    obtain ⟨y2, ey2, h⟩ := lt_e h
    refine v_istore (L' := [(5, .int y2), (0, .ref (xq x 29)), (1, .int x1), (2, .int x2), (3, .int x3), (4, .int x4)]) C dX1_seek_124 (by decide) rfl (n := 126) rfl ey2 ?_
    refine v_sub [1, 2, 3, 4, 5, 0] rfl ?_
    exact tg_X1_seek_126 C hk114 fuel x1 x2 x3 x4 y2 S h
theorem tg_X1_seek_114 {x : Ctx} (C : Cx x WX cX1_seek RX1 6 rm_X1_seek (some .int)) {res : Int32 × St}  : ∀ (n : Nat) (x1 : Int32) (x2 : Int32) (x3 : Int32) (x4 : Int32) (S : St), g_X1_seek_114  n x1 x2 x3 x4 S = some res → V x WX 6 (QI x WX res) S 114 [(0, .ref (xq x 29)), (1, .int x1), (2, .int x2), (3, .int x3), (4, .int x4)] [] := by
  intro n
  induction n with
  | zero => intro x1 x2 x3 x4 S h; cases h
  | succ n ih => intro x1 x2 x3 x4 S h; exact t_X1_seek_114 C (fun x1 x2 x3 x4 S h => ih x1 x2 x3 x4 S h) x1 x2 x3 x4 S h
set_option maxRecDepth 20000 in
set_option maxHeartbeats 2000000 in
theorem t_X1_seek_69 {x : Ctx} (C : Cx x WX cX1_seek RX1 6 rm_X1_seek (some .int)) {res : Int32 × St} {k69 : Int32 → Int32 → Int32 → Int32 → St → Option (Int32 × St)} (hk69 : ∀ (x1 : Int32) (x2 : Int32) (x3 : Int32) (x4 : Int32) (S : St), k69 x1 x2 x3 x4 S = some res → V x WX 6 (QI x WX res) S 69 [(0, .ref (xq x 29)), (1, .int x1), (2, .int x2), (3, .int x3), (4, .int x4)] []) (x1 : Int32) (x2 : Int32) (x3 : Int32) (x4 : Int32) (S : St) (h : f_X1_seek_69 k69 x1 x2 x3 x4 S = some res) : V x WX 6 (QI x WX res) S 69 [(0, .ref (xq x 29)), (1, .int x1), (2, .int x2), (3, .int x3), (4, .int x4)] [] := by
  unfold f_X1_seek_69 at h
  refine v_iload C 4 dX1_seek_69 rfl (n := 71) rfl ?_
  refine v_iload_n C 2 dX1_seek_71 rfl rfl (n := 72) rfl ?_
  refine v_icmp_ge C dX1_seek_72 (t := 111) (by decide) (n := 75) rfl (fun c1 => ?_) (fun c1 => ?_)
  · have h := ite_p c1 h
    refine v_iconst (v := 0) C dX1_seek_111 (by decide) (n := 112) rfl ?_
    refine v_istore (L' := [(4, .int 0), (0, .ref (xq x 29)), (1, .int x1), (2, .int x2), (3, .int x3)]) C dX1_seek_112 (by decide) rfl (n := 114) rfl rfl ?_
    refine v_sub [1, 2, 3, 4, 0] rfl ?_
    exact tg_X1_seek_114 C  fuel x1 x2 x3 0 S h
  · have h := ite_n c1 h
    refine v_iload_n C 3 dX1_seek_75 rfl rfl (n := 76) rfl ?_
    refine v_iload C 4 dX1_seek_76 rfl (n := 78) rfl ?_
    obtain ⟨r3, S2, eS2, h⟩ := bI_e h
    refine v_callNI (As := [.int x3, .int x4]) C (c_X9_hasBit x3 x4 S eS2) mf_X9_hasBit (List.mem_of_getElem? (i := 11) rfl : (RX1, 52, yX9_hasBit, RX9) ∈ nestW) ⟨rfl, rfl, by decide, by decide⟩ rfl rfl (Nat.le_of_ble_eq_true rfl) dX1_seek_78 (n := 81) rfl ?_
    refine v_if_ne C dX1_seek_81 (t := 105) (by decide) (n := 84) rfl (fun c4 => ?_) (fun c4 => ?_)
    · have h := ite_n c4 h
      obtain ⟨y5, ey5, h⟩ := lt_e h
      refine v_iinc (L' := [(4, .int y5), (0, .ref (xq x 29)), (1, .int x1), (2, .int x2), (3, .int x3)]) C 4 dX1_seek_105 rfl (by rw [ey5]; rfl) (by decide) rfl (n := 108) rfl ?_
      refine v_goto C dX1_seek_108 (n := 69) (by decide) ?_
      refine v_sub [1, 2, 3, 4, 0] rfl ?_
      exact hk69 x1 x2 x3 y5 S2 h
    · have h := ite_p c4 h
      refine v_aload_n C 0 dX1_seek_84 rfl rfl (n := 85) rfl ?_
      refine v_iload_n C 1 dX1_seek_85 rfl rfl (n := 86) rfl ?_
      refine v_iconst (v := 1) C dX1_seek_86 (by decide) (n := 87) rfl ?_
      refine v_iload C 4 dX1_seek_87 rfl (n := 89) rfl ?_
      refine v_ishl C dX1_seek_89 (n := 90) rfl ?_
      obtain ⟨r7, S6, eS6, h⟩ := bI_e h
      refine v_callVI (As := [.int x1, .int (shl 1 x4)]) C (c_X1_saves x1 (shl 1 x4) S2 eS6) mf_X1_saves w_25_10 (oX1 _ _ _) rfl ⟨rfl, rfl, by decide, by decide⟩ rfl rfl (Nat.le_of_ble_eq_true rfl) dX1_seek_90 (n := 93) rfl ?_
      refine v_if_eq C dX1_seek_93 (t := 105) (by decide) (n := 96) rfl (fun c8 => ?_) (fun c8 => ?_)
      · have h := ite_p c8 h
        obtain ⟨y9, ey9, h⟩ := lt_e h
        refine v_iinc (L' := [(4, .int y9), (0, .ref (xq x 29)), (1, .int x1), (2, .int x2), (3, .int x3)]) C 4 dX1_seek_105 rfl (by rw [ey9]; rfl) (by decide) rfl (n := 108) rfl ?_
        refine v_goto C dX1_seek_108 (n := 69) (by decide) ?_
        refine v_sub [1, 2, 3, 4, 0] rfl ?_
        exact hk69 x1 x2 x3 y9 S6 h
      · have h := ite_n c8 h
        refine v_aload_n C 0 dX1_seek_96 rfl rfl (n := 97) rfl ?_
        refine v_iconst (v := 1) C dX1_seek_97 (by decide) (n := 98) rfl ?_
        refine v_iload C 4 dX1_seek_98 rfl (n := 100) rfl ?_
        refine v_iconst (v := (-1)) C dX1_seek_100 (by decide) (n := 101) rfl ?_
        obtain ⟨r11, S10, eS10, h⟩ := bI_e h
        refine v_callVI (As := [.int 1, .int x4, .int (-1)]) C (c_X1_keep 1 x4 (-1) S6 eS10) mf_X1_keep w_25_21 (oX1 _ _ _) rfl ⟨rfl, rfl, by decide, by decide⟩ rfl rfl (Nat.le_of_ble_eq_true rfl) dX1_seek_101 (n := 104) rfl ?_
        obtain rfl := Option.some.inj h
        exact v_iret C dX1_seek_104
theorem tg_X1_seek_69 {x : Ctx} (C : Cx x WX cX1_seek RX1 6 rm_X1_seek (some .int)) {res : Int32 × St}  : ∀ (n : Nat) (x1 : Int32) (x2 : Int32) (x3 : Int32) (x4 : Int32) (S : St), g_X1_seek_69  n x1 x2 x3 x4 S = some res → V x WX 6 (QI x WX res) S 69 [(0, .ref (xq x 29)), (1, .int x1), (2, .int x2), (3, .int x3), (4, .int x4)] [] := by
  intro n
  induction n with
  | zero => intro x1 x2 x3 x4 S h; cases h
  | succ n ih => intro x1 x2 x3 x4 S h; exact t_X1_seek_69 C (fun x1 x2 x3 x4 S h => ih x1 x2 x3 x4 S h) x1 x2 x3 x4 S h
set_option maxRecDepth 20000 in
set_option maxHeartbeats 2000000 in
theorem t_X1_seek_43 {x : Ctx} (C : Cx x WX cX1_seek RX1 6 rm_X1_seek (some .int)) {res : Int32 × St}  (x1 : Int32) (s0 : Int32) (S : St) (h : f_X1_seek_43  x1 s0 S = some res) : V x WX 6 (QI x WX res) S 43 [(0, .ref (xq x 29)), (1, .int x1)] [.int s0] := by
  unfold f_X1_seek_43 at h
  refine v_istore_n (L' := [(2, .int s0), (0, .ref (xq x 29)), (1, .int x1)]) C dX1_seek_43 rfl (by decide) rfl (n := 44) rfl rfl ?_
  refine v_iload_n C 2 dX1_seek_44 rfl rfl (n := 45) rfl ?_
  refine v_if_ne C dX1_seek_45 (t := 58) (by decide) (n := 48) rfl (fun c1 => ?_) (fun c1 => ?_)
  · have h := ite_n c1 h
    refine v_aload_n C 1 dX1_seek_58 rfl rfl (n := 59) rfl ?_
    refine g_X1_garden C w_6_1 dX1_seek_59 (n := 62) rfl ?_
    refine g_X0_shuts C w_25_9 dX1_seek_62 (n := 65) rfl ?_
    obtain ⟨y2, ey2, h⟩ := lt_e h
    refine v_istore_n (L' := [(3, .int y2), (2, .int s0), (0, .ref (xq x 29)), (1, .int x1)]) C dX1_seek_65 rfl (by decide) rfl (n := 66) rfl ey2 ?_
    refine v_iconst (v := 0) C dX1_seek_66 (by decide) (n := 67) rfl ?_
    refine v_istore (L' := [(4, .int 0), (3, .int y2), (2, .int s0), (0, .ref (xq x 29)), (1, .int x1)]) C dX1_seek_67 (by decide) rfl (n := 69) rfl rfl ?_
    refine v_sub [3, 4, 2, 1, 0] rfl ?_
    exact tg_X1_seek_69 C  fuel x1 s0 y2 0 S h
  · have h := ite_p c1 h
    refine v_aload_n C 1 dX1_seek_48 rfl rfl (n := 49) rfl ?_
    refine g_X1_garden C w_6_1 dX1_seek_49 (n := 52) rfl ?_
    refine g_X0_marks C w_25_8 dX1_seek_52 (n := 55) rfl ?_
    refine v_goto C dX1_seek_55 (n := 65) (by decide) ?_
    obtain ⟨y3, ey3, h⟩ := lt_e h
    refine v_istore_n (L' := [(3, .int y3), (2, .int s0), (0, .ref (xq x 29)), (1, .int x1)]) C dX1_seek_65 rfl (by decide) rfl (n := 66) rfl ey3 ?_
    refine v_iconst (v := 0) C dX1_seek_66 (by decide) (n := 67) rfl ?_
    refine v_istore (L' := [(4, .int 0), (3, .int y3), (2, .int s0), (0, .ref (xq x 29)), (1, .int x1)]) C dX1_seek_67 (by decide) rfl (n := 69) rfl rfl ?_
    refine v_sub [3, 4, 2, 1, 0] rfl ?_
    exact tg_X1_seek_69 C  fuel x1 s0 y3 0 S h
set_option maxRecDepth 20000 in
set_option maxHeartbeats 2000000 in
theorem t_X1_seek_0 {x : Ctx} (C : Cx x WX cX1_seek RX1 6 rm_X1_seek (some .int)) {res : Int32 × St}  (x1 : Int32) (S : St) (h : f_X1_seek_0  x1 S = some res) : V x WX 6 (QI x WX res) S 0 [(0, .ref (xq x 29)), (1, .int x1)] [] := by
  unfold f_X1_seek_0 at h
  refine v_aload_n C 0 dX1_seek_0 rfl rfl (n := 1) rfl ?_
  refine v_iconst (v := 0) C dX1_seek_1 (by decide) (n := 2) rfl ?_
  obtain ⟨S1, eS1, h⟩ := lt_e h
  refine p_X1_lostLately C w_6_0 dX1_seek_2 (n := 5) rfl eS1 ?_
  refine v_aload_n C 0 dX1_seek_5 rfl rfl (n := 6) rfl ?_
  refine v_iload_n C 1 dX1_seek_6 rfl rfl (n := 7) rfl ?_
  refine v_iconst (v := 0) C dX1_seek_7 (by decide) (n := 8) rfl ?_
  obtain ⟨r3, S2, eS2, h⟩ := bI_e h
  refine v_callVI (As := [.int x1, .int 0]) C (c_X1_saves x1 0 S1 eS2) mf_X1_saves w_25_10 (oX1 _ _ _) rfl ⟨rfl, rfl, by decide, by decide⟩ rfl rfl (Nat.le_of_ble_eq_true rfl) dX1_seek_8 (n := 11) rfl ?_
  refine v_if_eq C dX1_seek_11 (t := 22) (by decide) (n := 14) rfl (fun c4 => ?_) (fun c4 => ?_)
  · have h := ite_p c4 h
    refine v_iload_n C 1 dX1_seek_22 rfl rfl (n := 23) rfl ?_
    refine v_if_ne C dX1_seek_23 (t := 36) (by decide) (n := 26) rfl (fun c5 => ?_) (fun c5 => ?_)
    · have h := ite_n c5 h
      refine v_aload_n C 0 dX1_seek_36 rfl rfl (n := 37) rfl ?_
      refine g_X1_garden C w_6_1 dX1_seek_37 (n := 40) rfl ?_
      refine g_X0_paths C w_25_7 dX1_seek_40 (n := 43) rfl ?_
      refine v_sub [0, 1] rfl ?_
      exact t_X1_seek_43 C  x1 (rd S2 6 1) S2 h
    · have h := ite_p c5 h
      refine v_aload_n C 0 dX1_seek_26 rfl rfl (n := 27) rfl ?_
      refine g_X1_garden C w_6_1 dX1_seek_27 (n := 30) rfl ?_
      refine g_X0_junctions C w_25_6 dX1_seek_30 (n := 33) rfl ?_
      refine v_goto C dX1_seek_33 (n := 43) (by decide) ?_
      refine v_sub [0, 1] rfl ?_
      exact t_X1_seek_43 C  x1 (rd S2 6 0) S2 h
  · have h := ite_n c4 h
    refine v_aload_n C 0 dX1_seek_14 rfl rfl (n := 15) rfl ?_
    refine v_iconst (v := 0) C dX1_seek_15 (by decide) (n := 16) rfl ?_
    refine v_iconst (v := (-1)) C dX1_seek_16 (by decide) (n := 17) rfl ?_
    refine v_iconst (v := (-1)) C dX1_seek_17 (by decide) (n := 18) rfl ?_
    obtain ⟨r7, S6, eS6, h⟩ := bI_e h
    refine v_callVI (As := [.int 0, .int (-1), .int (-1)]) C (c_X1_keep 0 (-1) (-1) S2 eS6) mf_X1_keep w_25_21 (oX1 _ _ _) rfl ⟨rfl, rfl, by decide, by decide⟩ rfl rfl (Nat.le_of_ble_eq_true rfl) dX1_seek_18 (n := 21) rfl ?_
    obtain rfl := Option.some.inj h
    exact v_iret C dX1_seek_21
theorem c_X1_seek {l : Launch} {D : va_G} {q : Nat → Nat} {ar : Ar} (a1 : Int32) (S : St) {res : Int32 × St} (h : m_X1_seek a1 S = some res) : MetI l D q ar WX yX1_seek cX1_seek 6 (some .int) rm_X1_seek [.ref (q 29), .int a1] S res := by
  refine metI_of adrX (by decide +kernel) (Nat.le_of_ble_eq_true rfl) (fun x e1 e2 e3 e4 C => ?_)
  subst e1; subst e2; subst e3; subst e4
  exact v_sub [0, 1] rfl (t_X1_seek_0 C a1 S h)
theorem mf_X1_seek : CalV yX1_seek cX1_seek 6 (some .int) RX1 1 := ⟨w_25_5, w_25_3, w_25_4, w_2_16, rfl, by decide +kernel, by decide +kernel, by decide +kernel⟩
/-! LabyrinthGarden$Walker.lap -/
def f_X8_lap_7 (k7 : Int32 → St → Option (Int32 × St)) (x1 : Int32) (S : St) : Option (Int32 × St) :=
  if x1 < 0 then (
    some ((-1), S))
  else (
    ck x1 1501 <|
    ck (rd S 24 1) 1501 <|
    if (rd S 25 x1.toNatClampNeg) = (rd S 25 (rd S 24 1).toNatClampNeg) then (
      some (((rd S 24 1) - x1), S))
    else (
      lt (x1 + (-1) : Int32) fun y5 =>
      k7 y5 S))
def g_X8_lap_7  : Nat → Int32 → St → Option (Int32 × St)
  | 0 => fun _ _ => none
  | n + 1 => f_X8_lap_7 (g_X8_lap_7  n)
def f_X8_lap_0   (S : St) : Option (Int32 × St) :=
  lt (((rd S 24 1) - 1) : Int32) fun y1 =>
  g_X8_lap_7  fuel y1 S
def m_X8_lap  (S : St) : Option (Int32 × St) := f_X8_lap_0  S
def rm_X8_lap : Room := { frames := 0, cells := 0, slots := 0, locals := 0 }
set_option maxRecDepth 20000 in
set_option maxHeartbeats 2000000 in
theorem t_X8_lap_7 {x : Ctx} (C : Cx x WX cX8_lap RX8 2 rm_X8_lap (some .int)) {res : Int32 × St} {k7 : Int32 → St → Option (Int32 × St)} (hk7 : ∀ (x1 : Int32) (S : St), k7 x1 S = some res → V x WX 2 (QI x WX res) S 7 [(0, .ref (xq x 24)), (1, .int x1)] []) (x1 : Int32) (S : St) (h : f_X8_lap_7 k7 x1 S = some res) : V x WX 2 (QI x WX res) S 7 [(0, .ref (xq x 24)), (1, .int x1)] [] := by
  unfold f_X8_lap_7 at h
  refine v_iload_n C 1 dX8_lap_7 rfl rfl (n := 8) rfl ?_
  refine v_if_lt C dX8_lap_8 (t := 42) (by decide) (n := 11) rfl (fun c1 => ?_) (fun c1 => ?_)
  · have h := ite_p c1 h
    refine v_iconst (v := (-1)) C dX8_lap_42 (by decide) (n := 43) rfl ?_
    obtain rfl := Option.some.inj h
    exact v_iret C dX8_lap_43
  · have h := ite_n c1 h
    refine v_aload_n C 0 dX8_lap_11 rfl rfl (n := 12) rfl ?_
    refine g_X8_history C w_5_9 dX8_lap_12 (n := 15) rfl ?_
    refine v_iload_n C 1 dX8_lap_15 rfl rfl (n := 16) rfl ?_
    obtain ⟨hi2, h⟩ := ck_e h
    refine v_ald C aX_25 hi2 dX8_lap_16 (n := 17) rfl ?_
    refine v_aload_n C 0 dX8_lap_17 rfl rfl (n := 18) rfl ?_
    refine g_X8_history C w_5_9 dX8_lap_18 (n := 21) rfl ?_
    refine v_aload_n C 0 dX8_lap_21 rfl rfl (n := 22) rfl ?_
    refine g_X8_last C w_5_10 dX8_lap_22 (n := 25) rfl ?_
    obtain ⟨hi3, h⟩ := ck_e h
    refine v_ald C aX_25 hi3 dX8_lap_25 (n := 26) rfl ?_
    refine v_icmp_ne C dX8_lap_26 (t := 36) (by decide) (n := 29) rfl (fun c4 => ?_) (fun c4 => ?_)
    · have h := ite_n c4 h
      obtain ⟨y5, ey5, h⟩ := lt_e h
      refine v_iinc (L' := [(1, .int y5), (0, .ref (xq x 24))]) C 1 dX8_lap_36 rfl (by rw [ey5]; rfl) (by decide) rfl (n := 39) rfl ?_
      refine v_goto C dX8_lap_39 (n := 7) (by decide) ?_
      refine v_sub [1, 0] rfl ?_
      exact hk7 y5 S h
    · have h := ite_p c4 h
      refine v_aload_n C 0 dX8_lap_29 rfl rfl (n := 30) rfl ?_
      refine g_X8_last C w_5_10 dX8_lap_30 (n := 33) rfl ?_
      refine v_iload_n C 1 dX8_lap_33 rfl rfl (n := 34) rfl ?_
      refine v_isub C dX8_lap_34 (n := 35) rfl ?_
      obtain rfl := Option.some.inj h
      exact v_iret C dX8_lap_35
theorem tg_X8_lap_7 {x : Ctx} (C : Cx x WX cX8_lap RX8 2 rm_X8_lap (some .int)) {res : Int32 × St}  : ∀ (n : Nat) (x1 : Int32) (S : St), g_X8_lap_7  n x1 S = some res → V x WX 2 (QI x WX res) S 7 [(0, .ref (xq x 24)), (1, .int x1)] [] := by
  intro n
  induction n with
  | zero => intro x1 S h; cases h
  | succ n ih => intro x1 S h; exact t_X8_lap_7 C (fun x1 S h => ih x1 S h) x1 S h
set_option maxRecDepth 20000 in
set_option maxHeartbeats 2000000 in
theorem t_X8_lap_0 {x : Ctx} (C : Cx x WX cX8_lap RX8 2 rm_X8_lap (some .int)) {res : Int32 × St}   (S : St) (h : f_X8_lap_0   S = some res) : V x WX 2 (QI x WX res) S 0 [(0, .ref (xq x 24))] [] := by
  unfold f_X8_lap_0 at h
  refine v_aload_n C 0 dX8_lap_0 rfl rfl (n := 1) rfl ?_
  refine g_X8_last C w_5_10 dX8_lap_1 (n := 4) rfl ?_
  refine v_iconst (v := 1) C dX8_lap_4 (by decide) (n := 5) rfl ?_
  refine v_isub C dX8_lap_5 (n := 6) rfl ?_
  obtain ⟨y1, ey1, h⟩ := lt_e h
  refine v_istore_n (L' := [(1, .int y1), (0, .ref (xq x 24))]) C dX8_lap_6 rfl (by decide) rfl (n := 7) rfl ey1 ?_
  refine v_sub [1, 0] rfl ?_
  exact tg_X8_lap_7 C  fuel y1 S h
theorem c_X8_lap {l : Launch} {D : va_G} {q : Nat → Nat} {ar : Ar}  (S : St) {res : Int32 × St} (h : m_X8_lap  S = some res) : MetI l D q ar WX yX8_lap cX8_lap 2 (some .int) rm_X8_lap [.ref (q 24)] S res := by
  refine metI_of adrX (by decide +kernel) (Nat.le_of_ble_eq_true rfl) (fun x e1 e2 e3 e4 C => ?_)
  subst e1; subst e2; subst e3; subst e4
  exact v_sub [0] rfl (t_X8_lap_0 C  S h)
theorem mf_X8_lap : CalV yX8_lap cX8_lap 2 (some .int) RX8 0 := ⟨w_22_9, w_22_7, w_22_8, w_2_8, rfl, by decide +kernel, by decide +kernel, by decide +kernel⟩
/-! LabyrinthGarden$Walker.lead -/
def f_X8_lead_2 (k2 : Int32 → Int32 → St → Option (Int32 × St)) (x1 : Int32) (x2 : Int32) (S : St) : Option (Int32 × St) :=
  if (rd S 24 1) < (x2 + x1) then (
    some ((-1), S))
  else (
    ck x2 1501 <|
    ck (x2 + x1) 1501 <|
    if (rd S 25 x2.toNatClampNeg) = (rd S 25 (x2 + x1).toNatClampNeg) then (
      some (x2, S))
    else (
      lt (x2 + 1 : Int32) fun y5 =>
      k2 x1 y5 S))
def g_X8_lead_2  : Nat → Int32 → Int32 → St → Option (Int32 × St)
  | 0 => fun _ _ _ => none
  | n + 1 => f_X8_lead_2 (g_X8_lead_2  n)
def f_X8_lead_0  (x1 : Int32) (S : St) : Option (Int32 × St) :=
  g_X8_lead_2  fuel x1 0 S
def m_X8_lead (a1 : Int32) (S : St) : Option (Int32 × St) := f_X8_lead_0 a1 S
def rm_X8_lead : Room := { frames := 0, cells := 0, slots := 0, locals := 0 }
set_option maxRecDepth 20000 in
set_option maxHeartbeats 2000000 in
theorem t_X8_lead_2 {x : Ctx} (C : Cx x WX cX8_lead RX8 3 rm_X8_lead (some .int)) {res : Int32 × St} {k2 : Int32 → Int32 → St → Option (Int32 × St)} (hk2 : ∀ (x1 : Int32) (x2 : Int32) (S : St), k2 x1 x2 S = some res → V x WX 3 (QI x WX res) S 2 [(0, .ref (xq x 24)), (1, .int x1), (2, .int x2)] []) (x1 : Int32) (x2 : Int32) (S : St) (h : f_X8_lead_2 k2 x1 x2 S = some res) : V x WX 3 (QI x WX res) S 2 [(0, .ref (xq x 24)), (1, .int x1), (2, .int x2)] [] := by
  unfold f_X8_lead_2 at h
  refine v_iload_n C 2 dX8_lead_2 rfl rfl (n := 3) rfl ?_
  refine v_iload_n C 1 dX8_lead_3 rfl rfl (n := 4) rfl ?_
  refine v_iadd C dX8_lead_4 (n := 5) rfl ?_
  refine v_aload_n C 0 dX8_lead_5 rfl rfl (n := 6) rfl ?_
  refine g_X8_last C w_5_10 dX8_lead_6 (n := 9) rfl ?_
  refine v_icmp_gt C dX8_lead_9 (t := 37) (by decide) (n := 12) rfl (fun c1 => ?_) (fun c1 => ?_)
  · have h := ite_p c1 h
    refine v_iconst (v := (-1)) C dX8_lead_37 (by decide) (n := 38) rfl ?_
    obtain rfl := Option.some.inj h
    exact v_iret C dX8_lead_38
  · have h := ite_n c1 h
    refine v_aload_n C 0 dX8_lead_12 rfl rfl (n := 13) rfl ?_
    refine g_X8_history C w_5_9 dX8_lead_13 (n := 16) rfl ?_
    refine v_iload_n C 2 dX8_lead_16 rfl rfl (n := 17) rfl ?_
    obtain ⟨hi2, h⟩ := ck_e h
    refine v_ald C aX_25 hi2 dX8_lead_17 (n := 18) rfl ?_
    refine v_aload_n C 0 dX8_lead_18 rfl rfl (n := 19) rfl ?_
    refine g_X8_history C w_5_9 dX8_lead_19 (n := 22) rfl ?_
    refine v_iload_n C 2 dX8_lead_22 rfl rfl (n := 23) rfl ?_
    refine v_iload_n C 1 dX8_lead_23 rfl rfl (n := 24) rfl ?_
    refine v_iadd C dX8_lead_24 (n := 25) rfl ?_
    obtain ⟨hi3, h⟩ := ck_e h
    refine v_ald C aX_25 hi3 dX8_lead_25 (n := 26) rfl ?_
    refine v_icmp_ne C dX8_lead_26 (t := 31) (by decide) (n := 29) rfl (fun c4 => ?_) (fun c4 => ?_)
    · have h := ite_n c4 h
      obtain ⟨y5, ey5, h⟩ := lt_e h
      refine v_iinc (L' := [(2, .int y5), (0, .ref (xq x 24)), (1, .int x1)]) C 2 dX8_lead_31 rfl (by rw [ey5]; rfl) (by decide) rfl (n := 34) rfl ?_
      refine v_goto C dX8_lead_34 (n := 2) (by decide) ?_
      refine v_sub [1, 2, 0] rfl ?_
      exact hk2 x1 y5 S h
    · have h := ite_p c4 h
      refine v_iload_n C 2 dX8_lead_29 rfl rfl (n := 30) rfl ?_
      obtain rfl := Option.some.inj h
      exact v_iret C dX8_lead_30
theorem tg_X8_lead_2 {x : Ctx} (C : Cx x WX cX8_lead RX8 3 rm_X8_lead (some .int)) {res : Int32 × St}  : ∀ (n : Nat) (x1 : Int32) (x2 : Int32) (S : St), g_X8_lead_2  n x1 x2 S = some res → V x WX 3 (QI x WX res) S 2 [(0, .ref (xq x 24)), (1, .int x1), (2, .int x2)] [] := by
  intro n
  induction n with
  | zero => intro x1 x2 S h; cases h
  | succ n ih => intro x1 x2 S h; exact t_X8_lead_2 C (fun x1 x2 S h => ih x1 x2 S h) x1 x2 S h
set_option maxRecDepth 20000 in
set_option maxHeartbeats 2000000 in
theorem t_X8_lead_0 {x : Ctx} (C : Cx x WX cX8_lead RX8 3 rm_X8_lead (some .int)) {res : Int32 × St}  (x1 : Int32) (S : St) (h : f_X8_lead_0  x1 S = some res) : V x WX 3 (QI x WX res) S 0 [(0, .ref (xq x 24)), (1, .int x1)] [] := by
  unfold f_X8_lead_0 at h
  refine v_iconst (v := 0) C dX8_lead_0 (by decide) (n := 1) rfl ?_
  refine v_istore_n (L' := [(2, .int 0), (0, .ref (xq x 24)), (1, .int x1)]) C dX8_lead_1 rfl (by decide) rfl (n := 2) rfl rfl ?_
  refine v_sub [1, 2, 0] rfl ?_
  exact tg_X8_lead_2 C  fuel x1 0 S h
theorem c_X8_lead {l : Launch} {D : va_G} {q : Nat → Nat} {ar : Ar} (a1 : Int32) (S : St) {res : Int32 × St} (h : m_X8_lead a1 S = some res) : MetI l D q ar WX yX8_lead cX8_lead 3 (some .int) rm_X8_lead [.ref (q 24), .int a1] S res := by
  refine metI_of adrX (by decide +kernel) (Nat.le_of_ble_eq_true rfl) (fun x e1 e2 e3 e4 C => ?_)
  subst e1; subst e2; subst e3; subst e4
  exact v_sub [0, 1] rfl (t_X8_lead_0 C a1 S h)
theorem mf_X8_lead : CalV yX8_lead cX8_lead 3 (some .int) RX8 1 := ⟨w_22_13, w_22_11, w_22_12, w_2_8, rfl, by decide +kernel, by decide +kernel, by decide +kernel⟩
/-! LabyrinthGarden$Report.take -/
def f_X4_take_70  (x2 : Int32) (x3 : Int32) (x4 : Int32) (x6 : Int32) (s0 : Int32) (S : St) : Option (Int32 × St) :=
  lt (up S 28 (0 : Int32).toNatClampNeg s0) fun S1 =>
  lt (up S1 28 (1 : Int32).toNatClampNeg x4) fun S2 =>
  lt (up S2 28 (2 : Int32).toNatClampNeg x3) fun S3 =>
  lt (up S3 28 (3 : Int32).toNatClampNeg (ush x6 13)) fun S4 =>
  lt (up S4 28 (4 : Int32).toNatClampNeg ((ush x6 11) &&& 3)) fun S5 =>
  bI (m_J6_bitCount_0f7a4 ((ush x6 3) &&& 255) S5) fun r7 S6 =>
  lt (up S6 28 (5 : Int32).toNatClampNeg r7) fun S8 =>
  if x2 = 0 then (
    if x3 = (-1) then (
      some (2, S8))
    else (
      some (1, S8)))
  else (
    some (0, S8))
def f_X4_take_44  (x2 : Int32) (x3 : Int32) (x4 : Int32) (s0 : Int32) (S : St) : Option (Int32 × St) :=
  ck s0 1501 <|
  lt ((rd S 25 s0.toNatClampNeg) : Int32) fun y2 =>
  if x2 = 0 then (
    f_X4_take_70  x2 x3 x4 y2 (-1) S)
  else (
    f_X4_take_70  x2 x3 x4 y2 s0 S)
def f_X4_take_27  (x2 : Int32) (x3 : Int32) (s0 : Int32) (S : St) : Option (Int32 × St) :=
  if s0 = (-1) then (
    f_X4_take_44  x2 x3 s0 (rd S 24 1) S)
  else (
    f_X4_take_44  x2 x3 s0 s0 S)
def f_X4_take_12  (x2 : Int32) (s0 : Int32) (S : St) : Option (Int32 × St) :=
  if s0 = (-1) then (
    f_X4_take_27  x2 s0 (-1) S)
  else (
    bI (m_X8_lead s0 S) fun r3 S2 =>
    f_X4_take_27  x2 s0 r3 S2)
def f_X4_take_0  (x2 : Int32) (S : St) : Option (Int32 × St) :=
  if x2 = 0 then (
    bI (m_X8_lap  S) fun r3 S2 =>
    f_X4_take_12  x2 r3 S2)
  else (
    f_X4_take_12  x2 (-1) S)
def m_X4_take (a2 : Int32) (S : St) : Option (Int32 × St) := f_X4_take_0 a2 S
def rm_X4_take : Room := { frames := 1, cells := 0, slots := 0, locals := 22 }
set_option maxRecDepth 20000 in
set_option maxHeartbeats 2000000 in
theorem t_X4_take_70 {x : Ctx} (C : Cx x WX cX4_take RX4 7 rm_X4_take (some .int)) {res : Int32 × St}  (x2 : Int32) (x3 : Int32) (x4 : Int32) (x6 : Int32) (s0 : Int32) (S : St) (h : f_X4_take_70  x2 x3 x4 x6 s0 S = some res) : V x WX 7 (QI x WX res) S 70 [(0, .ref (xq x 27)), (2, .int x2), (3, .int x3), (4, .int x4), (6, .int x6)] [.int s0, .int 0, .ref (xq x 28)] := by
  unfold f_X4_take_70 at h
  obtain ⟨S1, eS1, h⟩ := lt_e h
  refine v_ast C aX_28 (show vp_in 0 6 by unfold vp_in; decide) dX4_take_70 (n := 71) rfl eS1 ?_
  refine v_aload_n C 0 dX4_take_71 rfl rfl (n := 72) rfl ?_
  refine g_X4_rows C w_5_17 dX4_take_72 (n := 75) rfl ?_
  refine v_iconst (v := 1) C dX4_take_75 (by decide) (n := 76) rfl ?_
  refine v_iload C 3 dX4_take_76 rfl (n := 78) rfl ?_
  obtain ⟨S2, eS2, h⟩ := lt_e h
  refine v_ast C aX_28 (show vp_in 1 6 by unfold vp_in; decide) dX4_take_78 (n := 79) rfl eS2 ?_
  refine v_aload_n C 0 dX4_take_79 rfl rfl (n := 80) rfl ?_
  refine g_X4_rows C w_5_17 dX4_take_80 (n := 83) rfl ?_
  refine v_iconst (v := 2) C dX4_take_83 (by decide) (n := 84) rfl ?_
  refine v_iload_n C 2 dX4_take_84 rfl rfl (n := 85) rfl ?_
  obtain ⟨S3, eS3, h⟩ := lt_e h
  refine v_ast C aX_28 (show vp_in 2 6 by unfold vp_in; decide) dX4_take_85 (n := 86) rfl eS3 ?_
  refine v_aload_n C 0 dX4_take_86 rfl rfl (n := 87) rfl ?_
  refine g_X4_rows C w_5_17 dX4_take_87 (n := 90) rfl ?_
  refine v_iconst (v := 3) C dX4_take_90 (by decide) (n := 91) rfl ?_
  refine v_iload C 4 dX4_take_91 rfl (n := 93) rfl ?_
  refine v_bipush (v := 13) C dX4_take_93 (by decide) (n := 95) rfl ?_
  refine v_iushr C dX4_take_95 (n := 96) rfl ?_
  obtain ⟨S4, eS4, h⟩ := lt_e h
  refine v_ast C aX_28 (show vp_in 3 6 by unfold vp_in; decide) dX4_take_96 (n := 97) rfl eS4 ?_
  refine v_aload_n C 0 dX4_take_97 rfl rfl (n := 98) rfl ?_
  refine g_X4_rows C w_5_17 dX4_take_98 (n := 101) rfl ?_
  refine v_iconst (v := 4) C dX4_take_101 (by decide) (n := 102) rfl ?_
  refine v_iload C 4 dX4_take_102 rfl (n := 104) rfl ?_
  refine v_bipush (v := 11) C dX4_take_104 (by decide) (n := 106) rfl ?_
  refine v_iushr C dX4_take_106 (n := 107) rfl ?_
  refine v_iconst (v := 3) C dX4_take_107 (by decide) (n := 108) rfl ?_
  refine v_iand C dX4_take_108 (n := 109) rfl ?_
  obtain ⟨S5, eS5, h⟩ := lt_e h
  refine v_ast C aX_28 (show vp_in 4 6 by unfold vp_in; decide) dX4_take_109 (n := 110) rfl eS5 ?_
  refine v_aload_n C 0 dX4_take_110 rfl rfl (n := 111) rfl ?_
  refine g_X4_rows C w_5_17 dX4_take_111 (n := 114) rfl ?_
  refine v_iconst (v := 5) C dX4_take_114 (by decide) (n := 115) rfl ?_
  refine v_iload C 4 dX4_take_115 rfl (n := 117) rfl ?_
  refine v_iconst (v := 3) C dX4_take_117 (by decide) (n := 118) rfl ?_
  refine v_iushr C dX4_take_118 (n := 119) rfl ?_
  refine v_sipush (v := 255) C dX4_take_119 (by decide) (n := 122) rfl ?_
  refine v_iand C dX4_take_122 (n := 123) rfl ?_
  obtain ⟨r7, S6, eS6, h⟩ := bI_e h
  refine v_callSI (As := [.int ((ush x6 3) &&& 255)]) C (c_J6_bitCount_0f7a4 ((ush x6 3) &&& 255) S5 eS6) mf_J6_bitCount_0f7a4 w_22_14 ⟨rfl, rfl, by decide, by decide⟩ rfl rfl (Nat.le_of_ble_eq_true rfl) dX4_take_123 (n := 126) rfl ?_
  obtain ⟨S8, eS8, h⟩ := lt_e h
  refine v_ast C aX_28 (show vp_in 5 6 by unfold vp_in; decide) dX4_take_126 (n := 127) rfl eS8 ?_
  refine v_iload_n C 1 dX4_take_127 rfl rfl (n := 128) rfl ?_
  refine v_if_eq C dX4_take_128 (t := 133) (by decide) (n := 131) rfl (fun c9 => ?_) (fun c9 => ?_)
  · have h := ite_p c9 h
    refine v_iload_n C 2 dX4_take_133 rfl rfl (n := 134) rfl ?_
    refine v_iconst (v := (-1)) C dX4_take_134 (by decide) (n := 135) rfl ?_
    refine v_icmp_ne C dX4_take_135 (t := 142) (by decide) (n := 138) rfl (fun c10 => ?_) (fun c10 => ?_)
    · have h := ite_n c10 h
      refine v_iconst (v := 1) C dX4_take_142 (by decide) (n := 143) rfl ?_
      obtain rfl := Option.some.inj h
      exact v_iret C dX4_take_143
    · have h := ite_p c10 h
      refine v_iconst (v := 2) C dX4_take_138 (by decide) (n := 139) rfl ?_
      refine v_goto C dX4_take_139 (n := 143) (by decide) ?_
      obtain rfl := Option.some.inj h
      exact v_iret C dX4_take_143
  · have h := ite_n c9 h
    refine v_iconst (v := 0) C dX4_take_131 (by decide) (n := 132) rfl ?_
    obtain rfl := Option.some.inj h
    exact v_iret C dX4_take_132
set_option maxRecDepth 20000 in
set_option maxHeartbeats 2000000 in
theorem t_X4_take_44 {x : Ctx} (C : Cx x WX cX4_take RX4 7 rm_X4_take (some .int)) {res : Int32 × St}  (x2 : Int32) (x3 : Int32) (x4 : Int32) (s0 : Int32) (S : St) (h : f_X4_take_44  x2 x3 x4 s0 S = some res) : V x WX 7 (QI x WX res) S 44 [(0, .ref (xq x 27)), (1, .ref (xq x 24)), (2, .int x2), (3, .int x3), (4, .int x4)] [.int s0] := by
  unfold f_X4_take_44 at h
  refine v_istore (L' := [(5, .int s0), (0, .ref (xq x 27)), (1, .ref (xq x 24)), (2, .int x2), (3, .int x3), (4, .int x4)]) C dX4_take_44 (by decide) rfl (n := 46) rfl rfl ?_
  refine v_aload_n C 2 dX4_take_46 rfl rfl (n := 47) rfl ?_
  refine g_X8_history C w_22_5 dX4_take_47 (n := 50) rfl ?_
  refine v_iload C 0 dX4_take_50 rfl (n := 52) rfl ?_
  obtain ⟨hi1, h⟩ := ck_e h
  refine v_ald C aX_25 hi1 dX4_take_52 (n := 53) rfl ?_
  obtain ⟨y2, ey2, h⟩ := lt_e h
  refine v_istore (L' := [(6, .int y2), (5, .int s0), (0, .ref (xq x 27)), (1, .ref (xq x 24)), (2, .int x2), (3, .int x3), (4, .int x4)]) C dX4_take_53 (by decide) rfl (n := 55) rfl ey2 ?_
  refine v_aload_n C 2 dX4_take_55 rfl rfl (n := 56) rfl ?_
  refine g_X4_rows C w_5_17 dX4_take_56 (n := 59) rfl ?_
  refine v_iconst (v := 0) C dX4_take_59 (by decide) (n := 60) rfl ?_
  refine v_iload_n C 4 dX4_take_60 rfl rfl (n := 61) rfl ?_
  refine v_if_eq C dX4_take_61 (t := 69) (by decide) (n := 64) rfl (fun c3 => ?_) (fun c3 => ?_)
  · have h := ite_p c3 h
    refine v_iconst (v := (-1)) C dX4_take_69 (by decide) (n := 70) rfl ?_
    refine v_sub [2, 4, 5, 6, 0] rfl ?_
    exact t_X4_take_70 C  x2 x3 x4 y2 (-1) S h
  · have h := ite_n c3 h
    refine v_iload C 1 dX4_take_64 rfl (n := 66) rfl ?_
    refine v_goto C dX4_take_66 (n := 70) (by decide) ?_
    refine v_sub [2, 4, 5, 6, 0] rfl ?_
    exact t_X4_take_70 C  x2 x3 x4 y2 s0 S h
set_option maxRecDepth 20000 in
set_option maxHeartbeats 2000000 in
theorem t_X4_take_27 {x : Ctx} (C : Cx x WX cX4_take RX4 7 rm_X4_take (some .int)) {res : Int32 × St}  (x2 : Int32) (x3 : Int32) (s0 : Int32) (S : St) (h : f_X4_take_27  x2 x3 s0 S = some res) : V x WX 7 (QI x WX res) S 27 [(0, .ref (xq x 27)), (1, .ref (xq x 24)), (2, .int x2), (3, .int x3)] [.int s0] := by
  unfold f_X4_take_27 at h
  refine v_istore (L' := [(4, .int s0), (0, .ref (xq x 27)), (1, .ref (xq x 24)), (2, .int x2), (3, .int x3)]) C dX4_take_27 (by decide) rfl (n := 29) rfl rfl ?_
  refine v_iload C 0 dX4_take_29 rfl (n := 31) rfl ?_
  refine v_iconst (v := (-1)) C dX4_take_31 (by decide) (n := 32) rfl ?_
  refine v_icmp_ne C dX4_take_32 (t := 42) (by decide) (n := 35) rfl (fun c1 => ?_) (fun c1 => ?_)
  · have h := ite_n c1 h
    refine v_iload C 0 dX4_take_42 rfl (n := 44) rfl ?_
    refine v_sub [1, 2, 3, 4, 0] rfl ?_
    exact t_X4_take_44 C  x2 x3 s0 s0 S h
  · have h := ite_p c1 h
    refine v_aload_n C 2 dX4_take_35 rfl rfl (n := 36) rfl ?_
    refine g_X8_last C w_22_4 dX4_take_36 (n := 39) rfl ?_
    refine v_goto C dX4_take_39 (n := 44) (by decide) ?_
    refine v_sub [1, 2, 3, 4, 0] rfl ?_
    exact t_X4_take_44 C  x2 x3 s0 (rd S 24 1) S h
set_option maxRecDepth 20000 in
set_option maxHeartbeats 2000000 in
theorem t_X4_take_12 {x : Ctx} (C : Cx x WX cX4_take RX4 7 rm_X4_take (some .int)) {res : Int32 × St}  (x2 : Int32) (s0 : Int32) (S : St) (h : f_X4_take_12  x2 s0 S = some res) : V x WX 7 (QI x WX res) S 12 [(0, .ref (xq x 27)), (1, .ref (xq x 24)), (2, .int x2)] [.int s0] := by
  unfold f_X4_take_12 at h
  refine v_istore_n (L' := [(3, .int s0), (0, .ref (xq x 27)), (1, .ref (xq x 24)), (2, .int x2)]) C dX4_take_12 rfl (by decide) rfl (n := 13) rfl rfl ?_
  refine v_iload_n C 0 dX4_take_13 rfl rfl (n := 14) rfl ?_
  refine v_iconst (v := (-1)) C dX4_take_14 (by decide) (n := 15) rfl ?_
  refine v_icmp_ne C dX4_take_15 (t := 22) (by decide) (n := 18) rfl (fun c1 => ?_) (fun c1 => ?_)
  · have h := ite_n c1 h
    refine v_aload_n C 2 dX4_take_22 rfl rfl (n := 23) rfl ?_
    refine v_iload_n C 0 dX4_take_23 rfl rfl (n := 24) rfl ?_
    obtain ⟨r3, S2, eS2, h⟩ := bI_e h
    refine v_callVI (As := [.int s0]) C (c_X8_lead s0 S eS2) mf_X8_lead w_22_10 (oX8 _ _ _) rfl ⟨rfl, rfl, by decide, by decide⟩ rfl rfl (Nat.le_of_ble_eq_true rfl) dX4_take_24 (n := 27) rfl ?_
    refine v_sub [1, 2, 3, 0] rfl ?_
    exact t_X4_take_27 C  x2 s0 r3 S2 h
  · have h := ite_p c1 h
    refine v_iconst (v := (-1)) C dX4_take_18 (by decide) (n := 19) rfl ?_
    refine v_goto C dX4_take_19 (n := 27) (by decide) ?_
    refine v_sub [1, 2, 3, 0] rfl ?_
    exact t_X4_take_27 C  x2 s0 (-1) S h
set_option maxRecDepth 20000 in
set_option maxHeartbeats 2000000 in
theorem t_X4_take_0 {x : Ctx} (C : Cx x WX cX4_take RX4 7 rm_X4_take (some .int)) {res : Int32 × St}  (x2 : Int32) (S : St) (h : f_X4_take_0  x2 S = some res) : V x WX 7 (QI x WX res) S 0 [(0, .ref (xq x 27)), (1, .ref (xq x 24)), (2, .int x2)] [] := by
  unfold f_X4_take_0 at h
  refine v_iload_n C 2 dX4_take_0 rfl rfl (n := 1) rfl ?_
  refine v_if_eq C dX4_take_1 (t := 8) (by decide) (n := 4) rfl (fun c1 => ?_) (fun c1 => ?_)
  · have h := ite_p c1 h
    refine v_aload_n C 1 dX4_take_8 rfl rfl (n := 9) rfl ?_
    obtain ⟨r3, S2, eS2, h⟩ := bI_e h
    refine v_callVI (As := []) C (c_X8_lap  S eS2) mf_X8_lap w_22_6 (oX8 _ _ _) rfl ⟨rfl, rfl, by decide, by decide⟩ rfl rfl (Nat.le_of_ble_eq_true rfl) dX4_take_9 (n := 12) rfl ?_
    refine v_sub [0, 1, 2] rfl ?_
    exact t_X4_take_12 C  x2 r3 S2 h
  · have h := ite_n c1 h
    refine v_iconst (v := (-1)) C dX4_take_4 (by decide) (n := 5) rfl ?_
    refine v_goto C dX4_take_5 (n := 12) (by decide) ?_
    refine v_sub [0, 1, 2] rfl ?_
    exact t_X4_take_12 C  x2 (-1) S h
theorem c_X4_take {l : Launch} {D : va_G} {q : Nat → Nat} {ar : Ar} (a2 : Int32) (S : St) {res : Int32 × St} (h : m_X4_take a2 S = some res) : MetI l D q ar WX yX4_take cX4_take 7 (some .int) rm_X4_take [.ref (q 27), .ref (q 24), .int a2] S res := by
  refine metI_of adrX (by decide +kernel) (Nat.le_of_ble_eq_true rfl) (fun x e1 e2 e3 e4 C => ?_)
  subst e1; subst e2; subst e3; subst e4
  exact v_sub [0, 1, 2] rfl (t_X4_take_0 C a2 S h)
theorem mf_X4_take : CalV yX4_take cX4_take 7 (some .int) RX4 2 := ⟨w_22_3, w_22_1, w_22_2, w_2_12, rfl, by decide +kernel, by decide +kernel, by decide +kernel⟩
/-! LabyrinthGarden$Walker.prepare -/
def f_X8_prepare_7 (k7 : Int32 → St → Option (St)) (x2 : Int32) (S : St) : Option (St) :=
  if (rd S 6 6) ≤ x2 then (
    some S)
  else (
    bI (m_X0_placesOpenAt x2 S) fun r3 S2 =>
    ck x2 8 <|
    lt (up S2 26 x2.toNatClampNeg r3) fun S5 =>
    lt (x2 + 1 : Int32) fun y6 =>
    k7 y6 S5)
def g_X8_prepare_7  : Nat → Int32 → St → Option (St)
  | 0 => fun _ _ => none
  | n + 1 => f_X8_prepare_7 (g_X8_prepare_7  n)
def f_X8_prepare_0  (x1 : Nat) (S : St) : Option (St) :=
  ckr x1 <|
  lt (up S 24 4 (sr x1)) fun S2 =>
  g_X8_prepare_7  fuel 0 S2
def m_X8_prepare (a1 : Nat) (S : St) : Option (St) := f_X8_prepare_0 a1 S
def rm_X8_prepare : Room := { frames := 3, cells := 0, slots := 0, locals := 68 }
set_option maxRecDepth 20000 in
set_option maxHeartbeats 2000000 in
theorem t_X8_prepare_7 {x : Ctx} (C : Cx x WX cX8_prepare RX8 3 rm_X8_prepare none) {res : St} {k7 : Int32 → St → Option (St)} (hk7 : ∀ (x2 : Int32) (S : St), k7 x2 S = some res → V x WX 3 (QV x WX res) S 7 [(0, .ref (xq x 24)), (2, .int x2)] []) (x2 : Int32) (S : St) (h : f_X8_prepare_7 k7 x2 S = some res) : V x WX 3 (QV x WX res) S 7 [(0, .ref (xq x 24)), (2, .int x2)] [] := by
  unfold f_X8_prepare_7 at h
  refine v_iload_n C 1 dX8_prepare_7 rfl rfl (n := 8) rfl ?_
  refine v_aload_n C 0 dX8_prepare_8 rfl rfl (n := 9) rfl ?_
  refine g_X8_garden C w_5_12 dX8_prepare_9 (n := 12) rfl ?_
  refine g_X0_beats C w_20_7 dX8_prepare_12 (n := 15) rfl ?_
  refine v_icmp_ge C dX8_prepare_15 (t := 38) (by decide) (n := 18) rfl (fun c1 => ?_) (fun c1 => ?_)
  · have h := ite_p c1 h
    obtain rfl := Option.some.inj h
    exact v_ret C dX8_prepare_38
  · have h := ite_n c1 h
    refine v_aload_n C 0 dX8_prepare_18 rfl rfl (n := 19) rfl ?_
    refine g_X8_openAt C w_5_11 dX8_prepare_19 (n := 22) rfl ?_
    refine v_iload_n C 1 dX8_prepare_22 rfl rfl (n := 23) rfl ?_
    refine v_aload_n C 0 dX8_prepare_23 rfl rfl (n := 24) rfl ?_
    refine g_X8_garden C w_5_12 dX8_prepare_24 (n := 27) rfl ?_
    refine v_iload_n C 1 dX8_prepare_27 rfl rfl (n := 28) rfl ?_
    obtain ⟨r3, S2, eS2, h⟩ := bI_e h
    refine v_callVI (As := [.int x2]) C (c_X0_placesOpenAt x2 S eS2) mf_X0_placesOpenAt w_20_8 (oX0 _ _ _) rfl ⟨rfl, rfl, by decide, by decide⟩ rfl rfl (Nat.le_of_ble_eq_true rfl) dX8_prepare_28 (n := 31) rfl ?_
    obtain ⟨hi4, h⟩ := ck_e h
    obtain ⟨S5, eS5, h⟩ := lt_e h
    refine v_ast C aX_26 hi4 dX8_prepare_31 (n := 32) rfl eS5 ?_
    obtain ⟨y6, ey6, h⟩ := lt_e h
    refine v_iinc (L' := [(2, .int y6), (0, .ref (xq x 24))]) C 1 dX8_prepare_32 rfl (by rw [ey6]; rfl) (by decide) rfl (n := 35) rfl ?_
    refine v_goto C dX8_prepare_35 (n := 7) (by decide) ?_
    refine v_sub [1, 0] rfl ?_
    exact hk7 y6 S5 h
theorem tg_X8_prepare_7 {x : Ctx} (C : Cx x WX cX8_prepare RX8 3 rm_X8_prepare none) {res : St}  : ∀ (n : Nat) (x2 : Int32) (S : St), g_X8_prepare_7  n x2 S = some res → V x WX 3 (QV x WX res) S 7 [(0, .ref (xq x 24)), (2, .int x2)] [] := by
  intro n
  induction n with
  | zero => intro x2 S h; cases h
  | succ n ih => intro x2 S h; exact t_X8_prepare_7 C (fun x2 S h => ih x2 S h) x2 S h
set_option maxRecDepth 20000 in
set_option maxHeartbeats 2000000 in
theorem t_X8_prepare_0 {x : Ctx} (C : Cx x WX cX8_prepare RX8 3 rm_X8_prepare none) {res : St}  (x1 : Nat) (S : St) (h : f_X8_prepare_0  x1 S = some res) : V x WX 3 (QV x WX res) S 0 [(0, .ref (xq x 24)), (1, .ref (xq x x1))] [] := by
  unfold f_X8_prepare_0 at h
  refine v_aload_n C 0 dX8_prepare_0 rfl rfl (n := 1) rfl ?_
  refine v_aload_n C 1 dX8_prepare_1 rfl rfl (n := 2) rfl ?_
  obtain ⟨hr1, h⟩ := ckr_e h
  obtain ⟨S2, eS2, h⟩ := lt_e h
  refine p_X8_rules hr1 C w_5_13 dX8_prepare_2 (n := 5) rfl eS2 ?_
  refine v_iconst (v := 0) C dX8_prepare_5 (by decide) (n := 6) rfl ?_
  refine v_istore_n (L' := [(2, .int 0), (0, .ref (xq x 24)), (1, .ref (xq x x1))]) C dX8_prepare_6 rfl (by decide) rfl (n := 7) rfl rfl ?_
  refine v_sub [1, 0] rfl ?_
  exact tg_X8_prepare_7 C  fuel 0 S2 h
theorem c_X8_prepare {l : Launch} {D : va_G} {q : Nat → Nat} {ar : Ar} (a1 : Nat) (S : St) {res : St} (h : m_X8_prepare a1 S = some res) : MetV l D q ar WX yX8_prepare cX8_prepare 3 none rm_X8_prepare [.ref (q 24), .ref (q a1)] S res := by
  refine metV_of adrX (by decide +kernel) (Nat.le_of_ble_eq_true rfl) (fun x e1 e2 e3 e4 C => ?_)
  subst e1; subst e2; subst e3; subst e4
  exact v_sub [0, 1] rfl (t_X8_prepare_0 C a1 S h)
theorem mf_X8_prepare : CalV yX8_prepare cX8_prepare 3 none RX8 1 := ⟨w_20_6, w_20_4, w_20_5, w_2_8, rfl, by decide +kernel, by decide +kernel, by decide +kernel⟩
