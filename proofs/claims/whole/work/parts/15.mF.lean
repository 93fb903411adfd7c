/-! LabyrinthGardenModel.thrown -/
def f_X10_thrown_0   (S : St) : Option (Int32 × St) :=
  some ((rd S 0 2), S)
def m_X10_thrown  (S : St) : Option (Int32 × St) := f_X10_thrown_0  S
def rm_X10_thrown : Room := { frames := 0, cells := 0, slots := 0, locals := 0 }
set_option maxRecDepth 20000 in
set_option maxHeartbeats 2000000 in
theorem t_X10_thrown_0 {x : Ctx} (C : Cx x WM cX10_thrown RX10 1 rm_X10_thrown (some .int)) {res : Int32 × St}   (S : St) (h : f_X10_thrown_0   S = some res) : V x WM 1 (QI x WM res) S 0 [(0, .ref (xq x 0))] [] := by
  unfold f_X10_thrown_0 at h
  refine v_aload_n C 0 dX10_thrown_0 rfl rfl (n := 1) rfl ?_
  refine g_X10_thrown C w_9_5 dX10_thrown_1 (n := 4) rfl ?_
  obtain rfl := Option.some.inj h
  exact v_iret C dX10_thrown_4
theorem c_X10_thrown {l : Launch} {D : va_G} {q : Nat → Nat} {ar : Ar}  (S : St) {res : Int32 × St} (h : m_X10_thrown  S = some res) : MetI l D q ar WM yX10_thrown cX10_thrown 1 (some .int) rm_X10_thrown [.ref (q 0)] S res := by
  refine metI_of adrM (by decide +kernel) (Nat.le_of_ble_eq_true rfl) (fun x e1 e2 e3 e4 C => ?_)
  subst e1; subst e2; subst e3; subst e4
  exact v_sub [0] rfl (t_X10_thrown_0 C  S h)
theorem mf_X10_thrown : CalV yX10_thrown cX10_thrown 1 (some .int) RX10 0 := ⟨w_34_8, w_34_6, w_34_7, w_1_5, rfl, by decide +kernel, by decide +kernel, by decide +kernel⟩
/-! LabyrinthGardenModel.feed -/
def f_X10_feed_76 (k23 : Int32 → Int32 → Int32 → Int32 → Int32 → Int32 → St → Option (Int32 × St)) (x1 : Int32) (x2 : Int32) (x3 : Int32) (x4 : Int32) (x5 : Int32) (x6 : Int32) (s0 : Int32) (S : St) : Option (Int32 × St) :=
  ck ((rd S 0 1) + x6) 300 <|
  lt (up S 1 ((rd S 0 1) + x6).toNatClampNeg ((sshr s0 (24 - (8 * (irem x6 4)))) &&& 255)) fun S2 =>
  lt (x6 + 1 : Int32) fun y3 =>
  k23 x1 x2 x3 x4 x5 y3 S2
def f_X10_feed_23 (k23 : Int32 → Int32 → Int32 → Int32 → Int32 → Int32 → St → Option (Int32 × St)) (x1 : Int32) (x2 : Int32) (x3 : Int32) (x4 : Int32) (x5 : Int32) (x6 : Int32) (S : St) : Option (Int32 × St) :=
  if 20 ≤ x6 then (
    lt (up S 0 1 ((rd S 0 1) + 20)) fun S2 =>
    some ((rd S2 0 1), S2))
  else (
    if 4 ≤ x6 then (
      if 8 ≤ x6 then (
        if 12 ≤ x6 then (
          if 16 ≤ x6 then (
            f_X10_feed_76 k23 x1 x2 x3 x4 x5 x6 x5 S)
          else (
            f_X10_feed_76 k23 x1 x2 x3 x4 x5 x6 x4 S))
        else (
          f_X10_feed_76 k23 x1 x2 x3 x4 x5 x6 x3 S))
      else (
        f_X10_feed_76 k23 x1 x2 x3 x4 x5 x6 x2 S))
    else (
      f_X10_feed_76 k23 x1 x2 x3 x4 x5 x6 x1 S))
def g_X10_feed_23  : Nat → Int32 → Int32 → Int32 → Int32 → Int32 → Int32 → St → Option (Int32 × St)
  | 0 => fun _ _ _ _ _ _ _ => none
  | n + 1 => f_X10_feed_23 (g_X10_feed_23  n)
def f_X10_feed_0  (x1 : Int32) (x2 : Int32) (x3 : Int32) (x4 : Int32) (x5 : Int32) (S : St) : Option (Int32 × St) :=
  lt (up S 0 2 0) fun S1 =>
  if ((rd S1 0 1) + 20) ≤ 300 then (
    g_X10_feed_23  fuel x1 x2 x3 x4 x5 0 S1)
  else (
    some ((-1), S1))
def m_X10_feed (a1 : Int32) (a2 : Int32) (a3 : Int32) (a4 : Int32) (a5 : Int32) (S : St) : Option (Int32 × St) := f_X10_feed_0 a1 a2 a3 a4 a5 S
def rm_X10_feed : Room := { frames := 0, cells := 0, slots := 0, locals := 0 }
set_option maxRecDepth 20000 in
set_option maxHeartbeats 2000000 in
theorem t_X10_feed_76 {x : Ctx} (C : Cx x WM cX10_feed RX10 8 rm_X10_feed (some .int)) {res : Int32 × St} {k23 : Int32 → Int32 → Int32 → Int32 → Int32 → Int32 → St → Option (Int32 × St)} (hk23 : ∀ (x1 : Int32) (x2 : Int32) (x3 : Int32) (x4 : Int32) (x5 : Int32) (x6 : Int32) (S : St), k23 x1 x2 x3 x4 x5 x6 S = some res → V x WM 8 (QI x WM res) S 23 [(0, .ref (xq x 0)), (1, .int x1), (2, .int x2), (3, .int x3), (4, .int x4), (5, .int x5), (6, .int x6)] []) (x1 : Int32) (x2 : Int32) (x3 : Int32) (x4 : Int32) (x5 : Int32) (x6 : Int32) (s0 : Int32) (S : St) (h : f_X10_feed_76 k23 x1 x2 x3 x4 x5 x6 s0 S = some res) : V x WM 8 (QI x WM res) S 76 [(0, .ref (xq x 0)), (1, .int x1), (2, .int x2), (3, .int x3), (4, .int x4), (5, .int x5), (6, .int x6)] [.int s0] := by
  unfold f_X10_feed_76 at h
  refine v_istore (L' := [(7, .int s0), (0, .ref (xq x 0)), (1, .int x1), (2, .int x2), (3, .int x3), (4, .int x4), (5, .int x5), (6, .int x6)]) C dX10_feed_76 (by decide) rfl (n := 78) rfl rfl ?_
  refine v_aload_n C 1 dX10_feed_78 rfl rfl (n := 79) rfl ?_
  refine g_X10_tape C w_7_5 dX10_feed_79 (n := 82) rfl ?_
  refine v_aload_n C 1 dX10_feed_82 rfl rfl (n := 83) rfl ?_
  refine g_X10_tapeSize C w_9_6 dX10_feed_83 (n := 86) rfl ?_
  refine v_iload C 7 dX10_feed_86 rfl (n := 88) rfl ?_
  refine v_iadd C dX10_feed_88 (n := 89) rfl ?_
  refine v_iload C 0 dX10_feed_89 rfl (n := 91) rfl ?_
  refine v_bipush (v := 24) C dX10_feed_91 (by decide) (n := 93) rfl ?_
  refine v_bipush (v := 8) C dX10_feed_93 (by decide) (n := 95) rfl ?_
  refine v_iload C 7 dX10_feed_95 rfl (n := 97) rfl ?_
  refine v_iconst (v := 4) C dX10_feed_97 (by decide) (n := 98) rfl ?_
  refine v_irem C dX10_feed_98 (by decide) (n := 99) rfl ?_
  refine v_imul C dX10_feed_99 (n := 100) rfl ?_
  refine v_isub C dX10_feed_100 (n := 101) rfl ?_
  refine v_ishr C dX10_feed_101 (n := 102) rfl ?_
  refine v_sipush (v := 255) C dX10_feed_102 (by decide) (n := 105) rfl ?_
  refine v_iand C dX10_feed_105 (n := 106) rfl ?_
  obtain ⟨hi1, h⟩ := ck_e h
  obtain ⟨S2, eS2, h⟩ := lt_e h
  refine v_ast C aM_1 hi1 dX10_feed_106 (n := 107) rfl eS2 ?_
  obtain ⟨y3, ey3, h⟩ := lt_e h
  refine v_iinc (L' := [(6, .int y3), (7, .int s0), (0, .ref (xq x 0)), (1, .int x1), (2, .int x2), (3, .int x3), (4, .int x4), (5, .int x5)]) C 7 dX10_feed_107 rfl (by rw [ey3]; rfl) (by decide) rfl (n := 110) rfl ?_
  refine v_goto C dX10_feed_110 (n := 23) (by decide) ?_
  refine v_sub [2, 3, 4, 5, 6, 7, 0] rfl ?_
  exact hk23 x1 x2 x3 x4 x5 y3 S2 h
set_option maxRecDepth 20000 in
set_option maxHeartbeats 2000000 in
theorem t_X10_feed_23 {x : Ctx} (C : Cx x WM cX10_feed RX10 8 rm_X10_feed (some .int)) {res : Int32 × St} {k23 : Int32 → Int32 → Int32 → Int32 → Int32 → Int32 → St → Option (Int32 × St)} (hk23 : ∀ (x1 : Int32) (x2 : Int32) (x3 : Int32) (x4 : Int32) (x5 : Int32) (x6 : Int32) (S : St), k23 x1 x2 x3 x4 x5 x6 S = some res → V x WM 8 (QI x WM res) S 23 [(0, .ref (xq x 0)), (1, .int x1), (2, .int x2), (3, .int x3), (4, .int x4), (5, .int x5), (6, .int x6)] []) (x1 : Int32) (x2 : Int32) (x3 : Int32) (x4 : Int32) (x5 : Int32) (x6 : Int32) (S : St) (h : f_X10_feed_23 k23 x1 x2 x3 x4 x5 x6 S = some res) : V x WM 8 (QI x WM res) S 23 [(0, .ref (xq x 0)), (1, .int x1), (2, .int x2), (3, .int x3), (4, .int x4), (5, .int x5), (6, .int x6)] [] := by
  unfold f_X10_feed_23 at h
  refine v_iload C 6 dX10_feed_23 rfl (n := 25) rfl ?_
  refine v_bipush (v := 20) C dX10_feed_25 (by decide) (n := 27) rfl ?_
  refine v_icmp_ge C dX10_feed_27 (t := 113) (by decide) (n := 30) rfl (fun c1 => ?_) (fun c1 => ?_)
  · have h := ite_p c1 h
    refine v_aload_n C 0 dX10_feed_113 rfl rfl (n := 114) rfl ?_
    refine v_dup C dX10_feed_114 rfl (n := 115) rfl ?_
    refine g_X10_tapeSize C w_9_6 dX10_feed_115 (n := 118) rfl ?_
    refine v_bipush (v := 20) C dX10_feed_118 (by decide) (n := 120) rfl ?_
    refine v_iadd C dX10_feed_120 (n := 121) rfl ?_
    obtain ⟨S2, eS2, h⟩ := lt_e h
    refine p_X10_tapeSize C w_9_6 dX10_feed_121 (n := 124) rfl eS2 ?_
    refine v_aload_n C 0 dX10_feed_124 rfl rfl (n := 125) rfl ?_
    refine g_X10_tapeSize C w_9_6 dX10_feed_125 (n := 128) rfl ?_
    obtain rfl := Option.some.inj h
    exact v_iret C dX10_feed_128
  · have h := ite_n c1 h
    refine v_iload C 6 dX10_feed_30 rfl (n := 32) rfl ?_
    refine v_iconst (v := 4) C dX10_feed_32 (by decide) (n := 33) rfl ?_
    refine v_icmp_ge C dX10_feed_33 (t := 40) (by decide) (n := 36) rfl (fun c3 => ?_) (fun c3 => ?_)
    · have h := ite_p c3 h
      refine v_iload C 6 dX10_feed_40 rfl (n := 42) rfl ?_
      refine v_bipush (v := 8) C dX10_feed_42 (by decide) (n := 44) rfl ?_
      refine v_icmp_ge C dX10_feed_44 (t := 51) (by decide) (n := 47) rfl (fun c4 => ?_) (fun c4 => ?_)
      · have h := ite_p c4 h
        refine v_iload C 6 dX10_feed_51 rfl (n := 53) rfl ?_
        refine v_bipush (v := 12) C dX10_feed_53 (by decide) (n := 55) rfl ?_
        refine v_icmp_ge C dX10_feed_55 (t := 62) (by decide) (n := 58) rfl (fun c5 => ?_) (fun c5 => ?_)
        · have h := ite_p c5 h
          refine v_iload C 6 dX10_feed_62 rfl (n := 64) rfl ?_
          refine v_bipush (v := 16) C dX10_feed_64 (by decide) (n := 66) rfl ?_
          refine v_icmp_ge C dX10_feed_66 (t := 74) (by decide) (n := 69) rfl (fun c6 => ?_) (fun c6 => ?_)
          · have h := ite_p c6 h
            refine v_iload C 5 dX10_feed_74 rfl (n := 76) rfl ?_
            refine v_sub [0, 1, 2, 3, 4, 5, 6] rfl ?_
            exact t_X10_feed_76 C hk23 x1 x2 x3 x4 x5 x6 x5 S h
          · have h := ite_n c6 h
            refine v_iload C 4 dX10_feed_69 rfl (n := 71) rfl ?_
            refine v_goto C dX10_feed_71 (n := 76) (by decide) ?_
            refine v_sub [0, 1, 2, 3, 4, 5, 6] rfl ?_
            exact t_X10_feed_76 C hk23 x1 x2 x3 x4 x5 x6 x4 S h
        · have h := ite_n c5 h
          refine v_iload_n C 3 dX10_feed_58 rfl rfl (n := 59) rfl ?_
          refine v_goto C dX10_feed_59 (n := 76) (by decide) ?_
          refine v_sub [0, 1, 2, 3, 4, 5, 6] rfl ?_
          exact t_X10_feed_76 C hk23 x1 x2 x3 x4 x5 x6 x3 S h
      · have h := ite_n c4 h
        refine v_iload_n C 2 dX10_feed_47 rfl rfl (n := 48) rfl ?_
        refine v_goto C dX10_feed_48 (n := 76) (by decide) ?_
        refine v_sub [0, 1, 2, 3, 4, 5, 6] rfl ?_
        exact t_X10_feed_76 C hk23 x1 x2 x3 x4 x5 x6 x2 S h
    · have h := ite_n c3 h
      refine v_iload_n C 1 dX10_feed_36 rfl rfl (n := 37) rfl ?_
      refine v_goto C dX10_feed_37 (n := 76) (by decide) ?_
      refine v_sub [0, 1, 2, 3, 4, 5, 6] rfl ?_
      exact t_X10_feed_76 C hk23 x1 x2 x3 x4 x5 x6 x1 S h
theorem tg_X10_feed_23 {x : Ctx} (C : Cx x WM cX10_feed RX10 8 rm_X10_feed (some .int)) {res : Int32 × St}  : ∀ (n : Nat) (x1 : Int32) (x2 : Int32) (x3 : Int32) (x4 : Int32) (x5 : Int32) (x6 : Int32) (S : St), g_X10_feed_23  n x1 x2 x3 x4 x5 x6 S = some res → V x WM 8 (QI x WM res) S 23 [(0, .ref (xq x 0)), (1, .int x1), (2, .int x2), (3, .int x3), (4, .int x4), (5, .int x5), (6, .int x6)] [] := by
  intro n
  induction n with
  | zero => intro x1 x2 x3 x4 x5 x6 S h; cases h
  | succ n ih => intro x1 x2 x3 x4 x5 x6 S h; exact t_X10_feed_23 C (fun x1 x2 x3 x4 x5 x6 S h => ih x1 x2 x3 x4 x5 x6 S h) x1 x2 x3 x4 x5 x6 S h
set_option maxRecDepth 20000 in
set_option maxHeartbeats 2000000 in
theorem t_X10_feed_0 {x : Ctx} (C : Cx x WM cX10_feed RX10 8 rm_X10_feed (some .int)) {res : Int32 × St}  (x1 : Int32) (x2 : Int32) (x3 : Int32) (x4 : Int32) (x5 : Int32) (S : St) (h : f_X10_feed_0  x1 x2 x3 x4 x5 S = some res) : V x WM 8 (QI x WM res) S 0 [(0, .ref (xq x 0)), (1, .int x1), (2, .int x2), (3, .int x3), (4, .int x4), (5, .int x5)] [] := by
  unfold f_X10_feed_0 at h
  refine v_aload_n C 0 dX10_feed_0 rfl rfl (n := 1) rfl ?_
  refine v_iconst (v := 0) C dX10_feed_1 (by decide) (n := 2) rfl ?_
  obtain ⟨S1, eS1, h⟩ := lt_e h
  refine p_X10_thrown C w_9_5 dX10_feed_2 (n := 5) rfl eS1 ?_
  refine v_aload_n C 0 dX10_feed_5 rfl rfl (n := 6) rfl ?_
  refine g_X10_tapeSize C w_9_6 dX10_feed_6 (n := 9) rfl ?_
  refine v_bipush (v := 20) C dX10_feed_9 (by decide) (n := 11) rfl ?_
  refine v_iadd C dX10_feed_11 (n := 12) rfl ?_
  refine v_sipush (v := 300) C dX10_feed_12 (by decide) (n := 15) rfl ?_
  refine v_icmp_le C dX10_feed_15 (t := 20) (by decide) (n := 18) rfl (fun c2 => ?_) (fun c2 => ?_)
  · have h := ite_p c2 h
    refine v_iconst (v := 0) C dX10_feed_20 (by decide) (n := 21) rfl ?_
    refine v_istore (L' := [(6, .int 0), (0, .ref (xq x 0)), (1, .int x1), (2, .int x2), (3, .int x3), (4, .int x4), (5, .int x5)]) C dX10_feed_21 (by decide) rfl (n := 23) rfl rfl ?_
    refine v_sub [1, 2, 3, 4, 5, 6, 0] rfl ?_
    exact tg_X10_feed_23 C  fuel x1 x2 x3 x4 x5 0 S1 h
  · have h := ite_n c2 h
    refine v_iconst (v := (-1)) C dX10_feed_18 (by decide) (n := 19) rfl ?_
    obtain rfl := Option.some.inj h
    exact v_iret C dX10_feed_19
theorem c_X10_feed {l : Launch} {D : va_G} {q : Nat → Nat} {ar : Ar} (a1 : Int32) (a2 : Int32) (a3 : Int32) (a4 : Int32) (a5 : Int32) (S : St) {res : Int32 × St} (h : m_X10_feed a1 a2 a3 a4 a5 S = some res) : MetI l D q ar WM yX10_feed cX10_feed 8 (some .int) rm_X10_feed [.ref (q 0), .int a1, .int a2, .int a3, .int a4, .int a5] S res := by
  refine metI_of adrM (by decide +kernel) (Nat.le_of_ble_eq_true rfl) (fun x e1 e2 e3 e4 C => ?_)
  subst e1; subst e2; subst e3; subst e4
  exact v_sub [0, 1, 2, 3, 4, 5] rfl (t_X10_feed_0 C a1 a2 a3 a4 a5 S h)
theorem mf_X10_feed : CalV yX10_feed cX10_feed 8 (some .int) RX10 5 := ⟨w_9_4, w_9_2, w_9_3, w_1_5, rfl, by decide +kernel, by decide +kernel, by decide +kernel⟩
/-! LabyrinthGardenModel.wrong -/
def f_X10_wrong_0  (x1 : Int32) (x2 : Int32) (S : St) : Option (Int32 × St) :=
  lt (up S 0 3 x1) fun S1 =>
  lt (up S1 0 4 x2) fun S2 =>
  some (0, S2)
def m_X10_wrong (a1 : Int32) (a2 : Int32) (S : St) : Option (Int32 × St) := f_X10_wrong_0 a1 a2 S
def rm_X10_wrong : Room := { frames := 0, cells := 0, slots := 0, locals := 0 }
set_option maxRecDepth 20000 in
set_option maxHeartbeats 2000000 in
theorem t_X10_wrong_0 {x : Ctx} (C : Cx x WM cX10_wrong RX10 3 rm_X10_wrong (some .boolean)) {res : Int32 × St}  (x1 : Int32) (x2 : Int32) (S : St) (h : f_X10_wrong_0  x1 x2 S = some res) : V x WM 3 (QI x WM res) S 0 [(0, .ref (xq x 0)), (1, .int x1), (2, .int x2)] [] := by
  unfold f_X10_wrong_0 at h
  refine v_aload_n C 0 dX10_wrong_0 rfl rfl (n := 1) rfl ?_
  refine v_iload_n C 1 dX10_wrong_1 rfl rfl (n := 2) rfl ?_
  obtain ⟨S1, eS1, h⟩ := lt_e h
  refine p_X10_fault C w_12_15 dX10_wrong_2 (n := 5) rfl eS1 ?_
  refine v_aload_n C 0 dX10_wrong_5 rfl rfl (n := 6) rfl ?_
  refine v_iload_n C 2 dX10_wrong_6 rfl rfl (n := 7) rfl ?_
  obtain ⟨S2, eS2, h⟩ := lt_e h
  refine p_X10_faultPlace C w_7_6 dX10_wrong_7 (n := 10) rfl eS2 ?_
  refine v_iconst (v := 0) C dX10_wrong_10 (by decide) (n := 11) rfl ?_
  obtain rfl := Option.some.inj h
  exact v_zret C (Or.inl rfl) dX10_wrong_11
theorem c_X10_wrong {l : Launch} {D : va_G} {q : Nat → Nat} {ar : Ar} (a1 : Int32) (a2 : Int32) (S : St) {res : Int32 × St} (h : m_X10_wrong a1 a2 S = some res) : MetI l D q ar WM yX10_wrong cX10_wrong 3 (some .boolean) rm_X10_wrong [.ref (q 0), .int a1, .int a2] S res := by
  refine metI_of adrM (by decide +kernel) (Nat.le_of_ble_eq_true rfl) (fun x e1 e2 e3 e4 C => ?_)
  subst e1; subst e2; subst e3; subst e4
  exact v_sub [0, 1, 2] rfl (t_X10_wrong_0 C a1 a2 S h)
theorem mf_X10_wrong : CalV yX10_wrong cX10_wrong 3 (some .boolean) RX10 2 := ⟨w_14_0, w_13_22, w_13_23, w_1_5, rfl, by decide +kernel, by decide +kernel, by decide +kernel⟩
/-! LabyrinthGardenModel.wordAt -/
def f_X10_wordAt_104 (k5 : Int32 → Int32 → Int32 → Int32 → St → Option (Int32 × St)) (x1 : Int32) (x2 : Int32) (x3 : Int32) (x4 : Int32) (x5 : Int32) (x6 : Int32) (S : St) : Option (Int32 × St) :=
  if x6 = 0 then (
    lt ((x4 + (x5 + 1)) : Int32) fun y2 =>
    lt (x3 + 1 : Int32) fun y3 =>
    k5 x1 x2 y3 y2 S)
  else (
    some (x3, S))
def f_X10_wordAt_57 (k5 : Int32 → Int32 → Int32 → Int32 → St → Option (Int32 × St)) (k57 : Int32 → Int32 → Int32 → Int32 → Int32 → Int32 → Int32 → St → Option (Int32 × St)) (x1 : Int32) (x2 : Int32) (x3 : Int32) (x4 : Int32) (x5 : Int32) (x6 : Int32) (x7 : Int32) (S : St) : Option (Int32 × St) :=
  if x5 ≤ x7 then (
    f_X10_wordAt_104 k5 x1 x2 x3 x4 x5 x6 S)
  else (
    if x6 = 0 then (
      f_X10_wordAt_104 k5 x1 x2 x3 x4 x5 x6 S)
    else (
      ck (x4 + x7) 15 <|
      ck (x1 + x7) 300 <|
      if (rd S 13 (x4 + x7).toNatClampNeg) = (rd S 1 (x1 + x7).toNatClampNeg) then (
        lt (x7 + 1 : Int32) fun y7 =>
        k57 x1 x2 x3 x4 x5 1 y7 S)
      else (
        lt (x7 + 1 : Int32) fun y6 =>
        k57 x1 x2 x3 x4 x5 0 y6 S)))
def g_X10_wordAt_57 (k5 : Int32 → Int32 → Int32 → Int32 → St → Option (Int32 × St)) : Nat → Int32 → Int32 → Int32 → Int32 → Int32 → Int32 → Int32 → St → Option (Int32 × St)
  | 0 => fun _ _ _ _ _ _ _ _ => none
  | n + 1 => f_X10_wordAt_57 k5 (g_X10_wordAt_57 k5 n)
def f_X10_wordAt_18 (k5 : Int32 → Int32 → Int32 → Int32 → St → Option (Int32 × St)) (k18 : Int32 → Int32 → Int32 → Int32 → Int32 → St → Option (Int32 × St)) (x1 : Int32) (x2 : Int32) (x3 : Int32) (x4 : Int32) (x5 : Int32) (S : St) : Option (Int32 × St) :=
  ck (x4 + x5) 15 <|
  if (rd S 13 (x4 + x5).toNatClampNeg) = 32 then (
    if x5 = (x2 - x1) then (
      g_X10_wordAt_57 k5 fuel x1 x2 x3 x4 x5 1 0 S)
    else (
      g_X10_wordAt_57 k5 fuel x1 x2 x3 x4 x5 0 0 S))
  else (
    lt (x5 + 1 : Int32) fun y4 =>
    k18 x1 x2 x3 x4 y4 S)
def g_X10_wordAt_18 (k5 : Int32 → Int32 → Int32 → Int32 → St → Option (Int32 × St)) : Nat → Int32 → Int32 → Int32 → Int32 → Int32 → St → Option (Int32 × St)
  | 0 => fun _ _ _ _ _ _ => none
  | n + 1 => f_X10_wordAt_18 k5 (g_X10_wordAt_18 k5 n)
def f_X10_wordAt_5 (k5 : Int32 → Int32 → Int32 → Int32 → St → Option (Int32 × St)) (x1 : Int32) (x2 : Int32) (x3 : Int32) (x4 : Int32) (S : St) : Option (Int32 × St) :=
  if 15 ≤ x4 then (
    some ((-1), S))
  else (
    g_X10_wordAt_18 k5 fuel x1 x2 x3 x4 0 S)
def g_X10_wordAt_5  : Nat → Int32 → Int32 → Int32 → Int32 → St → Option (Int32 × St)
  | 0 => fun _ _ _ _ _ => none
  | n + 1 => f_X10_wordAt_5 (g_X10_wordAt_5  n)
def f_X10_wordAt_0  (x1 : Int32) (x2 : Int32) (S : St) : Option (Int32 × St) :=
  g_X10_wordAt_5  fuel x1 x2 0 0 S
def m_X10_wordAt (a1 : Int32) (a2 : Int32) (S : St) : Option (Int32 × St) := f_X10_wordAt_0 a1 a2 S
def rm_X10_wordAt : Room := { frames := 0, cells := 0, slots := 0, locals := 0 }
set_option maxRecDepth 20000 in
set_option maxHeartbeats 2000000 in
theorem t_X10_wordAt_104 {x : Ctx} (C : Cx x WM cX10_wordAt RX10 8 rm_X10_wordAt (some .int)) {res : Int32 × St} {k5 : Int32 → Int32 → Int32 → Int32 → St → Option (Int32 × St)} (hk5 : ∀ (x1 : Int32) (x2 : Int32) (x3 : Int32) (x4 : Int32) (S : St), k5 x1 x2 x3 x4 S = some res → V x WM 8 (QI x WM res) S 5 [(0, .ref (xq x 0)), (1, .int x1), (2, .int x2), (3, .int x3), (4, .int x4)] []) (x1 : Int32) (x2 : Int32) (x3 : Int32) (x4 : Int32) (x5 : Int32) (x6 : Int32) (S : St) (h : f_X10_wordAt_104 k5 x1 x2 x3 x4 x5 x6 S = some res) : V x WM 8 (QI x WM res) S 104 [(0, .ref (xq x 0)), (1, .int x1), (2, .int x2), (3, .int x3), (4, .int x4), (5, .int x5), (6, .int x6)] [] := by
  unfold f_X10_wordAt_104 at h
  refine v_iload C 6 dX10_wordAt_104 rfl (n := 106) rfl ?_
  refine v_if_eq C dX10_wordAt_106 (t := 111) (by decide) (n := 109) rfl (fun c1 => ?_) (fun c1 => ?_)
  · have h := ite_p c1 h
    refine v_iload C 4 dX10_wordAt_111 rfl (n := 113) rfl ?_
    refine v_iload C 5 dX10_wordAt_113 rfl (n := 115) rfl ?_
    refine v_iconst (v := 1) C dX10_wordAt_115 (by decide) (n := 116) rfl ?_
    refine v_iadd C dX10_wordAt_116 (n := 117) rfl ?_
    refine v_iadd C dX10_wordAt_117 (n := 118) rfl ?_
    obtain ⟨y2, ey2, h⟩ := lt_e h
    refine v_istore (L' := [(4, .int y2), (0, .ref (xq x 0)), (1, .int x1), (2, .int x2), (3, .int x3), (5, .int x5), (6, .int x6)]) C dX10_wordAt_118 (by decide) rfl (n := 120) rfl ey2 ?_
    obtain ⟨y3, ey3, h⟩ := lt_e h
    refine v_iinc (L' := [(3, .int y3), (4, .int y2), (0, .ref (xq x 0)), (1, .int x1), (2, .int x2), (5, .int x5), (6, .int x6)]) C 4 dX10_wordAt_120 rfl (by rw [ey3]; rfl) (by decide) rfl (n := 123) rfl ?_
    refine v_goto C dX10_wordAt_123 (n := 5) (by decide) ?_
    refine v_sub [2, 3, 4, 0, 1] rfl ?_
    exact hk5 x1 x2 y3 y2 S h
  · have h := ite_n c1 h
    refine v_iload_n C 3 dX10_wordAt_109 rfl rfl (n := 110) rfl ?_
    obtain rfl := Option.some.inj h
    exact v_iret C dX10_wordAt_110
set_option maxRecDepth 20000 in
set_option maxHeartbeats 2000000 in
theorem t_X10_wordAt_57 {x : Ctx} (C : Cx x WM cX10_wordAt RX10 8 rm_X10_wordAt (some .int)) {res : Int32 × St} {k5 : Int32 → Int32 → Int32 → Int32 → St → Option (Int32 × St)} (hk5 : ∀ (x1 : Int32) (x2 : Int32) (x3 : Int32) (x4 : Int32) (S : St), k5 x1 x2 x3 x4 S = some res → V x WM 8 (QI x WM res) S 5 [(0, .ref (xq x 0)), (1, .int x1), (2, .int x2), (3, .int x3), (4, .int x4)] []) {k57 : Int32 → Int32 → Int32 → Int32 → Int32 → Int32 → Int32 → St → Option (Int32 × St)} (hk57 : ∀ (x1 : Int32) (x2 : Int32) (x3 : Int32) (x4 : Int32) (x5 : Int32) (x6 : Int32) (x7 : Int32) (S : St), k57 x1 x2 x3 x4 x5 x6 x7 S = some res → V x WM 8 (QI x WM res) S 57 [(0, .ref (xq x 0)), (1, .int x1), (2, .int x2), (3, .int x3), (4, .int x4), (5, .int x5), (6, .int x6), (7, .int x7)] []) (x1 : Int32) (x2 : Int32) (x3 : Int32) (x4 : Int32) (x5 : Int32) (x6 : Int32) (x7 : Int32) (S : St) (h : f_X10_wordAt_57 k5 k57 x1 x2 x3 x4 x5 x6 x7 S = some res) : V x WM 8 (QI x WM res) S 57 [(0, .ref (xq x 0)), (1, .int x1), (2, .int x2), (3, .int x3), (4, .int x4), (5, .int x5), (6, .int x6), (7, .int x7)] [] := by
  unfold f_X10_wordAt_57 at h
  refine v_iload C 7 dX10_wordAt_57 rfl (n := 59) rfl ?_
  refine v_iload C 5 dX10_wordAt_59 rfl (n := 61) rfl ?_
  refine v_icmp_ge C dX10_wordAt_61 (t := 104) (by decide) (n := 64) rfl (fun c1 => ?_) (fun c1 => ?_)
  · have h := ite_p c1 h
    refine v_sub [0, 1, 2, 3, 4, 5, 6] rfl ?_
    exact t_X10_wordAt_104 C hk5 x1 x2 x3 x4 x5 x6 S h
  · have h := ite_n c1 h
    refine v_iload C 6 dX10_wordAt_64 rfl (n := 66) rfl ?_
    refine v_if_eq C dX10_wordAt_66 (t := 104) (by decide) (n := 69) rfl (fun c2 => ?_) (fun c2 => ?_)
    · have h := ite_p c2 h
      refine v_sub [0, 1, 2, 3, 4, 5, 6] rfl ?_
      exact t_X10_wordAt_104 C hk5 x1 x2 x3 x4 x5 x6 S h
    · have h := ite_n c2 h
      refine v_aload_n C 0 dX10_wordAt_69 rfl rfl (n := 70) rfl ?_
      refine g_X10_words C w_7_20 dX10_wordAt_70 (n := 73) rfl ?_
      refine v_iload C 4 dX10_wordAt_73 rfl (n := 75) rfl ?_
      refine v_iload C 7 dX10_wordAt_75 rfl (n := 77) rfl ?_
      refine v_iadd C dX10_wordAt_77 (n := 78) rfl ?_
      obtain ⟨hi3, h⟩ := ck_e h
      refine v_ald C aM_13 hi3 dX10_wordAt_78 (n := 79) rfl ?_
      refine v_aload_n C 0 dX10_wordAt_79 rfl rfl (n := 80) rfl ?_
      refine g_X10_tape C w_7_5 dX10_wordAt_80 (n := 83) rfl ?_
      refine v_iload_n C 1 dX10_wordAt_83 rfl rfl (n := 84) rfl ?_
      refine v_iload C 7 dX10_wordAt_84 rfl (n := 86) rfl ?_
      refine v_iadd C dX10_wordAt_86 (n := 87) rfl ?_
      obtain ⟨hi4, h⟩ := ck_e h
      refine v_ald C aM_1 hi4 dX10_wordAt_87 (n := 88) rfl ?_
      refine v_icmp_ne C dX10_wordAt_88 (t := 95) (by decide) (n := 91) rfl (fun c5 => ?_) (fun c5 => ?_)
      · have h := ite_n c5 h
        refine v_iconst (v := 0) C dX10_wordAt_95 (by decide) (n := 96) rfl ?_
        refine v_istore (L' := [(6, .int 0), (0, .ref (xq x 0)), (1, .int x1), (2, .int x2), (3, .int x3), (4, .int x4), (5, .int x5), (7, .int x7)]) C dX10_wordAt_96 (by decide) rfl (n := 98) rfl rfl ?_
        obtain ⟨y6, ey6, h⟩ := lt_e h
        refine v_iinc (L' := [(7, .int y6), (6, .int 0), (0, .ref (xq x 0)), (1, .int x1), (2, .int x2), (3, .int x3), (4, .int x4), (5, .int x5)]) C 7 dX10_wordAt_98 rfl (by rw [ey6]; rfl) (by decide) rfl (n := 101) rfl ?_
        refine v_goto C dX10_wordAt_101 (n := 57) (by decide) ?_
        refine v_sub [2, 3, 4, 5, 6, 7, 1, 0] rfl ?_
        exact hk57 x1 x2 x3 x4 x5 0 y6 S h
      · have h := ite_p c5 h
        refine v_iconst (v := 1) C dX10_wordAt_91 (by decide) (n := 92) rfl ?_
        refine v_goto C dX10_wordAt_92 (n := 96) (by decide) ?_
        refine v_istore (L' := [(6, .int 1), (0, .ref (xq x 0)), (1, .int x1), (2, .int x2), (3, .int x3), (4, .int x4), (5, .int x5), (7, .int x7)]) C dX10_wordAt_96 (by decide) rfl (n := 98) rfl rfl ?_
        obtain ⟨y7, ey7, h⟩ := lt_e h
        refine v_iinc (L' := [(7, .int y7), (6, .int 1), (0, .ref (xq x 0)), (1, .int x1), (2, .int x2), (3, .int x3), (4, .int x4), (5, .int x5)]) C 7 dX10_wordAt_98 rfl (by rw [ey7]; rfl) (by decide) rfl (n := 101) rfl ?_
        refine v_goto C dX10_wordAt_101 (n := 57) (by decide) ?_
        refine v_sub [2, 3, 4, 5, 6, 7, 1, 0] rfl ?_
        exact hk57 x1 x2 x3 x4 x5 1 y7 S h
theorem tg_X10_wordAt_57 {x : Ctx} (C : Cx x WM cX10_wordAt RX10 8 rm_X10_wordAt (some .int)) {res : Int32 × St} {k5 : Int32 → Int32 → Int32 → Int32 → St → Option (Int32 × St)} (hk5 : ∀ (x1 : Int32) (x2 : Int32) (x3 : Int32) (x4 : Int32) (S : St), k5 x1 x2 x3 x4 S = some res → V x WM 8 (QI x WM res) S 5 [(0, .ref (xq x 0)), (1, .int x1), (2, .int x2), (3, .int x3), (4, .int x4)] []) : ∀ (n : Nat) (x1 : Int32) (x2 : Int32) (x3 : Int32) (x4 : Int32) (x5 : Int32) (x6 : Int32) (x7 : Int32) (S : St), g_X10_wordAt_57 k5 n x1 x2 x3 x4 x5 x6 x7 S = some res → V x WM 8 (QI x WM res) S 57 [(0, .ref (xq x 0)), (1, .int x1), (2, .int x2), (3, .int x3), (4, .int x4), (5, .int x5), (6, .int x6), (7, .int x7)] [] := by
  intro n
  induction n with
  | zero => intro x1 x2 x3 x4 x5 x6 x7 S h; cases h
  | succ n ih => intro x1 x2 x3 x4 x5 x6 x7 S h; exact t_X10_wordAt_57 C hk5 (fun x1 x2 x3 x4 x5 x6 x7 S h => ih x1 x2 x3 x4 x5 x6 x7 S h) x1 x2 x3 x4 x5 x6 x7 S h
set_option maxRecDepth 20000 in
set_option maxHeartbeats 2000000 in
theorem t_X10_wordAt_18 {x : Ctx} (C : Cx x WM cX10_wordAt RX10 8 rm_X10_wordAt (some .int)) {res : Int32 × St} {k5 : Int32 → Int32 → Int32 → Int32 → St → Option (Int32 × St)} (hk5 : ∀ (x1 : Int32) (x2 : Int32) (x3 : Int32) (x4 : Int32) (S : St), k5 x1 x2 x3 x4 S = some res → V x WM 8 (QI x WM res) S 5 [(0, .ref (xq x 0)), (1, .int x1), (2, .int x2), (3, .int x3), (4, .int x4)] []) {k18 : Int32 → Int32 → Int32 → Int32 → Int32 → St → Option (Int32 × St)} (hk18 : ∀ (x1 : Int32) (x2 : Int32) (x3 : Int32) (x4 : Int32) (x5 : Int32) (S : St), k18 x1 x2 x3 x4 x5 S = some res → V x WM 8 (QI x WM res) S 18 [(0, .ref (xq x 0)), (1, .int x1), (2, .int x2), (3, .int x3), (4, .int x4), (5, .int x5)] []) (x1 : Int32) (x2 : Int32) (x3 : Int32) (x4 : Int32) (x5 : Int32) (S : St) (h : f_X10_wordAt_18 k5 k18 x1 x2 x3 x4 x5 S = some res) : V x WM 8 (QI x WM res) S 18 [(0, .ref (xq x 0)), (1, .int x1), (2, .int x2), (3, .int x3), (4, .int x4), (5, .int x5)] [] := by
  unfold f_X10_wordAt_18 at h
  refine v_aload_n C 0 dX10_wordAt_18 rfl rfl (n := 19) rfl ?_
  refine g_X10_words C w_7_20 dX10_wordAt_19 (n := 22) rfl ?_
  refine v_iload C 4 dX10_wordAt_22 rfl (n := 24) rfl ?_
  refine v_iload C 5 dX10_wordAt_24 rfl (n := 26) rfl ?_
  refine v_iadd C dX10_wordAt_26 (n := 27) rfl ?_
  obtain ⟨hi1, h⟩ := ck_e h
  refine v_ald C aM_13 hi1 dX10_wordAt_27 (n := 28) rfl ?_
  refine v_bipush (v := 32) C dX10_wordAt_28 (by decide) (n := 30) rfl ?_
  refine v_icmp_eq C dX10_wordAt_30 (t := 39) (by decide) (n := 33) rfl (fun c2 => ?_) (fun c2 => ?_)
  · have h := ite_p c2 h
    refine v_iload C 5 dX10_wordAt_39 rfl (n := 41) rfl ?_
    refine v_iload_n C 2 dX10_wordAt_41 rfl rfl (n := 42) rfl ?_
    refine v_iload_n C 1 dX10_wordAt_42 rfl rfl (n := 43) rfl ?_
    refine v_isub C dX10_wordAt_43 (n := 44) rfl ?_
    refine v_icmp_ne C dX10_wordAt_44 (t := 51) (by decide) (n := 47) rfl (fun c3 => ?_) (fun c3 => ?_)
    · have h := ite_n c3 h
      refine v_iconst (v := 0) C dX10_wordAt_51 (by decide) (n := 52) rfl ?_
      refine v_istore (L' := [(6, .int 0), (0, .ref (xq x 0)), (1, .int x1), (2, .int x2), (3, .int x3), (4, .int x4), (5, .int x5)]) C dX10_wordAt_52 (by decide) rfl (n := 54) rfl rfl ?_
      refine v_iconst (v := 0) C dX10_wordAt_54 (by decide) (n := 55) rfl ?_
      refine v_istore (L' := [(7, .int 0), (6, .int 0), (0, .ref (xq x 0)), (1, .int x1), (2, .int x2), (3, .int x3), (4, .int x4), (5, .int x5)]) C dX10_wordAt_55 (by decide) rfl (n := 57) rfl rfl ?_
      refine v_sub [2, 3, 4, 5, 6, 7, 1, 0] rfl ?_
      exact tg_X10_wordAt_57 C hk5 fuel x1 x2 x3 x4 x5 0 0 S h
    · have h := ite_p c3 h
      refine v_iconst (v := 1) C dX10_wordAt_47 (by decide) (n := 48) rfl ?_
      refine v_goto C dX10_wordAt_48 (n := 52) (by decide) ?_
      refine v_istore (L' := [(6, .int 1), (0, .ref (xq x 0)), (1, .int x1), (2, .int x2), (3, .int x3), (4, .int x4), (5, .int x5)]) C dX10_wordAt_52 (by decide) rfl (n := 54) rfl rfl ?_
      refine v_iconst (v := 0) C dX10_wordAt_54 (by decide) (n := 55) rfl ?_
      refine v_istore (L' := [(7, .int 0), (6, .int 1), (0, .ref (xq x 0)), (1, .int x1), (2, .int x2), (3, .int x3), (4, .int x4), (5, .int x5)]) C dX10_wordAt_55 (by decide) rfl (n := 57) rfl rfl ?_
      refine v_sub [2, 3, 4, 5, 6, 7, 1, 0] rfl ?_
      exact tg_X10_wordAt_57 C hk5 fuel x1 x2 x3 x4 x5 1 0 S h
  · have h := ite_n c2 h
    obtain ⟨y4, ey4, h⟩ := lt_e h
    refine v_iinc (L' := [(5, .int y4), (0, .ref (xq x 0)), (1, .int x1), (2, .int x2), (3, .int x3), (4, .int x4)]) C 5 dX10_wordAt_33 rfl (by rw [ey4]; rfl) (by decide) rfl (n := 36) rfl ?_
    refine v_goto C dX10_wordAt_36 (n := 18) (by decide) ?_
    refine v_sub [1, 2, 3, 4, 5, 0] rfl ?_
    exact hk18 x1 x2 x3 x4 y4 S h
theorem tg_X10_wordAt_18 {x : Ctx} (C : Cx x WM cX10_wordAt RX10 8 rm_X10_wordAt (some .int)) {res : Int32 × St} {k5 : Int32 → Int32 → Int32 → Int32 → St → Option (Int32 × St)} (hk5 : ∀ (x1 : Int32) (x2 : Int32) (x3 : Int32) (x4 : Int32) (S : St), k5 x1 x2 x3 x4 S = some res → V x WM 8 (QI x WM res) S 5 [(0, .ref (xq x 0)), (1, .int x1), (2, .int x2), (3, .int x3), (4, .int x4)] []) : ∀ (n : Nat) (x1 : Int32) (x2 : Int32) (x3 : Int32) (x4 : Int32) (x5 : Int32) (S : St), g_X10_wordAt_18 k5 n x1 x2 x3 x4 x5 S = some res → V x WM 8 (QI x WM res) S 18 [(0, .ref (xq x 0)), (1, .int x1), (2, .int x2), (3, .int x3), (4, .int x4), (5, .int x5)] [] := by
  intro n
  induction n with
  | zero => intro x1 x2 x3 x4 x5 S h; cases h
  | succ n ih => intro x1 x2 x3 x4 x5 S h; exact t_X10_wordAt_18 C hk5 (fun x1 x2 x3 x4 x5 S h => ih x1 x2 x3 x4 x5 S h) x1 x2 x3 x4 x5 S h
set_option maxRecDepth 20000 in
set_option maxHeartbeats 2000000 in
theorem t_X10_wordAt_5 {x : Ctx} (C : Cx x WM cX10_wordAt RX10 8 rm_X10_wordAt (some .int)) {res : Int32 × St} {k5 : Int32 → Int32 → Int32 → Int32 → St → Option (Int32 × St)} (hk5 : ∀ (x1 : Int32) (x2 : Int32) (x3 : Int32) (x4 : Int32) (S : St), k5 x1 x2 x3 x4 S = some res → V x WM 8 (QI x WM res) S 5 [(0, .ref (xq x 0)), (1, .int x1), (2, .int x2), (3, .int x3), (4, .int x4)] []) (x1 : Int32) (x2 : Int32) (x3 : Int32) (x4 : Int32) (S : St) (h : f_X10_wordAt_5 k5 x1 x2 x3 x4 S = some res) : V x WM 8 (QI x WM res) S 5 [(0, .ref (xq x 0)), (1, .int x1), (2, .int x2), (3, .int x3), (4, .int x4)] [] := by
  unfold f_X10_wordAt_5 at h
  refine v_iload C 4 dX10_wordAt_5 rfl (n := 7) rfl ?_
  refine v_aload_n C 0 dX10_wordAt_7 rfl rfl (n := 8) rfl ?_
  refine g_X10_words C w_7_20 dX10_wordAt_8 (n := 11) rfl ?_
  refine v_len (v := 15) C aM_13 (by decide) dX10_wordAt_11 (n := 12) rfl ?_
  refine v_icmp_ge C dX10_wordAt_12 (t := 126) (by decide) (n := 15) rfl (fun c1 => ?_) (fun c1 => ?_)
  · have h := ite_p c1 h
    refine v_iconst (v := (-1)) C dX10_wordAt_126 (by decide) (n := 127) rfl ?_
    obtain rfl := Option.some.inj h
    exact v_iret C dX10_wordAt_127
  · have h := ite_n c1 h
    refine v_iconst (v := 0) C dX10_wordAt_15 (by decide) (n := 16) rfl ?_
    refine v_istore (L' := [(5, .int 0), (0, .ref (xq x 0)), (1, .int x1), (2, .int x2), (3, .int x3), (4, .int x4)]) C dX10_wordAt_16 (by decide) rfl (n := 18) rfl rfl ?_
    refine v_sub [1, 2, 3, 4, 5, 0] rfl ?_
    exact tg_X10_wordAt_18 C hk5 fuel x1 x2 x3 x4 0 S h
theorem tg_X10_wordAt_5 {x : Ctx} (C : Cx x WM cX10_wordAt RX10 8 rm_X10_wordAt (some .int)) {res : Int32 × St}  : ∀ (n : Nat) (x1 : Int32) (x2 : Int32) (x3 : Int32) (x4 : Int32) (S : St), g_X10_wordAt_5  n x1 x2 x3 x4 S = some res → V x WM 8 (QI x WM res) S 5 [(0, .ref (xq x 0)), (1, .int x1), (2, .int x2), (3, .int x3), (4, .int x4)] [] := by
  intro n
  induction n with
  | zero => intro x1 x2 x3 x4 S h; cases h
  | succ n ih => intro x1 x2 x3 x4 S h; exact t_X10_wordAt_5 C (fun x1 x2 x3 x4 S h => ih x1 x2 x3 x4 S h) x1 x2 x3 x4 S h
set_option maxRecDepth 20000 in
set_option maxHeartbeats 2000000 in
theorem t_X10_wordAt_0 {x : Ctx} (C : Cx x WM cX10_wordAt RX10 8 rm_X10_wordAt (some .int)) {res : Int32 × St}  (x1 : Int32) (x2 : Int32) (S : St) (h : f_X10_wordAt_0  x1 x2 S = some res) : V x WM 8 (QI x WM res) S 0 [(0, .ref (xq x 0)), (1, .int x1), (2, .int x2)] [] := by
  unfold f_X10_wordAt_0 at h
  refine v_iconst (v := 0) C dX10_wordAt_0 (by decide) (n := 1) rfl ?_
  refine v_istore_n (L' := [(3, .int 0), (0, .ref (xq x 0)), (1, .int x1), (2, .int x2)]) C dX10_wordAt_1 rfl (by decide) rfl (n := 2) rfl rfl ?_
  refine v_iconst (v := 0) C dX10_wordAt_2 (by decide) (n := 3) rfl ?_
  refine v_istore (L' := [(4, .int 0), (3, .int 0), (0, .ref (xq x 0)), (1, .int x1), (2, .int x2)]) C dX10_wordAt_3 (by decide) rfl (n := 5) rfl rfl ?_
  refine v_sub [2, 3, 4, 1, 0] rfl ?_
  exact tg_X10_wordAt_5 C  fuel x1 x2 0 0 S h
theorem c_X10_wordAt {l : Launch} {D : va_G} {q : Nat → Nat} {ar : Ar} (a1 : Int32) (a2 : Int32) (S : St) {res : Int32 × St} (h : m_X10_wordAt a1 a2 S = some res) : MetI l D q ar WM yX10_wordAt cX10_wordAt 8 (some .int) rm_X10_wordAt [.ref (q 0), .int a1, .int a2] S res := by
  refine metI_of adrM (by decide +kernel) (Nat.le_of_ble_eq_true rfl) (fun x e1 e2 e3 e4 C => ?_)
  subst e1; subst e2; subst e3; subst e4
  exact v_sub [0, 1, 2] rfl (t_X10_wordAt_0 C a1 a2 S h)
theorem mf_X10_wordAt : CalV yX10_wordAt cX10_wordAt 8 (some .int) RX10 2 := ⟨w_13_12, w_13_10, w_13_11, w_1_5, rfl, by decide +kernel, by decide +kernel, by decide +kernel⟩
/-! LabyrinthGardenModel.isSmall -/
def f_X10_isSmall_0  (x1 : Int32) (S : St) : Option (Int32 × St) :=
  if (rd S 0 23) ≤ x1 then (
    some (0, S))
  else (
    ck x1 300 <|
    if (rd S 1 x1.toNatClampNeg) < 97 then (
      some (0, S))
    else (
      if 122 < (rd S 1 x1.toNatClampNeg) then (
        some (0, S))
      else (
        some (1, S))))
def m_X10_isSmall (a1 : Int32) (S : St) : Option (Int32 × St) := f_X10_isSmall_0 a1 S
def rm_X10_isSmall : Room := { frames := 0, cells := 0, slots := 0, locals := 0 }
set_option maxRecDepth 20000 in
set_option maxHeartbeats 2000000 in
theorem t_X10_isSmall_0 {x : Ctx} (C : Cx x WM cX10_isSmall RX10 2 rm_X10_isSmall (some .boolean)) {res : Int32 × St}  (x1 : Int32) (S : St) (h : f_X10_isSmall_0  x1 S = some res) : V x WM 2 (QI x WM res) S 0 [(0, .ref (xq x 0)), (1, .int x1)] [] := by
  unfold f_X10_isSmall_0 at h
  refine v_iload_n C 1 dX10_isSmall_0 rfl rfl (n := 1) rfl ?_
  refine v_aload_n C 0 dX10_isSmall_1 rfl rfl (n := 2) rfl ?_
  refine g_X10_stop C w_12_14 dX10_isSmall_2 (n := 5) rfl ?_
  refine v_icmp_ge C dX10_isSmall_5 (t := 34) (by decide) (n := 8) rfl (fun c1 => ?_) (fun c1 => ?_)
  · have h := ite_p c1 h
    refine v_iconst (v := 0) C dX10_isSmall_34 (by decide) (n := 35) rfl ?_
    obtain rfl := Option.some.inj h
    exact v_zret C (Or.inl rfl) dX10_isSmall_35
  · have h := ite_n c1 h
    refine v_aload_n C 0 dX10_isSmall_8 rfl rfl (n := 9) rfl ?_
    refine g_X10_tape C w_7_5 dX10_isSmall_9 (n := 12) rfl ?_
    refine v_iload_n C 1 dX10_isSmall_12 rfl rfl (n := 13) rfl ?_
    obtain ⟨hi2, h⟩ := ck_e h
    refine v_ald C aM_1 hi2 dX10_isSmall_13 (n := 14) rfl ?_
    refine v_bipush (v := 97) C dX10_isSmall_14 (by decide) (n := 16) rfl ?_
    refine v_icmp_lt C dX10_isSmall_16 (t := 34) (by decide) (n := 19) rfl (fun c3 => ?_) (fun c3 => ?_)
    · have h := ite_p c3 h
      refine v_iconst (v := 0) C dX10_isSmall_34 (by decide) (n := 35) rfl ?_
      obtain rfl := Option.some.inj h
      exact v_zret C (Or.inl rfl) dX10_isSmall_35
    · have h := ite_n c3 h
      refine v_aload_n C 0 dX10_isSmall_19 rfl rfl (n := 20) rfl ?_
      refine g_X10_tape C w_7_5 dX10_isSmall_20 (n := 23) rfl ?_
      refine v_iload_n C 1 dX10_isSmall_23 rfl rfl (n := 24) rfl ?_
      refine v_ald C aM_1 hi2 dX10_isSmall_24 (n := 25) rfl ?_
      refine v_bipush (v := 122) C dX10_isSmall_25 (by decide) (n := 27) rfl ?_
      refine v_icmp_gt C dX10_isSmall_27 (t := 34) (by decide) (n := 30) rfl (fun c4 => ?_) (fun c4 => ?_)
      · have h := ite_p c4 h
        refine v_iconst (v := 0) C dX10_isSmall_34 (by decide) (n := 35) rfl ?_
        obtain rfl := Option.some.inj h
        exact v_zret C (Or.inl rfl) dX10_isSmall_35
      · have h := ite_n c4 h
        refine v_iconst (v := 1) C dX10_isSmall_30 (by decide) (n := 31) rfl ?_
        refine v_goto C dX10_isSmall_31 (n := 35) (by decide) ?_
        obtain rfl := Option.some.inj h
        exact v_zret C (Or.inr rfl) dX10_isSmall_35
theorem c_X10_isSmall {l : Launch} {D : va_G} {q : Nat → Nat} {ar : Ar} (a1 : Int32) (S : St) {res : Int32 × St} (h : m_X10_isSmall a1 S = some res) : MetI l D q ar WM yX10_isSmall cX10_isSmall 2 (some .boolean) rm_X10_isSmall [.ref (q 0), .int a1] S res := by
  refine metI_of adrM (by decide +kernel) (Nat.le_of_ble_eq_true rfl) (fun x e1 e2 e3 e4 C => ?_)
  subst e1; subst e2; subst e3; subst e4
  exact v_sub [0, 1] rfl (t_X10_isSmall_0 C a1 S h)
theorem mf_X10_isSmall : CalV yX10_isSmall cX10_isSmall 2 (some .boolean) RX10 1 := ⟨w_13_8, w_13_6, w_13_7, w_1_5, rfl, by decide +kernel, by decide +kernel, by decide +kernel⟩
/-! LabyrinthGardenModel.isDigit -/
def f_X10_isDigit_0  (x1 : Int32) (S : St) : Option (Int32 × St) :=
  if (rd S 0 23) ≤ x1 then (
    some (0, S))
  else (
    ck x1 300 <|
    if (rd S 1 x1.toNatClampNeg) < 48 then (
      some (0, S))
    else (
      if 57 < (rd S 1 x1.toNatClampNeg) then (
        some (0, S))
      else (
        some (1, S))))
def m_X10_isDigit (a1 : Int32) (S : St) : Option (Int32 × St) := f_X10_isDigit_0 a1 S
def rm_X10_isDigit : Room := { frames := 0, cells := 0, slots := 0, locals := 0 }
set_option maxRecDepth 20000 in
set_option maxHeartbeats 2000000 in
theorem t_X10_isDigit_0 {x : Ctx} (C : Cx x WM cX10_isDigit RX10 2 rm_X10_isDigit (some .boolean)) {res : Int32 × St}  (x1 : Int32) (S : St) (h : f_X10_isDigit_0  x1 S = some res) : V x WM 2 (QI x WM res) S 0 [(0, .ref (xq x 0)), (1, .int x1)] [] := by
  unfold f_X10_isDigit_0 at h
  refine v_iload_n C 1 dX10_isDigit_0 rfl rfl (n := 1) rfl ?_
  refine v_aload_n C 0 dX10_isDigit_1 rfl rfl (n := 2) rfl ?_
  refine g_X10_stop C w_12_14 dX10_isDigit_2 (n := 5) rfl ?_
  refine v_icmp_ge C dX10_isDigit_5 (t := 34) (by decide) (n := 8) rfl (fun c1 => ?_) (fun c1 => ?_)
  · have h := ite_p c1 h
    refine v_iconst (v := 0) C dX10_isDigit_34 (by decide) (n := 35) rfl ?_
    obtain rfl := Option.some.inj h
    exact v_zret C (Or.inl rfl) dX10_isDigit_35
  · have h := ite_n c1 h
    refine v_aload_n C 0 dX10_isDigit_8 rfl rfl (n := 9) rfl ?_
    refine g_X10_tape C w_7_5 dX10_isDigit_9 (n := 12) rfl ?_
    refine v_iload_n C 1 dX10_isDigit_12 rfl rfl (n := 13) rfl ?_
    obtain ⟨hi2, h⟩ := ck_e h
    refine v_ald C aM_1 hi2 dX10_isDigit_13 (n := 14) rfl ?_
    refine v_bipush (v := 48) C dX10_isDigit_14 (by decide) (n := 16) rfl ?_
    refine v_icmp_lt C dX10_isDigit_16 (t := 34) (by decide) (n := 19) rfl (fun c3 => ?_) (fun c3 => ?_)
    · have h := ite_p c3 h
      refine v_iconst (v := 0) C dX10_isDigit_34 (by decide) (n := 35) rfl ?_
      obtain rfl := Option.some.inj h
      exact v_zret C (Or.inl rfl) dX10_isDigit_35
    · have h := ite_n c3 h
      refine v_aload_n C 0 dX10_isDigit_19 rfl rfl (n := 20) rfl ?_
      refine g_X10_tape C w_7_5 dX10_isDigit_20 (n := 23) rfl ?_
      refine v_iload_n C 1 dX10_isDigit_23 rfl rfl (n := 24) rfl ?_
      refine v_ald C aM_1 hi2 dX10_isDigit_24 (n := 25) rfl ?_
      refine v_bipush (v := 57) C dX10_isDigit_25 (by decide) (n := 27) rfl ?_
      refine v_icmp_gt C dX10_isDigit_27 (t := 34) (by decide) (n := 30) rfl (fun c4 => ?_) (fun c4 => ?_)
      · have h := ite_p c4 h
        refine v_iconst (v := 0) C dX10_isDigit_34 (by decide) (n := 35) rfl ?_
        obtain rfl := Option.some.inj h
        exact v_zret C (Or.inl rfl) dX10_isDigit_35
      · have h := ite_n c4 h
        refine v_iconst (v := 1) C dX10_isDigit_30 (by decide) (n := 31) rfl ?_
        refine v_goto C dX10_isDigit_31 (n := 35) (by decide) ?_
        obtain rfl := Option.some.inj h
        exact v_zret C (Or.inr rfl) dX10_isDigit_35
theorem c_X10_isDigit {l : Launch} {D : va_G} {q : Nat → Nat} {ar : Ar} (a1 : Int32) (S : St) {res : Int32 × St} (h : m_X10_isDigit a1 S = some res) : MetI l D q ar WM yX10_isDigit cX10_isDigit 2 (some .boolean) rm_X10_isDigit [.ref (q 0), .int a1] S res := by
  refine metI_of adrM (by decide +kernel) (Nat.le_of_ble_eq_true rfl) (fun x e1 e2 e3 e4 C => ?_)
  subst e1; subst e2; subst e3; subst e4
  exact v_sub [0, 1] rfl (t_X10_isDigit_0 C a1 S h)
theorem mf_X10_isDigit : CalV yX10_isDigit cX10_isDigit 2 (some .boolean) RX10 1 := ⟨w_13_16, w_13_14, w_13_15, w_1_5, rfl, by decide +kernel, by decide +kernel, by decide +kernel⟩
/-! LabyrinthGardenModel.take -/
def f_X10_take_90 (k90 : St → Option (St))  (S : St) : Option (St) :=
  bI (m_X10_isSmall (rd S 0 24) S) fun r2 S1 =>
  if r2 = 0 then (
    if ((rd S1 0 24) - (rd S1 0 27)) = 1 then (
      ck (rd S1 0 27) 300 <|
      lt (up S1 0 26 ((rd S1 1 (rd S1 0 27).toNatClampNeg) - 97)) fun S12 =>
      if 4 ≤ (rd S12 0 26) then (
        lt (up S12 0 25 5) fun S14 =>
        some S14)
      else (
        lt (up S12 0 25 1) fun S15 =>
        some S15))
    else (
      bI (m_X10_wordAt (rd S1 0 27) (rd S1 0 24) S1) fun r6 S5 =>
      lt (up S5 0 26 r6) fun S7 =>
      if 0 ≤ (rd S7 0 26) then (
        lt (up S7 0 25 2) fun S9 =>
        some S9)
      else (
        lt (up S7 0 25 5) fun S10 =>
        some S10)))
  else (
    lt (up S1 0 24 ((rd S1 0 24) + 1)) fun S16 =>
    k90  S16)
def g_X10_take_90  : Nat → St → Option (St)
  | 0 => fun _ => none
  | n + 1 => f_X10_take_90 (g_X10_take_90  n)
def f_X10_take_268 (k219 : St → Option (St)) (s0 : Int32) (S : St) : Option (St) :=
  lt (up S 0 26 s0) fun S1 =>
  lt (up S1 0 24 ((rd S1 0 24) + 1)) fun S2 =>
  k219  S2
def f_X10_take_219 (k219 : St → Option (St))  (S : St) : Option (St) :=
  bI (m_X10_isDigit (rd S 0 24) S) fun r2 S1 =>
  if r2 = 0 then (
    some S1)
  else (
    if (rd S1 0 26) ≤ 999 then (
      ck (rd S1 0 24) 300 <|
      f_X10_take_268 k219 (((10 * (rd S1 0 26)) + (rd S1 1 (rd S1 0 24).toNatClampNeg)) - 48) S1)
    else (
      f_X10_take_268 k219 (rd S1 0 26) S1))
def g_X10_take_219  : Nat → St → Option (St)
  | 0 => fun _ => none
  | n + 1 => f_X10_take_219 (g_X10_take_219  n)
def f_X10_take_330  (s0 : Int32) (S : St) : Option (St) :=
  lt (up S 0 25 s0) fun S1 =>
  lt (up S1 0 24 ((rd S1 0 24) + 1)) fun S2 =>
  some S2
def f_X10_take_325   (S : St) : Option (St) :=
  f_X10_take_330  4 S
def f_X10_take_52   (S : St) : Option (St) :=
  lt (up S 0 27 (rd S 0 24)) fun S1 =>
  if (rd S1 0 24) = (rd S1 0 23) then (
    lt (up S1 0 25 0) fun S16 =>
    some S16)
  else (
    bI (m_X10_isSmall (rd S1 0 24) S1) fun r4 S3 =>
    if r4 = 0 then (
      bI (m_X10_isDigit (rd S3 0 24) S3) fun r7 S6 =>
      if r7 = 0 then (
        ck (rd S6 0 24) 300 <|
        lt (up S6 0 26 (rd S6 1 (rd S6 0 24).toNatClampNeg)) fun S10 =>
        if (rd S10 0 26) = 58 then (
          f_X10_take_325   S10)
        else (
          if (rd S10 0 26) = 124 then (
            f_X10_take_325   S10)
          else (
            if (rd S10 0 26) = 59 then (
              f_X10_take_325   S10)
            else (
              f_X10_take_330  5 S10))))
      else (
        lt (up S6 0 25 3) fun S14 =>
        lt (up S14 0 26 0) fun S15 =>
        g_X10_take_219  fuel  S15))
    else (
      g_X10_take_90  fuel  S3))
def f_X10_take_0 (k0 : St → Option (St))  (S : St) : Option (St) :=
  if (rd S 0 23) ≤ (rd S 0 24) then (
    f_X10_take_52   S)
  else (
    ck (rd S 0 24) 300 <|
    if (rd S 1 (rd S 0 24).toNatClampNeg) = 10 then (
      lt (up S 0 24 ((rd S 0 24) + 1)) fun S4 =>
      k0  S4)
    else (
      if (rd S 1 (rd S 0 24).toNatClampNeg) = 32 then (
        lt (up S 0 24 ((rd S 0 24) + 1)) fun S6 =>
        k0  S6)
      else (
        f_X10_take_52   S)))
def g_X10_take_0  : Nat → St → Option (St)
  | 0 => fun _ => none
  | n + 1 => f_X10_take_0 (g_X10_take_0  n)
def m_X10_take  (S : St) : Option (St) := g_X10_take_0 fuel  S
def rm_X10_take : Room := { frames := 1, cells := 0, slots := 0, locals := 27 }
set_option maxRecDepth 20000 in
set_option maxHeartbeats 2000000 in
theorem t_X10_take_90 {x : Ctx} (C : Cx x WM cX10_take RX10 1 rm_X10_take none) {res : St} {k90 : St → Option (St)} (hk90 : ∀  (S : St), k90  S = some res → V x WM 1 (QV x WM res) S 90 [(0, .ref (xq x 0))] [])  (S : St) (h : f_X10_take_90 k90  S = some res) : V x WM 1 (QV x WM res) S 90 [(0, .ref (xq x 0))] [] := by
  unfold f_X10_take_90 at h
  refine v_aload_n C 0 dX10_take_90 rfl rfl (n := 91) rfl ?_
  refine v_aload_n C 0 dX10_take_91 rfl rfl (n := 92) rfl ?_
  refine g_X10_next C w_12_18 dX10_take_92 (n := 95) rfl ?_
  obtain ⟨r2, S1, eS1, h⟩ := bI_e h
  refine v_callVI (As := [.int (rd S 0 24)]) C (c_X10_isSmall (rd S 0 24) S eS1) mf_X10_isSmall w_13_5 (oX10 _ _ _) rfl ⟨rfl, rfl, by decide, by decide⟩ rfl rfl (Nat.le_of_ble_eq_true rfl) dX10_take_95 (n := 98) rfl ?_
  refine v_if_eq C dX10_take_98 (t := 114) (by decide) (n := 101) rfl (fun c3 => ?_) (fun c3 => ?_)
  · have h := ite_p c3 h
    refine v_aload_n C 0 dX10_take_114 rfl rfl (n := 115) rfl ?_
    refine g_X10_next C w_12_18 dX10_take_115 (n := 118) rfl ?_
    refine v_aload_n C 0 dX10_take_118 rfl rfl (n := 119) rfl ?_
    refine g_X10_token C w_13_3 dX10_take_119 (n := 122) rfl ?_
    refine v_isub C dX10_take_122 (n := 123) rfl ?_
    refine v_iconst (v := 1) C dX10_take_123 (by decide) (n := 124) rfl ?_
    refine v_icmp_ne C dX10_take_124 (t := 163) (by decide) (n := 127) rfl (fun c4 => ?_) (fun c4 => ?_)
    · have h := ite_n c4 h
      refine v_aload_n C 0 dX10_take_163 rfl rfl (n := 164) rfl ?_
      refine v_aload_n C 0 dX10_take_164 rfl rfl (n := 165) rfl ?_
      refine v_aload_n C 0 dX10_take_165 rfl rfl (n := 166) rfl ?_
      refine g_X10_token C w_13_3 dX10_take_166 (n := 169) rfl ?_
      refine v_aload_n C 0 dX10_take_169 rfl rfl (n := 170) rfl ?_
      refine g_X10_next C w_12_18 dX10_take_170 (n := 173) rfl ?_
      obtain ⟨r6, S5, eS5, h⟩ := bI_e h
      refine v_callVI (As := [.int (rd S1 0 27), .int (rd S1 0 24)]) C (c_X10_wordAt (rd S1 0 27) (rd S1 0 24) S1 eS5) mf_X10_wordAt w_13_9 (oX10 _ _ _) rfl ⟨rfl, rfl, by decide, by decide⟩ rfl rfl (Nat.le_of_ble_eq_true rfl) dX10_take_173 (n := 176) rfl ?_
      obtain ⟨S7, eS7, h⟩ := lt_e h
      refine p_X10_which C w_13_4 dX10_take_176 (n := 179) rfl eS7 ?_
      refine v_aload_n C 0 dX10_take_179 rfl rfl (n := 180) rfl ?_
      refine v_aload_n C 0 dX10_take_180 rfl rfl (n := 181) rfl ?_
      refine g_X10_which C w_13_4 dX10_take_181 (n := 184) rfl ?_
      refine v_if_ge C dX10_take_184 (t := 191) (by decide) (n := 187) rfl (fun c8 => ?_) (fun c8 => ?_)
      · have h := ite_p c8 h
        refine v_iconst (v := 2) C dX10_take_191 (by decide) (n := 192) rfl ?_
        obtain ⟨S9, eS9, h⟩ := lt_e h
        refine p_X10_kind C w_12_19 dX10_take_192 (n := 195) rfl eS9 ?_
        refine v_goto C dX10_take_195 (n := 343) (by decide) ?_
        obtain rfl := Option.some.inj h
        exact v_ret C dX10_take_343
      · have h := ite_n c8 h
        refine v_iconst (v := 5) C dX10_take_187 (by decide) (n := 188) rfl ?_
        refine v_goto C dX10_take_188 (n := 192) (by decide) ?_
        obtain ⟨S10, eS10, h⟩ := lt_e h
        refine p_X10_kind C w_12_19 dX10_take_192 (n := 195) rfl eS10 ?_
        refine v_goto C dX10_take_195 (n := 343) (by decide) ?_
        obtain rfl := Option.some.inj h
        exact v_ret C dX10_take_343
    · have h := ite_p c4 h
      refine v_aload_n C 0 dX10_take_127 rfl rfl (n := 128) rfl ?_
      refine v_aload_n C 0 dX10_take_128 rfl rfl (n := 129) rfl ?_
      refine g_X10_tape C w_7_5 dX10_take_129 (n := 132) rfl ?_
      refine v_aload_n C 0 dX10_take_132 rfl rfl (n := 133) rfl ?_
      refine g_X10_token C w_13_3 dX10_take_133 (n := 136) rfl ?_
      obtain ⟨hi11, h⟩ := ck_e h
      refine v_ald C aM_1 hi11 dX10_take_136 (n := 137) rfl ?_
      refine v_bipush (v := 97) C dX10_take_137 (by decide) (n := 139) rfl ?_
      refine v_isub C dX10_take_139 (n := 140) rfl ?_
      obtain ⟨S12, eS12, h⟩ := lt_e h
      refine p_X10_which C w_13_4 dX10_take_140 (n := 143) rfl eS12 ?_
      refine v_aload_n C 0 dX10_take_143 rfl rfl (n := 144) rfl ?_
      refine v_aload_n C 0 dX10_take_144 rfl rfl (n := 145) rfl ?_
      refine g_X10_which C w_13_4 dX10_take_145 (n := 148) rfl ?_
      refine v_iconst (v := 4) C dX10_take_148 (by decide) (n := 149) rfl ?_
      refine v_icmp_ge C dX10_take_149 (t := 156) (by decide) (n := 152) rfl (fun c13 => ?_) (fun c13 => ?_)
      · have h := ite_p c13 h
        refine v_iconst (v := 5) C dX10_take_156 (by decide) (n := 157) rfl ?_
        obtain ⟨S14, eS14, h⟩ := lt_e h
        refine p_X10_kind C w_12_19 dX10_take_157 (n := 160) rfl eS14 ?_
        refine v_goto C dX10_take_160 (n := 343) (by decide) ?_
        obtain rfl := Option.some.inj h
        exact v_ret C dX10_take_343
      · have h := ite_n c13 h
        refine v_iconst (v := 1) C dX10_take_152 (by decide) (n := 153) rfl ?_
        refine v_goto C dX10_take_153 (n := 157) (by decide) ?_
        obtain ⟨S15, eS15, h⟩ := lt_e h
        refine p_X10_kind C w_12_19 dX10_take_157 (n := 160) rfl eS15 ?_
        refine v_goto C dX10_take_160 (n := 343) (by decide) ?_
        obtain rfl := Option.some.inj h
        exact v_ret C dX10_take_343
  · have h := ite_n c3 h
    refine v_aload_n C 0 dX10_take_101 rfl rfl (n := 102) rfl ?_
    refine v_dup C dX10_take_102 rfl (n := 103) rfl ?_
    refine g_X10_next C w_12_18 dX10_take_103 (n := 106) rfl ?_
    refine v_iconst (v := 1) C dX10_take_106 (by decide) (n := 107) rfl ?_
    refine v_iadd C dX10_take_107 (n := 108) rfl ?_
    obtain ⟨S16, eS16, h⟩ := lt_e h
    refine p_X10_next C w_12_18 dX10_take_108 (n := 111) rfl eS16 ?_
    refine v_goto C dX10_take_111 (n := 90) (by decide) ?_
    refine v_sub [0] rfl ?_
    exact hk90  S16 h
theorem tg_X10_take_90 {x : Ctx} (C : Cx x WM cX10_take RX10 1 rm_X10_take none) {res : St}  : ∀ (n : Nat)  (S : St), g_X10_take_90  n  S = some res → V x WM 1 (QV x WM res) S 90 [(0, .ref (xq x 0))] [] := by
  intro n
  induction n with
  | zero => intro  S h; cases h
  | succ n ih => intro  S h; exact t_X10_take_90 C (fun  S h => ih  S h)  S h
set_option maxRecDepth 20000 in
set_option maxHeartbeats 2000000 in
theorem t_X10_take_268 {x : Ctx} (C : Cx x WM cX10_take RX10 1 rm_X10_take none) {res : St} {k219 : St → Option (St)} (hk219 : ∀  (S : St), k219  S = some res → V x WM 1 (QV x WM res) S 219 [(0, .ref (xq x 0))] []) (s0 : Int32) (S : St) (h : f_X10_take_268 k219 s0 S = some res) : V x WM 1 (QV x WM res) S 268 [(0, .ref (xq x 0))] [.int s0, .ref (xq x 0)] := by
  unfold f_X10_take_268 at h
  obtain ⟨S1, eS1, h⟩ := lt_e h
  refine p_X10_which C w_13_4 dX10_take_268 (n := 271) rfl eS1 ?_
  refine v_aload_n C 0 dX10_take_271 rfl rfl (n := 272) rfl ?_
  refine v_dup C dX10_take_272 rfl (n := 273) rfl ?_
  refine g_X10_next C w_12_18 dX10_take_273 (n := 276) rfl ?_
  refine v_iconst (v := 1) C dX10_take_276 (by decide) (n := 277) rfl ?_
  refine v_iadd C dX10_take_277 (n := 278) rfl ?_
  obtain ⟨S2, eS2, h⟩ := lt_e h
  refine p_X10_next C w_12_18 dX10_take_278 (n := 281) rfl eS2 ?_
  refine v_goto C dX10_take_281 (n := 219) (by decide) ?_
  refine v_sub [0] rfl ?_
  exact hk219  S2 h
set_option maxRecDepth 20000 in
set_option maxHeartbeats 2000000 in
theorem t_X10_take_219 {x : Ctx} (C : Cx x WM cX10_take RX10 1 rm_X10_take none) {res : St} {k219 : St → Option (St)} (hk219 : ∀  (S : St), k219  S = some res → V x WM 1 (QV x WM res) S 219 [(0, .ref (xq x 0))] [])  (S : St) (h : f_X10_take_219 k219  S = some res) : V x WM 1 (QV x WM res) S 219 [(0, .ref (xq x 0))] [] := by
  unfold f_X10_take_219 at h
  refine v_aload_n C 0 dX10_take_219 rfl rfl (n := 220) rfl ?_
  refine v_aload_n C 0 dX10_take_220 rfl rfl (n := 221) rfl ?_
  refine g_X10_next C w_12_18 dX10_take_221 (n := 224) rfl ?_
  obtain ⟨r2, S1, eS1, h⟩ := bI_e h
  refine v_callVI (As := [.int (rd S 0 24)]) C (c_X10_isDigit (rd S 0 24) S eS1) mf_X10_isDigit w_13_13 (oX10 _ _ _) rfl ⟨rfl, rfl, by decide, by decide⟩ rfl rfl (Nat.le_of_ble_eq_true rfl) dX10_take_224 (n := 227) rfl ?_
  refine v_if_eq C dX10_take_227 (t := 343) (by decide) (n := 230) rfl (fun c3 => ?_) (fun c3 => ?_)
  · have h := ite_p c3 h
    obtain rfl := Option.some.inj h
    exact v_ret C dX10_take_343
  · have h := ite_n c3 h
    refine v_aload_n C 0 dX10_take_230 rfl rfl (n := 231) rfl ?_
    refine v_aload_n C 0 dX10_take_231 rfl rfl (n := 232) rfl ?_
    refine g_X10_which C w_13_4 dX10_take_232 (n := 235) rfl ?_
    refine v_sipush (v := 999) C dX10_take_235 (by decide) (n := 238) rfl ?_
    refine v_icmp_le C dX10_take_238 (t := 248) (by decide) (n := 241) rfl (fun c4 => ?_) (fun c4 => ?_)
    · have h := ite_p c4 h
      refine v_bipush (v := 10) C dX10_take_248 (by decide) (n := 250) rfl ?_
      refine v_aload_n C 0 dX10_take_250 rfl rfl (n := 251) rfl ?_
      refine g_X10_which C w_13_4 dX10_take_251 (n := 254) rfl ?_
      refine v_imul C dX10_take_254 (n := 255) rfl ?_
      refine v_aload_n C 0 dX10_take_255 rfl rfl (n := 256) rfl ?_
      refine g_X10_tape C w_7_5 dX10_take_256 (n := 259) rfl ?_
      refine v_aload_n C 0 dX10_take_259 rfl rfl (n := 260) rfl ?_
      refine g_X10_next C w_12_18 dX10_take_260 (n := 263) rfl ?_
      obtain ⟨hi5, h⟩ := ck_e h
      refine v_ald C aM_1 hi5 dX10_take_263 (n := 264) rfl ?_
      refine v_iadd C dX10_take_264 (n := 265) rfl ?_
      refine v_bipush (v := 48) C dX10_take_265 (by decide) (n := 267) rfl ?_
      refine v_isub C dX10_take_267 (n := 268) rfl ?_
      refine v_sub [0] rfl ?_
      exact t_X10_take_268 C hk219 (((10 * (rd S1 0 26)) + (rd S1 1 (rd S1 0 24).toNatClampNeg)) - 48) S1 h
    · have h := ite_n c4 h
      refine v_aload_n C 0 dX10_take_241 rfl rfl (n := 242) rfl ?_
      refine g_X10_which C w_13_4 dX10_take_242 (n := 245) rfl ?_
      refine v_goto C dX10_take_245 (n := 268) (by decide) ?_
      refine v_sub [0] rfl ?_
      exact t_X10_take_268 C hk219 (rd S1 0 26) S1 h
theorem tg_X10_take_219 {x : Ctx} (C : Cx x WM cX10_take RX10 1 rm_X10_take none) {res : St}  : ∀ (n : Nat)  (S : St), g_X10_take_219  n  S = some res → V x WM 1 (QV x WM res) S 219 [(0, .ref (xq x 0))] [] := by
  intro n
  induction n with
  | zero => intro  S h; cases h
  | succ n ih => intro  S h; exact t_X10_take_219 C (fun  S h => ih  S h)  S h
set_option maxRecDepth 20000 in
set_option maxHeartbeats 2000000 in
theorem t_X10_take_330 {x : Ctx} (C : Cx x WM cX10_take RX10 1 rm_X10_take none) {res : St}  (s0 : Int32) (S : St) (h : f_X10_take_330  s0 S = some res) : V x WM 1 (QV x WM res) S 330 [(0, .ref (xq x 0))] [.int s0, .ref (xq x 0)] := by
  unfold f_X10_take_330 at h
  obtain ⟨S1, eS1, h⟩ := lt_e h
  refine p_X10_kind C w_12_19 dX10_take_330 (n := 333) rfl eS1 ?_
  refine v_aload_n C 0 dX10_take_333 rfl rfl (n := 334) rfl ?_
  refine v_dup C dX10_take_334 rfl (n := 335) rfl ?_
  refine g_X10_next C w_12_18 dX10_take_335 (n := 338) rfl ?_
  refine v_iconst (v := 1) C dX10_take_338 (by decide) (n := 339) rfl ?_
  refine v_iadd C dX10_take_339 (n := 340) rfl ?_
  obtain ⟨S2, eS2, h⟩ := lt_e h
  refine p_X10_next C w_12_18 dX10_take_340 (n := 343) rfl eS2 ?_
  obtain rfl := Option.some.inj h
  exact v_ret C dX10_take_343
set_option maxRecDepth 20000 in
set_option maxHeartbeats 2000000 in
theorem t_X10_take_325 {x : Ctx} (C : Cx x WM cX10_take RX10 1 rm_X10_take none) {res : St}   (S : St) (h : f_X10_take_325   S = some res) : V x WM 1 (QV x WM res) S 325 [(0, .ref (xq x 0))] [.ref (xq x 0)] := by
  unfold f_X10_take_325 at h
  refine v_iconst (v := 4) C dX10_take_325 (by decide) (n := 326) rfl ?_
  refine v_goto C dX10_take_326 (n := 330) (by decide) ?_
  refine v_sub [0] rfl ?_
  exact t_X10_take_330 C  4 S h
set_option maxRecDepth 20000 in
set_option maxHeartbeats 2000000 in
theorem t_X10_take_52 {x : Ctx} (C : Cx x WM cX10_take RX10 1 rm_X10_take none) {res : St}   (S : St) (h : f_X10_take_52   S = some res) : V x WM 1 (QV x WM res) S 52 [(0, .ref (xq x 0))] [] := by
  unfold f_X10_take_52 at h
  refine v_aload_n C 0 dX10_take_52 rfl rfl (n := 53) rfl ?_
  refine v_aload_n C 0 dX10_take_53 rfl rfl (n := 54) rfl ?_
  refine g_X10_next C w_12_18 dX10_take_54 (n := 57) rfl ?_
  obtain ⟨S1, eS1, h⟩ := lt_e h
  refine p_X10_token C w_13_3 dX10_take_57 (n := 60) rfl eS1 ?_
  refine v_aload_n C 0 dX10_take_60 rfl rfl (n := 61) rfl ?_
  refine g_X10_next C w_12_18 dX10_take_61 (n := 64) rfl ?_
  refine v_aload_n C 0 dX10_take_64 rfl rfl (n := 65) rfl ?_
  refine g_X10_stop C w_12_14 dX10_take_65 (n := 68) rfl ?_
  refine v_icmp_ne C dX10_take_68 (t := 79) (by decide) (n := 71) rfl (fun c2 => ?_) (fun c2 => ?_)
  · have h := ite_n c2 h
    refine v_aload_n C 0 dX10_take_79 rfl rfl (n := 80) rfl ?_
    refine v_aload_n C 0 dX10_take_80 rfl rfl (n := 81) rfl ?_
    refine g_X10_next C w_12_18 dX10_take_81 (n := 84) rfl ?_
    obtain ⟨r4, S3, eS3, h⟩ := bI_e h
    refine v_callVI (As := [.int (rd S1 0 24)]) C (c_X10_isSmall (rd S1 0 24) S1 eS3) mf_X10_isSmall w_13_5 (oX10 _ _ _) rfl ⟨rfl, rfl, by decide, by decide⟩ rfl rfl (Nat.le_of_ble_eq_true rfl) dX10_take_84 (n := 87) rfl ?_
    refine v_if_eq C dX10_take_87 (t := 198) (by decide) (n := 90) rfl (fun c5 => ?_) (fun c5 => ?_)
    · have h := ite_p c5 h
      refine v_aload_n C 0 dX10_take_198 rfl rfl (n := 199) rfl ?_
      refine v_aload_n C 0 dX10_take_199 rfl rfl (n := 200) rfl ?_
      refine g_X10_next C w_12_18 dX10_take_200 (n := 203) rfl ?_
      obtain ⟨r7, S6, eS6, h⟩ := bI_e h
      refine v_callVI (As := [.int (rd S3 0 24)]) C (c_X10_isDigit (rd S3 0 24) S3 eS6) mf_X10_isDigit w_13_13 (oX10 _ _ _) rfl ⟨rfl, rfl, by decide, by decide⟩ rfl rfl (Nat.le_of_ble_eq_true rfl) dX10_take_203 (n := 206) rfl ?_
      refine v_if_eq C dX10_take_206 (t := 284) (by decide) (n := 209) rfl (fun c8 => ?_) (fun c8 => ?_)
      · have h := ite_p c8 h
        refine v_aload_n C 0 dX10_take_284 rfl rfl (n := 285) rfl ?_
        refine v_aload_n C 0 dX10_take_285 rfl rfl (n := 286) rfl ?_
        refine g_X10_tape C w_7_5 dX10_take_286 (n := 289) rfl ?_
        refine v_aload_n C 0 dX10_take_289 rfl rfl (n := 290) rfl ?_
        refine g_X10_next C w_12_18 dX10_take_290 (n := 293) rfl ?_
        obtain ⟨hi9, h⟩ := ck_e h
        refine v_ald C aM_1 hi9 dX10_take_293 (n := 294) rfl ?_
        obtain ⟨S10, eS10, h⟩ := lt_e h
        refine p_X10_which C w_13_4 dX10_take_294 (n := 297) rfl eS10 ?_
        refine v_aload_n C 0 dX10_take_297 rfl rfl (n := 298) rfl ?_
        refine v_aload_n C 0 dX10_take_298 rfl rfl (n := 299) rfl ?_
        refine g_X10_which C w_13_4 dX10_take_299 (n := 302) rfl ?_
        refine v_bipush (v := 58) C dX10_take_302 (by decide) (n := 304) rfl ?_
        refine v_icmp_eq C dX10_take_304 (t := 325) (by decide) (n := 307) rfl (fun c11 => ?_) (fun c11 => ?_)
        · have h := ite_p c11 h
          refine v_sub [0] rfl ?_
          exact t_X10_take_325 C   S10 h
        · have h := ite_n c11 h
          refine v_aload_n C 0 dX10_take_307 rfl rfl (n := 308) rfl ?_
          refine g_X10_which C w_13_4 dX10_take_308 (n := 311) rfl ?_
          refine v_bipush (v := 124) C dX10_take_311 (by decide) (n := 313) rfl ?_
          refine v_icmp_eq C dX10_take_313 (t := 325) (by decide) (n := 316) rfl (fun c12 => ?_) (fun c12 => ?_)
          · have h := ite_p c12 h
            refine v_sub [0] rfl ?_
            exact t_X10_take_325 C   S10 h
          · have h := ite_n c12 h
            refine v_aload_n C 0 dX10_take_316 rfl rfl (n := 317) rfl ?_
            refine g_X10_which C w_13_4 dX10_take_317 (n := 320) rfl ?_
            refine v_bipush (v := 59) C dX10_take_320 (by decide) (n := 322) rfl ?_
            refine v_icmp_ne C dX10_take_322 (t := 329) (by decide) (n := 325) rfl (fun c13 => ?_) (fun c13 => ?_)
            · have h := ite_n c13 h
              refine v_iconst (v := 5) C dX10_take_329 (by decide) (n := 330) rfl ?_
              refine v_sub [0] rfl ?_
              exact t_X10_take_330 C  5 S10 h
            · have h := ite_p c13 h
              refine v_sub [0] rfl ?_
              exact t_X10_take_325 C   S10 h
      · have h := ite_n c8 h
        refine v_aload_n C 0 dX10_take_209 rfl rfl (n := 210) rfl ?_
        refine v_iconst (v := 3) C dX10_take_210 (by decide) (n := 211) rfl ?_
        obtain ⟨S14, eS14, h⟩ := lt_e h
        refine p_X10_kind C w_12_19 dX10_take_211 (n := 214) rfl eS14 ?_
        refine v_aload_n C 0 dX10_take_214 rfl rfl (n := 215) rfl ?_
        refine v_iconst (v := 0) C dX10_take_215 (by decide) (n := 216) rfl ?_
        obtain ⟨S15, eS15, h⟩ := lt_e h
        refine p_X10_which C w_13_4 dX10_take_216 (n := 219) rfl eS15 ?_
        refine v_sub [0] rfl ?_
        exact tg_X10_take_219 C  fuel  S15 h
    · have h := ite_n c5 h
      refine v_sub [0] rfl ?_
      exact tg_X10_take_90 C  fuel  S3 h
  · have h := ite_p c2 h
    refine v_aload_n C 0 dX10_take_71 rfl rfl (n := 72) rfl ?_
    refine v_iconst (v := 0) C dX10_take_72 (by decide) (n := 73) rfl ?_
    obtain ⟨S16, eS16, h⟩ := lt_e h
    refine p_X10_kind C w_12_19 dX10_take_73 (n := 76) rfl eS16 ?_
    refine v_goto C dX10_take_76 (n := 343) (by decide) ?_
    obtain rfl := Option.some.inj h
    exact v_ret C dX10_take_343
set_option maxRecDepth 20000 in
set_option maxHeartbeats 2000000 in
theorem t_X10_take_0 {x : Ctx} (C : Cx x WM cX10_take RX10 1 rm_X10_take none) {res : St} {k0 : St → Option (St)} (hk0 : ∀  (S : St), k0  S = some res → V x WM 1 (QV x WM res) S 0 [(0, .ref (xq x 0))] [])  (S : St) (h : f_X10_take_0 k0  S = some res) : V x WM 1 (QV x WM res) S 0 [(0, .ref (xq x 0))] [] := by
  unfold f_X10_take_0 at h
  refine v_aload_n C 0 dX10_take_0 rfl rfl (n := 1) rfl ?_
  refine g_X10_next C w_12_18 dX10_take_1 (n := 4) rfl ?_
  refine v_aload_n C 0 dX10_take_4 rfl rfl (n := 5) rfl ?_
  refine g_X10_stop C w_12_14 dX10_take_5 (n := 8) rfl ?_
  refine v_icmp_ge C dX10_take_8 (t := 52) (by decide) (n := 11) rfl (fun c1 => ?_) (fun c1 => ?_)
  · have h := ite_p c1 h
    refine v_sub [0] rfl ?_
    exact t_X10_take_52 C   S h
  · have h := ite_n c1 h
    refine v_aload_n C 0 dX10_take_11 rfl rfl (n := 12) rfl ?_
    refine g_X10_tape C w_7_5 dX10_take_12 (n := 15) rfl ?_
    refine v_aload_n C 0 dX10_take_15 rfl rfl (n := 16) rfl ?_
    refine g_X10_next C w_12_18 dX10_take_16 (n := 19) rfl ?_
    obtain ⟨hi2, h⟩ := ck_e h
    refine v_ald C aM_1 hi2 dX10_take_19 (n := 20) rfl ?_
    refine v_bipush (v := 10) C dX10_take_20 (by decide) (n := 22) rfl ?_
    refine v_icmp_eq C dX10_take_22 (t := 39) (by decide) (n := 25) rfl (fun c3 => ?_) (fun c3 => ?_)
    · have h := ite_p c3 h
      refine v_aload_n C 0 dX10_take_39 rfl rfl (n := 40) rfl ?_
      refine v_dup C dX10_take_40 rfl (n := 41) rfl ?_
      refine g_X10_next C w_12_18 dX10_take_41 (n := 44) rfl ?_
      refine v_iconst (v := 1) C dX10_take_44 (by decide) (n := 45) rfl ?_
      refine v_iadd C dX10_take_45 (n := 46) rfl ?_
      obtain ⟨S4, eS4, h⟩ := lt_e h
      refine p_X10_next C w_12_18 dX10_take_46 (n := 49) rfl eS4 ?_
      refine v_goto C dX10_take_49 (n := 0) (by decide) ?_
      refine v_sub [0] rfl ?_
      exact hk0  S4 h
    · have h := ite_n c3 h
      refine v_aload_n C 0 dX10_take_25 rfl rfl (n := 26) rfl ?_
      refine g_X10_tape C w_7_5 dX10_take_26 (n := 29) rfl ?_
      refine v_aload_n C 0 dX10_take_29 rfl rfl (n := 30) rfl ?_
      refine g_X10_next C w_12_18 dX10_take_30 (n := 33) rfl ?_
      refine v_ald C aM_1 hi2 dX10_take_33 (n := 34) rfl ?_
      refine v_bipush (v := 32) C dX10_take_34 (by decide) (n := 36) rfl ?_
      refine v_icmp_ne C dX10_take_36 (t := 52) (by decide) (n := 39) rfl (fun c5 => ?_) (fun c5 => ?_)
      · have h := ite_n c5 h
        refine v_sub [0] rfl ?_
        exact t_X10_take_52 C   S h
      · have h := ite_p c5 h
        refine v_aload_n C 0 dX10_take_39 rfl rfl (n := 40) rfl ?_
        refine v_dup C dX10_take_40 rfl (n := 41) rfl ?_
        refine g_X10_next C w_12_18 dX10_take_41 (n := 44) rfl ?_
        refine v_iconst (v := 1) C dX10_take_44 (by decide) (n := 45) rfl ?_
        refine v_iadd C dX10_take_45 (n := 46) rfl ?_
        obtain ⟨S6, eS6, h⟩ := lt_e h
        refine p_X10_next C w_12_18 dX10_take_46 (n := 49) rfl eS6 ?_
        refine v_goto C dX10_take_49 (n := 0) (by decide) ?_
        refine v_sub [0] rfl ?_
        exact hk0  S6 h
theorem tg_X10_take_0 {x : Ctx} (C : Cx x WM cX10_take RX10 1 rm_X10_take none) {res : St}  : ∀ (n : Nat)  (S : St), g_X10_take_0  n  S = some res → V x WM 1 (QV x WM res) S 0 [(0, .ref (xq x 0))] [] := by
  intro n
  induction n with
  | zero => intro  S h; cases h
  | succ n ih => intro  S h; exact t_X10_take_0 C (fun  S h => ih  S h)  S h
theorem c_X10_take {l : Launch} {D : va_G} {q : Nat → Nat} {ar : Ar}  (S : St) {res : St} (h : m_X10_take  S = some res) : MetV l D q ar WM yX10_take cX10_take 1 none rm_X10_take [.ref (q 0)] S res := by
  refine metV_of adrM (by decide +kernel) (Nat.le_of_ble_eq_true rfl) (fun x e1 e2 e3 e4 C => ?_)
  subst e1; subst e2; subst e3; subst e4
  exact v_sub [0] rfl (tg_X10_take_0 C fuel  S h)
theorem mf_X10_take : CalV yX10_take cX10_take 1 none RX10 0 := ⟨w_13_2, w_13_0, w_13_1, w_1_5, rfl, by decide +kernel, by decide +kernel, by decide +kernel⟩
/-! LabyrinthGardenModel.sign -/
def f_X10_sign_16   (S : St) : Option (Int32 × St) :=
  bI (m_X10_wrong 1 (rd S 0 27) S) fun r2 S1 =>
  ckz r2 <|
  some (r2, S1)
def f_X10_sign_0  (x1 : Int32) (S : St) : Option (Int32 × St) :=
  if (rd S 0 25) = 4 then (
    if (rd S 0 26) = x1 then (
      bV (m_X10_take  S) fun S3 =>
      some (1, S3))
    else (
      f_X10_sign_16   S))
  else (
    f_X10_sign_16   S)
def m_X10_sign (a1 : Int32) (S : St) : Option (Int32 × St) := f_X10_sign_0 a1 S
def rm_X10_sign : Room := { frames := 2, cells := 0, slots := 0, locals := 47 }
set_option maxRecDepth 20000 in
set_option maxHeartbeats 2000000 in
theorem t_X10_sign_16 {x : Ctx} (C : Cx x WM cX10_sign RX10 2 rm_X10_sign (some .boolean)) {res : Int32 × St}   (S : St) (h : f_X10_sign_16   S = some res) : V x WM 2 (QI x WM res) S 16 [(0, .ref (xq x 0))] [] := by
  unfold f_X10_sign_16 at h
  refine v_aload_n C 0 dX10_sign_16 rfl rfl (n := 17) rfl ?_
  refine v_iconst (v := 1) C dX10_sign_17 (by decide) (n := 18) rfl ?_
  refine v_aload_n C 0 dX10_sign_18 rfl rfl (n := 19) rfl ?_
  refine g_X10_token C w_13_3 dX10_sign_19 (n := 22) rfl ?_
  obtain ⟨r2, S1, eS1, h⟩ := bI_e h
  refine v_callVI (As := [.int 1, .int (rd S 0 27)]) C (c_X10_wrong 1 (rd S 0 27) S eS1) mf_X10_wrong w_13_21 (oX10 _ _ _) rfl ⟨rfl, rfl, by decide, by decide⟩ rfl rfl (Nat.le_of_ble_eq_true rfl) dX10_sign_22 (n := 25) rfl ?_
  obtain ⟨hz3, h⟩ := ckz_e h
  obtain rfl := Option.some.inj h
  exact v_zret C hz3 dX10_sign_25
set_option maxRecDepth 20000 in
set_option maxHeartbeats 2000000 in
theorem t_X10_sign_0 {x : Ctx} (C : Cx x WM cX10_sign RX10 2 rm_X10_sign (some .boolean)) {res : Int32 × St}  (x1 : Int32) (S : St) (h : f_X10_sign_0  x1 S = some res) : V x WM 2 (QI x WM res) S 0 [(0, .ref (xq x 0)), (1, .int x1)] [] := by
  unfold f_X10_sign_0 at h
  refine v_aload_n C 0 dX10_sign_0 rfl rfl (n := 1) rfl ?_
  refine g_X10_kind C w_12_19 dX10_sign_1 (n := 4) rfl ?_
  refine v_iconst (v := 4) C dX10_sign_4 (by decide) (n := 5) rfl ?_
  refine v_icmp_ne C dX10_sign_5 (t := 16) (by decide) (n := 8) rfl (fun c1 => ?_) (fun c1 => ?_)
  · have h := ite_n c1 h
    refine v_sub [0] rfl ?_
    exact t_X10_sign_16 C   S h
  · have h := ite_p c1 h
    refine v_aload_n C 0 dX10_sign_8 rfl rfl (n := 9) rfl ?_
    refine g_X10_which C w_13_4 dX10_sign_9 (n := 12) rfl ?_
    refine v_iload_n C 1 dX10_sign_12 rfl rfl (n := 13) rfl ?_
    refine v_icmp_eq C dX10_sign_13 (t := 26) (by decide) (n := 16) rfl (fun c2 => ?_) (fun c2 => ?_)
    · have h := ite_p c2 h
      refine v_aload_n C 0 dX10_sign_26 rfl rfl (n := 27) rfl ?_
      obtain ⟨S3, eS3, h⟩ := bV_e h
      refine v_callVV (As := []) C (c_X10_take  S eS3) mf_X10_take w_12_23 (oX10 _ _ _) rfl ⟨rfl, rfl, by decide, by decide⟩ rfl rfl (Nat.le_of_ble_eq_true rfl) dX10_sign_27 (n := 30) rfl ?_
      refine v_iconst (v := 1) C dX10_sign_30 (by decide) (n := 31) rfl ?_
      obtain rfl := Option.some.inj h
      exact v_zret C (Or.inr rfl) dX10_sign_31
    · have h := ite_n c2 h
      refine v_sub [0] rfl ?_
      exact t_X10_sign_16 C   S h
theorem c_X10_sign {l : Launch} {D : va_G} {q : Nat → Nat} {ar : Ar} (a1 : Int32) (S : St) {res : Int32 × St} (h : m_X10_sign a1 S = some res) : MetI l D q ar WM yX10_sign cX10_sign 2 (some .boolean) rm_X10_sign [.ref (q 0), .int a1] S res := by
  refine metI_of adrM (by decide +kernel) (Nat.le_of_ble_eq_true rfl) (fun x e1 e2 e3 e4 C => ?_)
  subst e1; subst e2; subst e3; subst e4
  exact v_sub [0, 1] rfl (t_X10_sign_0 C a1 S h)
theorem mf_X10_sign : CalV yX10_sign cX10_sign 2 (some .boolean) RX10 1 := ⟨w_14_4, w_14_2, w_14_3, w_1_5, rfl, by decide +kernel, by decide +kernel, by decide +kernel⟩
/-! LabyrinthGardenModel.actAt -/
def f_X10_actAt_0  (x1 : Int32) (S : St) : Option (Int32 × St) :=
  if (rd S 0 25) = 3 then (
    if (rd S 0 26) ≤ 9 then (
      ck x1 48 <|
      lt (up S 2 x1.toNatClampNeg (rd S 0 26)) fun S4 =>
      bV (m_X10_take  S4) fun S5 =>
      if (rd S5 0 25) = 2 then (
        ck (x1 + 1) 48 <|
        lt (up S5 2 (x1 + 1).toNatClampNeg (rd S5 0 26)) fun S8 =>
        bV (m_X10_take  S8) fun S9 =>
        if (rd S9 0 25) = 1 then (
          ck (x1 + 2) 48 <|
          lt (up S9 2 (x1 + 2).toNatClampNeg (rd S9 0 26)) fun S12 =>
          ck (rd S12 0 28) 8 <|
          lt (up S12 14 (rd S12 0 28).toNatClampNeg (rd S12 0 26)) fun S14 =>
          ck (rd S14 0 28) 8 <|
          lt (up S14 15 (rd S14 0 28).toNatClampNeg (rd S14 0 27)) fun S16 =>
          lt (up S16 0 28 ((rd S16 0 28) + 1)) fun S17 =>
          bV (m_X10_take  S17) fun S18 =>
          some (1, S18))
        else (
          bI (m_X10_wrong 1 (rd S9 0 27) S9) fun r20 S19 =>
          ckz r20 <|
          some (r20, S19)))
      else (
        bI (m_X10_wrong 1 (rd S5 0 27) S5) fun r23 S22 =>
        ckz r23 <|
        some (r23, S22)))
    else (
      bI (m_X10_wrong 2 (rd S 0 27) S) fun r26 S25 =>
      ckz r26 <|
      some (r26, S25)))
  else (
    bI (m_X10_wrong 1 (rd S 0 27) S) fun r29 S28 =>
    ckz r29 <|
    some (r29, S28))
def m_X10_actAt (a1 : Int32) (S : St) : Option (Int32 × St) := f_X10_actAt_0 a1 S
def rm_X10_actAt : Room := { frames := 2, cells := 0, slots := 0, locals := 47 }
set_option maxRecDepth 20000 in
set_option maxHeartbeats 2000000 in
theorem t_X10_actAt_0 {x : Ctx} (C : Cx x WM cX10_actAt RX10 2 rm_X10_actAt (some .boolean)) {res : Int32 × St}  (x1 : Int32) (S : St) (h : f_X10_actAt_0  x1 S = some res) : V x WM 2 (QI x WM res) S 0 [(0, .ref (xq x 0)), (1, .int x1)] [] := by
  unfold f_X10_actAt_0 at h
  refine v_aload_n C 0 dX10_actAt_0 rfl rfl (n := 1) rfl ?_
  refine g_X10_kind C w_12_19 dX10_actAt_1 (n := 4) rfl ?_
  refine v_iconst (v := 3) C dX10_actAt_4 (by decide) (n := 5) rfl ?_
  refine v_icmp_eq C dX10_actAt_5 (t := 18) (by decide) (n := 8) rfl (fun c1 => ?_) (fun c1 => ?_)
  · have h := ite_p c1 h
    refine v_aload_n C 0 dX10_actAt_18 rfl rfl (n := 19) rfl ?_
    refine g_X10_which C w_13_4 dX10_actAt_19 (n := 22) rfl ?_
    refine v_bipush (v := 9) C dX10_actAt_22 (by decide) (n := 24) rfl ?_
    refine v_icmp_le C dX10_actAt_24 (t := 37) (by decide) (n := 27) rfl (fun c2 => ?_) (fun c2 => ?_)
    · have h := ite_p c2 h
      refine v_aload_n C 0 dX10_actAt_37 rfl rfl (n := 38) rfl ?_
      refine g_X10_act C w_7_7 dX10_actAt_38 (n := 41) rfl ?_
      refine v_iload_n C 1 dX10_actAt_41 rfl rfl (n := 42) rfl ?_
      refine v_aload_n C 0 dX10_actAt_42 rfl rfl (n := 43) rfl ?_
      refine g_X10_which C w_13_4 dX10_actAt_43 (n := 46) rfl ?_
      obtain ⟨hi3, h⟩ := ck_e h
      obtain ⟨S4, eS4, h⟩ := lt_e h
      refine v_ast C aM_2 hi3 dX10_actAt_46 (n := 47) rfl eS4 ?_
      refine v_aload_n C 0 dX10_actAt_47 rfl rfl (n := 48) rfl ?_
      obtain ⟨S5, eS5, h⟩ := bV_e h
      refine v_callVV (As := []) C (c_X10_take  S4 eS5) mf_X10_take w_12_23 (oX10 _ _ _) rfl ⟨rfl, rfl, by decide, by decide⟩ rfl rfl (Nat.le_of_ble_eq_true rfl) dX10_actAt_48 (n := 51) rfl ?_
      refine v_aload_n C 0 dX10_actAt_51 rfl rfl (n := 52) rfl ?_
      refine g_X10_kind C w_12_19 dX10_actAt_52 (n := 55) rfl ?_
      refine v_iconst (v := 2) C dX10_actAt_55 (by decide) (n := 56) rfl ?_
      refine v_icmp_eq C dX10_actAt_56 (t := 69) (by decide) (n := 59) rfl (fun c6 => ?_) (fun c6 => ?_)
      · have h := ite_p c6 h
        refine v_aload_n C 0 dX10_actAt_69 rfl rfl (n := 70) rfl ?_
        refine g_X10_act C w_7_7 dX10_actAt_70 (n := 73) rfl ?_
        refine v_iload_n C 1 dX10_actAt_73 rfl rfl (n := 74) rfl ?_
        refine v_iconst (v := 1) C dX10_actAt_74 (by decide) (n := 75) rfl ?_
        refine v_iadd C dX10_actAt_75 (n := 76) rfl ?_
        refine v_aload_n C 0 dX10_actAt_76 rfl rfl (n := 77) rfl ?_
        refine g_X10_which C w_13_4 dX10_actAt_77 (n := 80) rfl ?_
        obtain ⟨hi7, h⟩ := ck_e h
        obtain ⟨S8, eS8, h⟩ := lt_e h
        refine v_ast C aM_2 hi7 dX10_actAt_80 (n := 81) rfl eS8 ?_
        refine v_aload_n C 0 dX10_actAt_81 rfl rfl (n := 82) rfl ?_
        obtain ⟨S9, eS9, h⟩ := bV_e h
        refine v_callVV (As := []) C (c_X10_take  S8 eS9) mf_X10_take w_12_23 (oX10 _ _ _) rfl ⟨rfl, rfl, by decide, by decide⟩ rfl rfl (Nat.le_of_ble_eq_true rfl) dX10_actAt_82 (n := 85) rfl ?_
        refine v_aload_n C 0 dX10_actAt_85 rfl rfl (n := 86) rfl ?_
        refine g_X10_kind C w_12_19 dX10_actAt_86 (n := 89) rfl ?_
        refine v_iconst (v := 1) C dX10_actAt_89 (by decide) (n := 90) rfl ?_
        refine v_icmp_eq C dX10_actAt_90 (t := 103) (by decide) (n := 93) rfl (fun c10 => ?_) (fun c10 => ?_)
        · have h := ite_p c10 h
          refine v_aload_n C 0 dX10_actAt_103 rfl rfl (n := 104) rfl ?_
          refine g_X10_act C w_7_7 dX10_actAt_104 (n := 107) rfl ?_
          refine v_iload_n C 1 dX10_actAt_107 rfl rfl (n := 108) rfl ?_
          refine v_iconst (v := 2) C dX10_actAt_108 (by decide) (n := 109) rfl ?_
          refine v_iadd C dX10_actAt_109 (n := 110) rfl ?_
          refine v_aload_n C 0 dX10_actAt_110 rfl rfl (n := 111) rfl ?_
          refine g_X10_which C w_13_4 dX10_actAt_111 (n := 114) rfl ?_
          obtain ⟨hi11, h⟩ := ck_e h
          obtain ⟨S12, eS12, h⟩ := lt_e h
          refine v_ast C aM_2 hi11 dX10_actAt_114 (n := 115) rfl eS12 ?_
          refine v_aload_n C 0 dX10_actAt_115 rfl rfl (n := 116) rfl ?_
          refine g_X10_namedState C w_7_21 dX10_actAt_116 (n := 119) rfl ?_
          refine v_aload_n C 0 dX10_actAt_119 rfl rfl (n := 120) rfl ?_
          refine g_X10_named C w_12_16 dX10_actAt_120 (n := 123) rfl ?_
          refine v_aload_n C 0 dX10_actAt_123 rfl rfl (n := 124) rfl ?_
          refine g_X10_which C w_13_4 dX10_actAt_124 (n := 127) rfl ?_
          obtain ⟨hi13, h⟩ := ck_e h
          obtain ⟨S14, eS14, h⟩ := lt_e h
          refine v_ast C aM_14 hi13 dX10_actAt_127 (n := 128) rfl eS14 ?_
          refine v_aload_n C 0 dX10_actAt_128 rfl rfl (n := 129) rfl ?_
          refine g_X10_namedPlace C w_7_22 dX10_actAt_129 (n := 132) rfl ?_
          refine v_aload_n C 0 dX10_actAt_132 rfl rfl (n := 133) rfl ?_
          refine g_X10_named C w_12_16 dX10_actAt_133 (n := 136) rfl ?_
          refine v_aload_n C 0 dX10_actAt_136 rfl rfl (n := 137) rfl ?_
          refine g_X10_token C w_13_3 dX10_actAt_137 (n := 140) rfl ?_
          obtain ⟨hi15, h⟩ := ck_e h
          obtain ⟨S16, eS16, h⟩ := lt_e h
          refine v_ast C aM_15 hi15 dX10_actAt_140 (n := 141) rfl eS16 ?_
          refine v_aload_n C 0 dX10_actAt_141 rfl rfl (n := 142) rfl ?_
          refine v_dup C dX10_actAt_142 rfl (n := 143) rfl ?_
          refine g_X10_named C w_12_16 dX10_actAt_143 (n := 146) rfl ?_
          refine v_iconst (v := 1) C dX10_actAt_146 (by decide) (n := 147) rfl ?_
          refine v_iadd C dX10_actAt_147 (n := 148) rfl ?_
          obtain ⟨S17, eS17, h⟩ := lt_e h
          refine p_X10_named C w_12_16 dX10_actAt_148 (n := 151) rfl eS17 ?_
          refine v_aload_n C 0 dX10_actAt_151 rfl rfl (n := 152) rfl ?_
          obtain ⟨S18, eS18, h⟩ := bV_e h
          refine v_callVV (As := []) C (c_X10_take  S17 eS18) mf_X10_take w_12_23 (oX10 _ _ _) rfl ⟨rfl, rfl, by decide, by decide⟩ rfl rfl (Nat.le_of_ble_eq_true rfl) dX10_actAt_152 (n := 155) rfl ?_
          refine v_iconst (v := 1) C dX10_actAt_155 (by decide) (n := 156) rfl ?_
          obtain rfl := Option.some.inj h
          exact v_zret C (Or.inr rfl) dX10_actAt_156
        · have h := ite_n c10 h
          refine v_aload_n C 0 dX10_actAt_93 rfl rfl (n := 94) rfl ?_
          refine v_iconst (v := 1) C dX10_actAt_94 (by decide) (n := 95) rfl ?_
          refine v_aload_n C 0 dX10_actAt_95 rfl rfl (n := 96) rfl ?_
          refine g_X10_token C w_13_3 dX10_actAt_96 (n := 99) rfl ?_
          obtain ⟨r20, S19, eS19, h⟩ := bI_e h
          refine v_callVI (As := [.int 1, .int (rd S9 0 27)]) C (c_X10_wrong 1 (rd S9 0 27) S9 eS19) mf_X10_wrong w_13_21 (oX10 _ _ _) rfl ⟨rfl, rfl, by decide, by decide⟩ rfl rfl (Nat.le_of_ble_eq_true rfl) dX10_actAt_99 (n := 102) rfl ?_
          obtain ⟨hz21, h⟩ := ckz_e h
          obtain rfl := Option.some.inj h
          exact v_zret C hz21 dX10_actAt_102
      · have h := ite_n c6 h
        refine v_aload_n C 0 dX10_actAt_59 rfl rfl (n := 60) rfl ?_
        refine v_iconst (v := 1) C dX10_actAt_60 (by decide) (n := 61) rfl ?_
        refine v_aload_n C 0 dX10_actAt_61 rfl rfl (n := 62) rfl ?_
        refine g_X10_token C w_13_3 dX10_actAt_62 (n := 65) rfl ?_
        obtain ⟨r23, S22, eS22, h⟩ := bI_e h
        refine v_callVI (As := [.int 1, .int (rd S5 0 27)]) C (c_X10_wrong 1 (rd S5 0 27) S5 eS22) mf_X10_wrong w_13_21 (oX10 _ _ _) rfl ⟨rfl, rfl, by decide, by decide⟩ rfl rfl (Nat.le_of_ble_eq_true rfl) dX10_actAt_65 (n := 68) rfl ?_
        obtain ⟨hz24, h⟩ := ckz_e h
        obtain rfl := Option.some.inj h
        exact v_zret C hz24 dX10_actAt_68
    · have h := ite_n c2 h
      refine v_aload_n C 0 dX10_actAt_27 rfl rfl (n := 28) rfl ?_
      refine v_iconst (v := 2) C dX10_actAt_28 (by decide) (n := 29) rfl ?_
      refine v_aload_n C 0 dX10_actAt_29 rfl rfl (n := 30) rfl ?_
      refine g_X10_token C w_13_3 dX10_actAt_30 (n := 33) rfl ?_
      obtain ⟨r26, S25, eS25, h⟩ := bI_e h
      refine v_callVI (As := [.int 2, .int (rd S 0 27)]) C (c_X10_wrong 2 (rd S 0 27) S eS25) mf_X10_wrong w_13_21 (oX10 _ _ _) rfl ⟨rfl, rfl, by decide, by decide⟩ rfl rfl (Nat.le_of_ble_eq_true rfl) dX10_actAt_33 (n := 36) rfl ?_
      obtain ⟨hz27, h⟩ := ckz_e h
      obtain rfl := Option.some.inj h
      exact v_zret C hz27 dX10_actAt_36
  · have h := ite_n c1 h
    refine v_aload_n C 0 dX10_actAt_8 rfl rfl (n := 9) rfl ?_
    refine v_iconst (v := 1) C dX10_actAt_9 (by decide) (n := 10) rfl ?_
    refine v_aload_n C 0 dX10_actAt_10 rfl rfl (n := 11) rfl ?_
    refine g_X10_token C w_13_3 dX10_actAt_11 (n := 14) rfl ?_
    obtain ⟨r29, S28, eS28, h⟩ := bI_e h
    refine v_callVI (As := [.int 1, .int (rd S 0 27)]) C (c_X10_wrong 1 (rd S 0 27) S eS28) mf_X10_wrong w_13_21 (oX10 _ _ _) rfl ⟨rfl, rfl, by decide, by decide⟩ rfl rfl (Nat.le_of_ble_eq_true rfl) dX10_actAt_14 (n := 17) rfl ?_
    obtain ⟨hz30, h⟩ := ckz_e h
    obtain rfl := Option.some.inj h
    exact v_zret C hz30 dX10_actAt_17
theorem c_X10_actAt {l : Launch} {D : va_G} {q : Nat → Nat} {ar : Ar} (a1 : Int32) (S : St) {res : Int32 × St} (h : m_X10_actAt a1 S = some res) : MetI l D q ar WM yX10_actAt cX10_actAt 2 (some .boolean) rm_X10_actAt [.ref (q 0), .int a1] S res := by
  refine metI_of adrM (by decide +kernel) (Nat.le_of_ble_eq_true rfl) (fun x e1 e2 e3 e4 C => ?_)
  subst e1; subst e2; subst e3; subst e4
  exact v_sub [0, 1] rfl (t_X10_actAt_0 C a1 S h)
theorem mf_X10_actAt : CalV yX10_actAt cX10_actAt 2 (some .boolean) RX10 1 := ⟨w_14_8, w_14_6, w_14_7, w_1_5, rfl, by decide +kernel, by decide +kernel, by decide +kernel⟩
/-! LabyrinthGardenModel.line -/
def f_X10_line_144   (S : St) : Option (Int32 × St) :=
  bI (m_X10_sign 59 S) fun r2 S1 =>
  ckz r2 <|
  some (r2, S1)
def f_X10_line_61  (x1 : Int32) (S : St) : Option (Int32 × St) :=
  lt (up S 0 32 ((rd S 0 32) + 1)) fun S1 =>
  bV (m_X10_take  S1) fun S2 =>
  lt ((24 + (6 * x1)) : Int32) fun y3 =>
  ck (y3 + 3) 48 <|
  lt (up S2 2 (y3 + 3).toNatClampNeg (-1)) fun S5 =>
  bI (m_X10_sign 58 S5) fun r7 S6 =>
  if r7 = 0 then (
    some (0, S6))
  else (
    bI (m_X10_actAt y3 S6) fun r10 S9 =>
    if r10 = 0 then (
      some (0, S9))
    else (
      if (rd S9 0 25) = 4 then (
        if (rd S9 0 26) = 124 then (
          bV (m_X10_take  S9) fun S14 =>
          bI (m_X10_actAt (y3 + 3) S14) fun r16 S15 =>
          if r16 = 0 then (
            some (0, S15))
          else (
            f_X10_line_144   S15))
        else (
          f_X10_line_144   S9))
      else (
        f_X10_line_144   S9)))
def f_X10_line_0   (S : St) : Option (Int32 × St) :=
  if (rd S 0 25) = 1 then (
    lt ((rd S 0 26) : Int32) fun y2 =>
    ck y2 4 <|
    if (rd S 16 y2.toNatClampNeg) = 0 then (
      lt (up S 16 y2.toNatClampNeg (zb 1)) fun S5 =>
      if (rd S5 0 32) = 0 then (
        lt (up S5 0 33 y2) fun S7 =>
        f_X10_line_61  y2 S7)
      else (
        f_X10_line_61  y2 S5))
    else (
      bI (m_X10_wrong 3 (rd S 0 27) S) fun r9 S8 =>
      ckz r9 <|
      some (r9, S8)))
  else (
    bI (m_X10_wrong 1 (rd S 0 27) S) fun r12 S11 =>
    ckz r12 <|
    some (r12, S11))
def m_X10_line  (S : St) : Option (Int32 × St) := f_X10_line_0  S
def rm_X10_line : Room := { frames := 3, cells := 0, slots := 0, locals := 68 }
set_option maxRecDepth 20000 in
set_option maxHeartbeats 2000000 in
theorem t_X10_line_144 {x : Ctx} (C : Cx x WM cX10_line RX10 3 rm_X10_line (some .boolean)) {res : Int32 × St}   (S : St) (h : f_X10_line_144   S = some res) : V x WM 3 (QI x WM res) S 144 [(0, .ref (xq x 0))] [] := by
  unfold f_X10_line_144 at h
  refine v_aload_n C 0 dX10_line_144 rfl rfl (n := 145) rfl ?_
  refine v_bipush (v := 59) C dX10_line_145 (by decide) (n := 147) rfl ?_
  obtain ⟨r2, S1, eS1, h⟩ := bI_e h
  refine v_callVI (As := [.int 59]) C (c_X10_sign 59 S eS1) mf_X10_sign w_14_1 (oX10 _ _ _) rfl ⟨rfl, rfl, by decide, by decide⟩ rfl rfl (Nat.le_of_ble_eq_true rfl) dX10_line_147 (n := 150) rfl ?_
  obtain ⟨hz3, h⟩ := ckz_e h
  obtain rfl := Option.some.inj h
  exact v_zret C hz3 dX10_line_150
set_option maxRecDepth 20000 in
set_option maxHeartbeats 2000000 in
theorem t_X10_line_61 {x : Ctx} (C : Cx x WM cX10_line RX10 3 rm_X10_line (some .boolean)) {res : Int32 × St}  (x1 : Int32) (S : St) (h : f_X10_line_61  x1 S = some res) : V x WM 3 (QI x WM res) S 61 [(0, .ref (xq x 0)), (1, .int x1)] [] := by
  unfold f_X10_line_61 at h
  refine v_aload_n C 0 dX10_line_61 rfl rfl (n := 62) rfl ?_
  refine v_dup C dX10_line_62 rfl (n := 63) rfl ?_
  refine g_X10_readLines C w_12_17 dX10_line_63 (n := 66) rfl ?_
  refine v_iconst (v := 1) C dX10_line_66 (by decide) (n := 67) rfl ?_
  refine v_iadd C dX10_line_67 (n := 68) rfl ?_
  obtain ⟨S1, eS1, h⟩ := lt_e h
  refine p_X10_readLines C w_12_17 dX10_line_68 (n := 71) rfl eS1 ?_
  refine v_aload_n C 0 dX10_line_71 rfl rfl (n := 72) rfl ?_
  obtain ⟨S2, eS2, h⟩ := bV_e h
  refine v_callVV (As := []) C (c_X10_take  S1 eS2) mf_X10_take w_12_23 (oX10 _ _ _) rfl ⟨rfl, rfl, by decide, by decide⟩ rfl rfl (Nat.le_of_ble_eq_true rfl) dX10_line_72 (n := 75) rfl ?_
  refine v_bipush (v := 24) C dX10_line_75 (by decide) (n := 77) rfl ?_
  refine v_bipush (v := 6) C dX10_line_77 (by decide) (n := 79) rfl ?_
  refine v_iload_n C 1 dX10_line_79 rfl rfl (n := 80) rfl ?_
  refine v_imul C dX10_line_80 (n := 81) rfl ?_
  refine v_iadd C dX10_line_81 (n := 82) rfl ?_
  obtain ⟨y3, ey3, h⟩ := lt_e h
  refine v_istore_n (L' := [(2, .int y3), (0, .ref (xq x 0)), (1, .int x1)]) C dX10_line_82 rfl (by decide) rfl (n := 83) rfl ey3 ?_
  refine v_aload_n C 1 dX10_line_83 rfl rfl (n := 84) rfl ?_
  refine g_X10_act C w_7_7 dX10_line_84 (n := 87) rfl ?_
  refine v_iload_n C 0 dX10_line_87 rfl rfl (n := 88) rfl ?_
  refine v_iconst (v := 3) C dX10_line_88 (by decide) (n := 89) rfl ?_
  refine v_iadd C dX10_line_89 (n := 90) rfl ?_
  refine v_iconst (v := (-1)) C dX10_line_90 (by decide) (n := 91) rfl ?_
  obtain ⟨hi4, h⟩ := ck_e h
  obtain ⟨S5, eS5, h⟩ := lt_e h
  refine v_ast C aM_2 hi4 dX10_line_91 (n := 92) rfl eS5 ?_
  refine v_aload_n C 1 dX10_line_92 rfl rfl (n := 93) rfl ?_
  refine v_bipush (v := 58) C dX10_line_93 (by decide) (n := 95) rfl ?_
  obtain ⟨r7, S6, eS6, h⟩ := bI_e h
  refine v_callVI (As := [.int 58]) C (c_X10_sign 58 S5 eS6) mf_X10_sign w_14_1 (oX10 _ _ _) rfl ⟨rfl, rfl, by decide, by decide⟩ rfl rfl (Nat.le_of_ble_eq_true rfl) dX10_line_95 (n := 98) rfl ?_
  refine v_if_eq C dX10_line_98 (t := 109) (by decide) (n := 101) rfl (fun c8 => ?_) (fun c8 => ?_)
  · have h := ite_p c8 h
    refine v_iconst (v := 0) C dX10_line_109 (by decide) (n := 110) rfl ?_
    obtain rfl := Option.some.inj h
    exact v_zret C (Or.inl rfl) dX10_line_110
  · have h := ite_n c8 h
    refine v_aload_n C 1 dX10_line_101 rfl rfl (n := 102) rfl ?_
    refine v_iload_n C 0 dX10_line_102 rfl rfl (n := 103) rfl ?_
    obtain ⟨r10, S9, eS9, h⟩ := bI_e h
    refine v_callVI (As := [.int y3]) C (c_X10_actAt y3 S6 eS9) mf_X10_actAt w_14_5 (oX10 _ _ _) rfl ⟨rfl, rfl, by decide, by decide⟩ rfl rfl (Nat.le_of_ble_eq_true rfl) dX10_line_103 (n := 106) rfl ?_
    refine v_if_ne C dX10_line_106 (t := 111) (by decide) (n := 109) rfl (fun c11 => ?_) (fun c11 => ?_)
    · have h := ite_n c11 h
      refine v_aload_n C 1 dX10_line_111 rfl rfl (n := 112) rfl ?_
      refine g_X10_kind C w_12_19 dX10_line_112 (n := 115) rfl ?_
      refine v_iconst (v := 4) C dX10_line_115 (by decide) (n := 116) rfl ?_
      refine v_icmp_ne C dX10_line_116 (t := 144) (by decide) (n := 119) rfl (fun c12 => ?_) (fun c12 => ?_)
      · have h := ite_n c12 h
        refine v_sub [1] rfl ?_
        exact t_X10_line_144 C   S9 h
      · have h := ite_p c12 h
        refine v_aload_n C 1 dX10_line_119 rfl rfl (n := 120) rfl ?_
        refine g_X10_which C w_13_4 dX10_line_120 (n := 123) rfl ?_
        refine v_bipush (v := 124) C dX10_line_123 (by decide) (n := 125) rfl ?_
        refine v_icmp_ne C dX10_line_125 (t := 144) (by decide) (n := 128) rfl (fun c13 => ?_) (fun c13 => ?_)
        · have h := ite_n c13 h
          refine v_sub [1] rfl ?_
          exact t_X10_line_144 C   S9 h
        · have h := ite_p c13 h
          refine v_aload_n C 1 dX10_line_128 rfl rfl (n := 129) rfl ?_
          obtain ⟨S14, eS14, h⟩ := bV_e h
          refine v_callVV (As := []) C (c_X10_take  S9 eS14) mf_X10_take w_12_23 (oX10 _ _ _) rfl ⟨rfl, rfl, by decide, by decide⟩ rfl rfl (Nat.le_of_ble_eq_true rfl) dX10_line_129 (n := 132) rfl ?_
          refine v_aload_n C 1 dX10_line_132 rfl rfl (n := 133) rfl ?_
          refine v_iload_n C 0 dX10_line_133 rfl rfl (n := 134) rfl ?_
          refine v_iconst (v := 3) C dX10_line_134 (by decide) (n := 135) rfl ?_
          refine v_iadd C dX10_line_135 (n := 136) rfl ?_
          obtain ⟨r16, S15, eS15, h⟩ := bI_e h
          refine v_callVI (As := [.int (y3 + 3)]) C (c_X10_actAt (y3 + 3) S14 eS15) mf_X10_actAt w_14_5 (oX10 _ _ _) rfl ⟨rfl, rfl, by decide, by decide⟩ rfl rfl (Nat.le_of_ble_eq_true rfl) dX10_line_136 (n := 139) rfl ?_
          refine v_if_ne C dX10_line_139 (t := 144) (by decide) (n := 142) rfl (fun c17 => ?_) (fun c17 => ?_)
          · have h := ite_n c17 h
            refine v_sub [1] rfl ?_
            exact t_X10_line_144 C   S15 h
          · have h := ite_p c17 h
            refine v_iconst (v := 0) C dX10_line_142 (by decide) (n := 143) rfl ?_
            obtain rfl := Option.some.inj h
            exact v_zret C (Or.inl rfl) dX10_line_143
    · have h := ite_p c11 h
      refine v_iconst (v := 0) C dX10_line_109 (by decide) (n := 110) rfl ?_
      obtain rfl := Option.some.inj h
      exact v_zret C (Or.inl rfl) dX10_line_110
set_option maxRecDepth 20000 in
set_option maxHeartbeats 2000000 in
theorem t_X10_line_0 {x : Ctx} (C : Cx x WM cX10_line RX10 3 rm_X10_line (some .boolean)) {res : Int32 × St}   (S : St) (h : f_X10_line_0   S = some res) : V x WM 3 (QI x WM res) S 0 [(0, .ref (xq x 0))] [] := by
  unfold f_X10_line_0 at h
  refine v_aload_n C 0 dX10_line_0 rfl rfl (n := 1) rfl ?_
  refine g_X10_kind C w_12_19 dX10_line_1 (n := 4) rfl ?_
  refine v_iconst (v := 1) C dX10_line_4 (by decide) (n := 5) rfl ?_
  refine v_icmp_eq C dX10_line_5 (t := 18) (by decide) (n := 8) rfl (fun c1 => ?_) (fun c1 => ?_)
  · have h := ite_p c1 h
    refine v_aload_n C 0 dX10_line_18 rfl rfl (n := 19) rfl ?_
    refine g_X10_which C w_13_4 dX10_line_19 (n := 22) rfl ?_
    obtain ⟨y2, ey2, h⟩ := lt_e h
    refine v_istore_n (L' := [(1, .int y2), (0, .ref (xq x 0))]) C dX10_line_22 rfl (by decide) rfl (n := 23) rfl ey2 ?_
    refine v_aload_n C 1 dX10_line_23 rfl rfl (n := 24) rfl ?_
    refine g_X10_told C w_7_23 dX10_line_24 (n := 27) rfl ?_
    refine v_iload_n C 0 dX10_line_27 rfl rfl (n := 28) rfl ?_
    obtain ⟨hi3, h⟩ := ck_e h
    refine v_zld C aM_16 hi3 dX10_line_28 (n := 29) rfl ?_
    refine v_if_eq C dX10_line_29 (t := 42) (by decide) (n := 32) rfl (fun c4 => ?_) (fun c4 => ?_)
    · have h := ite_p c4 h
      refine v_aload_n C 1 dX10_line_42 rfl rfl (n := 43) rfl ?_
      refine g_X10_told C w_7_23 dX10_line_43 (n := 46) rfl ?_
      refine v_iload_n C 0 dX10_line_46 rfl rfl (n := 47) rfl ?_
      refine v_iconst (v := 1) C dX10_line_47 (by decide) (n := 48) rfl ?_
      obtain ⟨S5, eS5, h⟩ := lt_e h
      refine v_zst C aM_16 hi3 dX10_line_48 (n := 49) rfl eS5 ?_
      refine v_aload_n C 1 dX10_line_49 rfl rfl (n := 50) rfl ?_
      refine g_X10_readLines C w_12_17 dX10_line_50 (n := 53) rfl ?_
      refine v_if_ne C dX10_line_53 (t := 61) (by decide) (n := 56) rfl (fun c6 => ?_) (fun c6 => ?_)
      · have h := ite_n c6 h
        refine v_sub [1, 0] rfl ?_
        exact t_X10_line_61 C  y2 S5 h
      · have h := ite_p c6 h
        refine v_aload_n C 1 dX10_line_56 rfl rfl (n := 57) rfl ?_
        refine v_iload_n C 0 dX10_line_57 rfl rfl (n := 58) rfl ?_
        obtain ⟨S7, eS7, h⟩ := lt_e h
        refine p_X10_readFirst C w_12_21 dX10_line_58 (n := 61) rfl eS7 ?_
        refine v_sub [1, 0] rfl ?_
        exact t_X10_line_61 C  y2 S7 h
    · have h := ite_n c4 h
      refine v_aload_n C 1 dX10_line_32 rfl rfl (n := 33) rfl ?_
      refine v_iconst (v := 3) C dX10_line_33 (by decide) (n := 34) rfl ?_
      refine v_aload_n C 1 dX10_line_34 rfl rfl (n := 35) rfl ?_
      refine g_X10_token C w_13_3 dX10_line_35 (n := 38) rfl ?_
      obtain ⟨r9, S8, eS8, h⟩ := bI_e h
      refine v_callVI (As := [.int 3, .int (rd S 0 27)]) C (c_X10_wrong 3 (rd S 0 27) S eS8) mf_X10_wrong w_13_21 (oX10 _ _ _) rfl ⟨rfl, rfl, by decide, by decide⟩ rfl rfl (Nat.le_of_ble_eq_true rfl) dX10_line_38 (n := 41) rfl ?_
      obtain ⟨hz10, h⟩ := ckz_e h
      obtain rfl := Option.some.inj h
      exact v_zret C hz10 dX10_line_41
  · have h := ite_n c1 h
    refine v_aload_n C 0 dX10_line_8 rfl rfl (n := 9) rfl ?_
    refine v_iconst (v := 1) C dX10_line_9 (by decide) (n := 10) rfl ?_
    refine v_aload_n C 0 dX10_line_10 rfl rfl (n := 11) rfl ?_
    refine g_X10_token C w_13_3 dX10_line_11 (n := 14) rfl ?_
    obtain ⟨r12, S11, eS11, h⟩ := bI_e h
    refine v_callVI (As := [.int 1, .int (rd S 0 27)]) C (c_X10_wrong 1 (rd S 0 27) S eS11) mf_X10_wrong w_13_21 (oX10 _ _ _) rfl ⟨rfl, rfl, by decide, by decide⟩ rfl rfl (Nat.le_of_ble_eq_true rfl) dX10_line_14 (n := 17) rfl ?_
    obtain ⟨hz13, h⟩ := ckz_e h
    obtain rfl := Option.some.inj h
    exact v_zret C hz13 dX10_line_17
theorem c_X10_line {l : Launch} {D : va_G} {q : Nat → Nat} {ar : Ar}  (S : St) {res : Int32 × St} (h : m_X10_line  S = some res) : MetI l D q ar WM yX10_line cX10_line 3 (some .boolean) rm_X10_line [.ref (q 0)] S res := by
  refine metI_of adrM (by decide +kernel) (Nat.le_of_ble_eq_true rfl) (fun x e1 e2 e3 e4 C => ?_)
  subst e1; subst e2; subst e3; subst e4
  exact v_sub [0] rfl (t_X10_line_0 C  S h)
theorem mf_X10_line : CalV yX10_line cX10_line 3 (some .boolean) RX10 0 := ⟨w_13_20, w_13_18, w_13_19, w_1_5, rfl, by decide +kernel, by decide +kernel, by decide +kernel⟩
/-! LabyrinthGardenModel.rules -/
def f_X10_rules_160 (k160 : Int32 → St → Option (Int32 × St)) (x2 : Int32) (S : St) : Option (Int32 × St) :=
  if 24 ≤ x2 then (
    some ((rd S 0 5), S))
  else (
    ck (24 + x2) 48 <|
    ck x2 48 <|
    lt (up S 2 x2.toNatClampNeg (rd S 2 (24 + x2).toNatClampNeg)) fun S4 =>
    lt (x2 + 1 : Int32) fun y5 =>
    k160 y5 S4)
def g_X10_rules_160  : Nat → Int32 → St → Option (Int32 × St)
  | 0 => fun _ _ => none
  | n + 1 => f_X10_rules_160 (g_X10_rules_160  n)
def f_X10_rules_97 (k97 : Int32 → St → Option (Int32 × St)) (x2 : Int32) (S : St) : Option (Int32 × St) :=
  if (rd S 0 28) ≤ x2 then (
    lt (up S 0 5 (rd S 0 32)) fun S2 =>
    lt (up S2 0 6 (rd S2 0 33)) fun S3 =>
    g_X10_rules_160  fuel 0 S3)
  else (
    ck x2 8 <|
    ck (rd S 14 x2.toNatClampNeg) 4 <|
    if (rd S 16 (rd S 14 x2.toNatClampNeg).toNatClampNeg) = 0 then (
      bI (m_X10_wrong 4 (rd S 15 x2.toNatClampNeg) S) fun r8 S7 =>
      some ((-1), S7))
    else (
      lt (x2 + 1 : Int32) fun y9 =>
      k97 y9 S))
def g_X10_rules_97  : Nat → Int32 → St → Option (Int32 × St)
  | 0 => fun _ _ => none
  | n + 1 => f_X10_rules_97 (g_X10_rules_97  n)
def f_X10_rules_79 (k79 : St → Option (Int32 × St))  (S : St) : Option (Int32 × St) :=
  if (rd S 0 25) = 0 then (
    g_X10_rules_97  fuel 0 S)
  else (
    bI (m_X10_line  S) fun r3 S2 =>
    if r3 = 0 then (
      some ((-1), S2))
    else (
      k79  S2))
def g_X10_rules_79  : Nat → St → Option (Int32 × St)
  | 0 => fun _ => none
  | n + 1 => f_X10_rules_79 (g_X10_rules_79  n)
def f_X10_rules_52 (k52 : Int32 → St → Option (Int32 × St)) (x2 : Int32) (S : St) : Option (Int32 × St) :=
  if 4 ≤ x2 then (
    lt (up S 0 24 0) fun S2 =>
    bV (m_X10_take  S2) fun S3 =>
    g_X10_rules_79  fuel  S3)
  else (
    ck x2 4 <|
    lt (up S 16 x2.toNatClampNeg (zb 0)) fun S5 =>
    lt (x2 + 1 : Int32) fun y6 =>
    k52 y6 S5)
def g_X10_rules_52  : Nat → Int32 → St → Option (Int32 × St)
  | 0 => fun _ _ => none
  | n + 1 => f_X10_rules_52 (g_X10_rules_52  n)
def f_X10_rules_0  (x1 : Int32) (S : St) : Option (Int32 × St) :=
  lt (up S 0 2 0) fun S1 =>
  if x1 < 0 then (
    some ((-2), S1))
  else (
    if x1 ≤ (rd S1 0 1) then (
      lt (up S1 0 23 x1) fun S4 =>
      lt (up S4 0 1 0) fun S5 =>
      lt (up S5 0 3 0) fun S6 =>
      lt (up S6 0 4 (-1)) fun S7 =>
      lt (up S7 0 28 0) fun S8 =>
      lt (up S8 0 32 0) fun S9 =>
      g_X10_rules_52  fuel 0 S9)
    else (
      some ((-2), S1)))
def m_X10_rules (a1 : Int32) (S : St) : Option (Int32 × St) := f_X10_rules_0 a1 S
def rm_X10_rules : Room := { frames := 4, cells := 0, slots := 0, locals := 90 }
set_option maxRecDepth 20000 in
set_option maxHeartbeats 2000000 in
theorem t_X10_rules_160 {x : Ctx} (C : Cx x WM cX10_rules RX10 4 rm_X10_rules (some .int)) {res : Int32 × St} {k160 : Int32 → St → Option (Int32 × St)} (hk160 : ∀ (x2 : Int32) (S : St), k160 x2 S = some res → V x WM 4 (QI x WM res) S 160 [(0, .ref (xq x 0)), (2, .int x2)] []) (x2 : Int32) (S : St) (h : f_X10_rules_160 k160 x2 S = some res) : V x WM 4 (QI x WM res) S 160 [(0, .ref (xq x 0)), (2, .int x2)] [] := by
  unfold f_X10_rules_160 at h
  refine v_iload_n C 1 dX10_rules_160 rfl rfl (n := 161) rfl ?_
  refine v_bipush (v := 24) C dX10_rules_161 (by decide) (n := 163) rfl ?_
  refine v_icmp_ge C dX10_rules_163 (t := 187) (by decide) (n := 166) rfl (fun c1 => ?_) (fun c1 => ?_)
  · have h := ite_p c1 h
    refine v_aload_n C 0 dX10_rules_187 rfl rfl (n := 188) rfl ?_
    refine g_X10_lines C w_12_20 dX10_rules_188 (n := 191) rfl ?_
    obtain rfl := Option.some.inj h
    exact v_iret C dX10_rules_191
  · have h := ite_n c1 h
    refine v_aload_n C 0 dX10_rules_166 rfl rfl (n := 167) rfl ?_
    refine g_X10_act C w_7_7 dX10_rules_167 (n := 170) rfl ?_
    refine v_iload_n C 1 dX10_rules_170 rfl rfl (n := 171) rfl ?_
    refine v_aload_n C 0 dX10_rules_171 rfl rfl (n := 172) rfl ?_
    refine g_X10_act C w_7_7 dX10_rules_172 (n := 175) rfl ?_
    refine v_bipush (v := 24) C dX10_rules_175 (by decide) (n := 177) rfl ?_
    refine v_iload_n C 1 dX10_rules_177 rfl rfl (n := 178) rfl ?_
    refine v_iadd C dX10_rules_178 (n := 179) rfl ?_
    obtain ⟨hi2, h⟩ := ck_e h
    refine v_ald C aM_2 hi2 dX10_rules_179 (n := 180) rfl ?_
    obtain ⟨hi3, h⟩ := ck_e h
    obtain ⟨S4, eS4, h⟩ := lt_e h
    refine v_ast C aM_2 hi3 dX10_rules_180 (n := 181) rfl eS4 ?_
    obtain ⟨y5, ey5, h⟩ := lt_e h
    refine v_iinc (L' := [(2, .int y5), (0, .ref (xq x 0))]) C 1 dX10_rules_181 rfl (by rw [ey5]; rfl) (by decide) rfl (n := 184) rfl ?_
    refine v_goto C dX10_rules_184 (n := 160) (by decide) ?_
    refine v_sub [1, 0] rfl ?_
    exact hk160 y5 S4 h
theorem tg_X10_rules_160 {x : Ctx} (C : Cx x WM cX10_rules RX10 4 rm_X10_rules (some .int)) {res : Int32 × St}  : ∀ (n : Nat) (x2 : Int32) (S : St), g_X10_rules_160  n x2 S = some res → V x WM 4 (QI x WM res) S 160 [(0, .ref (xq x 0)), (2, .int x2)] [] := by
  intro n
  induction n with
  | zero => intro x2 S h; cases h
  | succ n ih => intro x2 S h; exact t_X10_rules_160 C (fun x2 S h => ih x2 S h) x2 S h
set_option maxRecDepth 20000 in
set_option maxHeartbeats 2000000 in
theorem t_X10_rules_97 {x : Ctx} (C : Cx x WM cX10_rules RX10 4 rm_X10_rules (some .int)) {res : Int32 × St} {k97 : Int32 → St → Option (Int32 × St)} (hk97 : ∀ (x2 : Int32) (S : St), k97 x2 S = some res → V x WM 4 (QI x WM res) S 97 [(0, .ref (xq x 0)), (2, .int x2)] []) (x2 : Int32) (S : St) (h : f_X10_rules_97 k97 x2 S = some res) : V x WM 4 (QI x WM res) S 97 [(0, .ref (xq x 0)), (2, .int x2)] [] := by
  unfold f_X10_rules_97 at h
  refine v_iload_n C 1 dX10_rules_97 rfl rfl (n := 98) rfl ?_
  refine v_aload_n C 0 dX10_rules_98 rfl rfl (n := 99) rfl ?_
  refine g_X10_named C w_12_16 dX10_rules_99 (n := 102) rfl ?_
  refine v_icmp_ge C dX10_rules_102 (t := 142) (by decide) (n := 105) rfl (fun c1 => ?_) (fun c1 => ?_)
  · have h := ite_p c1 h
    refine v_aload_n C 0 dX10_rules_142 rfl rfl (n := 143) rfl ?_
    refine v_aload_n C 0 dX10_rules_143 rfl rfl (n := 144) rfl ?_
    refine g_X10_readLines C w_12_17 dX10_rules_144 (n := 147) rfl ?_
    obtain ⟨S2, eS2, h⟩ := lt_e h
    refine p_X10_lines C w_12_20 dX10_rules_147 (n := 150) rfl eS2 ?_
    refine v_aload_n C 0 dX10_rules_150 rfl rfl (n := 151) rfl ?_
    refine v_aload_n C 0 dX10_rules_151 rfl rfl (n := 152) rfl ?_
    refine g_X10_readFirst C w_12_21 dX10_rules_152 (n := 155) rfl ?_
    obtain ⟨S3, eS3, h⟩ := lt_e h
    refine p_X10_first C w_12_22 dX10_rules_155 (n := 158) rfl eS3 ?_
    refine v_iconst (v := 0) C dX10_rules_158 (by decide) (n := 159) rfl ?_
    refine v_istore_n (L' := [(2, .int 0), (0, .ref (xq x 0))]) C dX10_rules_159 rfl (by decide) rfl (n := 160) rfl rfl ?_
    refine v_sub [1, 0] rfl ?_
    exact tg_X10_rules_160 C  fuel 0 S3 h
  · have h := ite_n c1 h
    refine v_aload_n C 0 dX10_rules_105 rfl rfl (n := 106) rfl ?_
    refine g_X10_told C w_7_23 dX10_rules_106 (n := 109) rfl ?_
    refine v_aload_n C 0 dX10_rules_109 rfl rfl (n := 110) rfl ?_
    refine g_X10_namedState C w_7_21 dX10_rules_110 (n := 113) rfl ?_
    refine v_iload_n C 1 dX10_rules_113 rfl rfl (n := 114) rfl ?_
    obtain ⟨hi4, h⟩ := ck_e h
    refine v_ald C aM_14 hi4 dX10_rules_114 (n := 115) rfl ?_
    obtain ⟨hi5, h⟩ := ck_e h
    refine v_zld C aM_16 hi5 dX10_rules_115 (n := 116) rfl ?_
    refine v_if_eq C dX10_rules_116 (t := 122) (by decide) (n := 119) rfl (fun c6 => ?_) (fun c6 => ?_)
    · have h := ite_p c6 h
      refine v_aload_n C 0 dX10_rules_122 rfl rfl (n := 123) rfl ?_
      refine v_iconst (v := 4) C dX10_rules_123 (by decide) (n := 124) rfl ?_
      refine v_aload_n C 0 dX10_rules_124 rfl rfl (n := 125) rfl ?_
      refine g_X10_namedPlace C w_7_22 dX10_rules_125 (n := 128) rfl ?_
      refine v_iload_n C 1 dX10_rules_128 rfl rfl (n := 129) rfl ?_
      refine v_ald C aM_15 hi4 dX10_rules_129 (n := 130) rfl ?_
      obtain ⟨r8, S7, eS7, h⟩ := bI_e h
      refine v_callVI (As := [.int 4, .int (rd S 15 x2.toNatClampNeg)]) C (c_X10_wrong 4 (rd S 15 x2.toNatClampNeg) S eS7) mf_X10_wrong w_13_21 (oX10 _ _ _) rfl ⟨rfl, rfl, by decide, by decide⟩ rfl rfl (Nat.le_of_ble_eq_true rfl) dX10_rules_130 (n := 133) rfl ?_
      refine v_istore_n (L' := [(3, .int r8), (0, .ref (xq x 0)), (2, .int x2)]) C dX10_rules_133 rfl (by decide) rfl (n := 134) rfl rfl ?_
      refine v_iconst (v := (-1)) C dX10_rules_134 (by decide) (n := 135) rfl ?_
      obtain rfl := Option.some.inj h
      exact v_iret C dX10_rules_135
    · have h := ite_n c6 h
      refine v_goto C dX10_rules_119 (n := 136) (by decide) ?_
      obtain ⟨y9, ey9, h⟩ := lt_e h
      refine v_iinc (L' := [(2, .int y9), (0, .ref (xq x 0))]) C 1 dX10_rules_136 rfl (by rw [ey9]; rfl) (by decide) rfl (n := 139) rfl ?_
      refine v_goto C dX10_rules_139 (n := 97) (by decide) ?_
      refine v_sub [1, 0] rfl ?_
      exact hk97 y9 S h
theorem tg_X10_rules_97 {x : Ctx} (C : Cx x WM cX10_rules RX10 4 rm_X10_rules (some .int)) {res : Int32 × St}  : ∀ (n : Nat) (x2 : Int32) (S : St), g_X10_rules_97  n x2 S = some res → V x WM 4 (QI x WM res) S 97 [(0, .ref (xq x 0)), (2, .int x2)] [] := by
  intro n
  induction n with
  | zero => intro x2 S h; cases h
  | succ n ih => intro x2 S h; exact t_X10_rules_97 C (fun x2 S h => ih x2 S h) x2 S h
set_option maxRecDepth 20000 in
set_option maxHeartbeats 2000000 in
theorem t_X10_rules_79 {x : Ctx} (C : Cx x WM cX10_rules RX10 4 rm_X10_rules (some .int)) {res : Int32 × St} {k79 : St → Option (Int32 × St)} (hk79 : ∀  (S : St), k79  S = some res → V x WM 4 (QI x WM res) S 79 [(0, .ref (xq x 0))] [])  (S : St) (h : f_X10_rules_79 k79  S = some res) : V x WM 4 (QI x WM res) S 79 [(0, .ref (xq x 0))] [] := by
  unfold f_X10_rules_79 at h
  refine v_aload_n C 0 dX10_rules_79 rfl rfl (n := 80) rfl ?_
  refine g_X10_kind C w_12_19 dX10_rules_80 (n := 83) rfl ?_
  refine v_if_eq C dX10_rules_83 (t := 95) (by decide) (n := 86) rfl (fun c1 => ?_) (fun c1 => ?_)
  · have h := ite_p c1 h
    refine v_iconst (v := 0) C dX10_rules_95 (by decide) (n := 96) rfl ?_
    refine v_istore_n (L' := [(2, .int 0), (0, .ref (xq x 0))]) C dX10_rules_96 rfl (by decide) rfl (n := 97) rfl rfl ?_
    refine v_sub [1, 0] rfl ?_
    exact tg_X10_rules_97 C  fuel 0 S h
  · have h := ite_n c1 h
    refine v_aload_n C 0 dX10_rules_86 rfl rfl (n := 87) rfl ?_
    obtain ⟨r3, S2, eS2, h⟩ := bI_e h
    refine v_callVI (As := []) C (c_X10_line  S eS2) mf_X10_line w_13_17 (oX10 _ _ _) rfl ⟨rfl, rfl, by decide, by decide⟩ rfl rfl (Nat.le_of_ble_eq_true rfl) dX10_rules_87 (n := 90) rfl ?_
    refine v_if_ne C dX10_rules_90 (t := 79) (by decide) (n := 93) rfl (fun c4 => ?_) (fun c4 => ?_)
    · have h := ite_n c4 h
      refine v_sub [0] rfl ?_
      exact hk79  S2 h
    · have h := ite_p c4 h
      refine v_iconst (v := (-1)) C dX10_rules_93 (by decide) (n := 94) rfl ?_
      obtain rfl := Option.some.inj h
      exact v_iret C dX10_rules_94
theorem tg_X10_rules_79 {x : Ctx} (C : Cx x WM cX10_rules RX10 4 rm_X10_rules (some .int)) {res : Int32 × St}  : ∀ (n : Nat)  (S : St), g_X10_rules_79  n  S = some res → V x WM 4 (QI x WM res) S 79 [(0, .ref (xq x 0))] [] := by
  intro n
  induction n with
  | zero => intro  S h; cases h
  | succ n ih => intro  S h; exact t_X10_rules_79 C (fun  S h => ih  S h)  S h
set_option maxRecDepth 20000 in
set_option maxHeartbeats 2000000 in
theorem t_X10_rules_52 {x : Ctx} (C : Cx x WM cX10_rules RX10 4 rm_X10_rules (some .int)) {res : Int32 × St} {k52 : Int32 → St → Option (Int32 × St)} (hk52 : ∀ (x2 : Int32) (S : St), k52 x2 S = some res → V x WM 4 (QI x WM res) S 52 [(0, .ref (xq x 0)), (2, .int x2)] []) (x2 : Int32) (S : St) (h : f_X10_rules_52 k52 x2 S = some res) : V x WM 4 (QI x WM res) S 52 [(0, .ref (xq x 0)), (2, .int x2)] [] := by
  unfold f_X10_rules_52 at h
  refine v_iload_n C 1 dX10_rules_52 rfl rfl (n := 53) rfl ?_
  refine v_iconst (v := 4) C dX10_rules_53 (by decide) (n := 54) rfl ?_
  refine v_icmp_ge C dX10_rules_54 (t := 70) (by decide) (n := 57) rfl (fun c1 => ?_) (fun c1 => ?_)
  · have h := ite_p c1 h
    refine v_aload_n C 0 dX10_rules_70 rfl rfl (n := 71) rfl ?_
    refine v_iconst (v := 0) C dX10_rules_71 (by decide) (n := 72) rfl ?_
    obtain ⟨S2, eS2, h⟩ := lt_e h
    refine p_X10_next C w_12_18 dX10_rules_72 (n := 75) rfl eS2 ?_
    refine v_aload_n C 0 dX10_rules_75 rfl rfl (n := 76) rfl ?_
    obtain ⟨S3, eS3, h⟩ := bV_e h
    refine v_callVV (As := []) C (c_X10_take  S2 eS3) mf_X10_take w_12_23 (oX10 _ _ _) rfl ⟨rfl, rfl, by decide, by decide⟩ rfl rfl (Nat.le_of_ble_eq_true rfl) dX10_rules_76 (n := 79) rfl ?_
    refine v_sub [0] rfl ?_
    exact tg_X10_rules_79 C  fuel  S3 h
  · have h := ite_n c1 h
    refine v_aload_n C 0 dX10_rules_57 rfl rfl (n := 58) rfl ?_
    refine g_X10_told C w_7_23 dX10_rules_58 (n := 61) rfl ?_
    refine v_iload_n C 1 dX10_rules_61 rfl rfl (n := 62) rfl ?_
    refine v_iconst (v := 0) C dX10_rules_62 (by decide) (n := 63) rfl ?_
    obtain ⟨hi4, h⟩ := ck_e h
    obtain ⟨S5, eS5, h⟩ := lt_e h
    refine v_zst C aM_16 hi4 dX10_rules_63 (n := 64) rfl eS5 ?_
    obtain ⟨y6, ey6, h⟩ := lt_e h
    refine v_iinc (L' := [(2, .int y6), (0, .ref (xq x 0))]) C 1 dX10_rules_64 rfl (by rw [ey6]; rfl) (by decide) rfl (n := 67) rfl ?_
    refine v_goto C dX10_rules_67 (n := 52) (by decide) ?_
    refine v_sub [1, 0] rfl ?_
    exact hk52 y6 S5 h
theorem tg_X10_rules_52 {x : Ctx} (C : Cx x WM cX10_rules RX10 4 rm_X10_rules (some .int)) {res : Int32 × St}  : ∀ (n : Nat) (x2 : Int32) (S : St), g_X10_rules_52  n x2 S = some res → V x WM 4 (QI x WM res) S 52 [(0, .ref (xq x 0)), (2, .int x2)] [] := by
  intro n
  induction n with
  | zero => intro x2 S h; cases h
  | succ n ih => intro x2 S h; exact t_X10_rules_52 C (fun x2 S h => ih x2 S h) x2 S h
set_option maxRecDepth 20000 in
set_option maxHeartbeats 2000000 in
theorem t_X10_rules_0 {x : Ctx} (C : Cx x WM cX10_rules RX10 4 rm_X10_rules (some .int)) {res : Int32 × St}  (x1 : Int32) (S : St) (h : f_X10_rules_0  x1 S = some res) : V x WM 4 (QI x WM res) S 0 [(0, .ref (xq x 0)), (1, .int x1)] [] := by
  unfold f_X10_rules_0 at h
  refine v_aload_n C 0 dX10_rules_0 rfl rfl (n := 1) rfl ?_
  refine v_iconst (v := 0) C dX10_rules_1 (by decide) (n := 2) rfl ?_
  obtain ⟨S1, eS1, h⟩ := lt_e h
  refine p_X10_thrown C w_9_5 dX10_rules_2 (n := 5) rfl eS1 ?_
  refine v_iload_n C 1 dX10_rules_5 rfl rfl (n := 6) rfl ?_
  refine v_if_lt C dX10_rules_6 (t := 17) (by decide) (n := 9) rfl (fun c2 => ?_) (fun c2 => ?_)
  · have h := ite_p c2 h
    refine v_bipush (v := (-2)) C dX10_rules_17 (by decide) (n := 19) rfl ?_
    obtain rfl := Option.some.inj h
    exact v_iret C dX10_rules_19
  · have h := ite_n c2 h
    refine v_iload_n C 1 dX10_rules_9 rfl rfl (n := 10) rfl ?_
    refine v_aload_n C 0 dX10_rules_10 rfl rfl (n := 11) rfl ?_
    refine g_X10_tapeSize C w_9_6 dX10_rules_11 (n := 14) rfl ?_
    refine v_icmp_le C dX10_rules_14 (t := 20) (by decide) (n := 17) rfl (fun c3 => ?_) (fun c3 => ?_)
    · have h := ite_p c3 h
      refine v_aload_n C 0 dX10_rules_20 rfl rfl (n := 21) rfl ?_
      refine v_iload_n C 1 dX10_rules_21 rfl rfl (n := 22) rfl ?_
      obtain ⟨S4, eS4, h⟩ := lt_e h
      refine p_X10_stop C w_12_14 dX10_rules_22 (n := 25) rfl eS4 ?_
      refine v_aload_n C 0 dX10_rules_25 rfl rfl (n := 26) rfl ?_
      refine v_iconst (v := 0) C dX10_rules_26 (by decide) (n := 27) rfl ?_
      obtain ⟨S5, eS5, h⟩ := lt_e h
      refine p_X10_tapeSize C w_9_6 dX10_rules_27 (n := 30) rfl eS5 ?_
      refine v_aload_n C 0 dX10_rules_30 rfl rfl (n := 31) rfl ?_
      refine v_iconst (v := 0) C dX10_rules_31 (by decide) (n := 32) rfl ?_
      obtain ⟨S6, eS6, h⟩ := lt_e h
      refine p_X10_fault C w_12_15 dX10_rules_32 (n := 35) rfl eS6 ?_
      refine v_aload_n C 0 dX10_rules_35 rfl rfl (n := 36) rfl ?_
      refine v_iconst (v := (-1)) C dX10_rules_36 (by decide) (n := 37) rfl ?_
      obtain ⟨S7, eS7, h⟩ := lt_e h
      refine p_X10_faultPlace C w_7_6 dX10_rules_37 (n := 40) rfl eS7 ?_
      refine v_aload_n C 0 dX10_rules_40 rfl rfl (n := 41) rfl ?_
      refine v_iconst (v := 0) C dX10_rules_41 (by decide) (n := 42) rfl ?_
      obtain ⟨S8, eS8, h⟩ := lt_e h
      refine p_X10_named C w_12_16 dX10_rules_42 (n := 45) rfl eS8 ?_
      refine v_aload_n C 0 dX10_rules_45 rfl rfl (n := 46) rfl ?_
      refine v_iconst (v := 0) C dX10_rules_46 (by decide) (n := 47) rfl ?_
      obtain ⟨S9, eS9, h⟩ := lt_e h
      refine p_X10_readLines C w_12_17 dX10_rules_47 (n := 50) rfl eS9 ?_
      refine v_iconst (v := 0) C dX10_rules_50 (by decide) (n := 51) rfl ?_
      refine v_istore_n (L' := [(2, .int 0), (0, .ref (xq x 0)), (1, .int x1)]) C dX10_rules_51 rfl (by decide) rfl (n := 52) rfl rfl ?_
      refine v_sub [1, 0] rfl ?_
      exact tg_X10_rules_52 C  fuel 0 S9 h
    · have h := ite_n c3 h
      refine v_bipush (v := (-2)) C dX10_rules_17 (by decide) (n := 19) rfl ?_
      obtain rfl := Option.some.inj h
      exact v_iret C dX10_rules_19
theorem c_X10_rules {l : Launch} {D : va_G} {q : Nat → Nat} {ar : Ar} (a1 : Int32) (S : St) {res : Int32 × St} (h : m_X10_rules a1 S = some res) : MetI l D q ar WM yX10_rules cX10_rules 4 (some .int) rm_X10_rules [.ref (q 0), .int a1] S res := by
  refine metI_of adrM (by decide +kernel) (Nat.le_of_ble_eq_true rfl) (fun x e1 e2 e3 e4 C => ?_)
  subst e1; subst e2; subst e3; subst e4
  exact v_sub [0, 1] rfl (t_X10_rules_0 C a1 S h)
theorem mf_X10_rules : CalV yX10_rules cX10_rules 4 (some .int) RX10 1 := ⟨w_12_13, w_12_11, w_12_12, w_1_5, rfl, by decide +kernel, by decide +kernel, by decide +kernel⟩
/-! LabyrinthGardenModel.fault -/
def f_X10_fault_0  (x1 : Int32) (S : St) : Option (Int32 × St) :=
  lt (up S 0 2 0) fun S1 =>
  if x1 = 0 then (
    some ((rd S1 0 3), S1))
  else (
    if x1 = 1 then (
      some ((rd S1 0 4), S1))
    else (
      some ((-1), S1)))
def m_X10_fault (a1 : Int32) (S : St) : Option (Int32 × St) := f_X10_fault_0 a1 S
def rm_X10_fault : Room := { frames := 0, cells := 0, slots := 0, locals := 0 }
set_option maxRecDepth 20000 in
set_option maxHeartbeats 2000000 in
theorem t_X10_fault_0 {x : Ctx} (C : Cx x WM cX10_fault RX10 2 rm_X10_fault (some .int)) {res : Int32 × St}  (x1 : Int32) (S : St) (h : f_X10_fault_0  x1 S = some res) : V x WM 2 (QI x WM res) S 0 [(0, .ref (xq x 0)), (1, .int x1)] [] := by
  unfold f_X10_fault_0 at h
  refine v_aload_n C 0 dX10_fault_0 rfl rfl (n := 1) rfl ?_
  refine v_iconst (v := 0) C dX10_fault_1 (by decide) (n := 2) rfl ?_
  obtain ⟨S1, eS1, h⟩ := lt_e h
  refine p_X10_thrown C w_9_5 dX10_fault_2 (n := 5) rfl eS1 ?_
  refine v_iload_n C 1 dX10_fault_5 rfl rfl (n := 6) rfl ?_
  refine v_if_ne C dX10_fault_6 (t := 16) (by decide) (n := 9) rfl (fun c2 => ?_) (fun c2 => ?_)
  · have h := ite_n c2 h
    refine v_iload_n C 1 dX10_fault_16 rfl rfl (n := 17) rfl ?_
    refine v_iconst (v := 1) C dX10_fault_17 (by decide) (n := 18) rfl ?_
    refine v_icmp_ne C dX10_fault_18 (t := 28) (by decide) (n := 21) rfl (fun c3 => ?_) (fun c3 => ?_)
    · have h := ite_n c3 h
      refine v_iconst (v := (-1)) C dX10_fault_28 (by decide) (n := 29) rfl ?_
      obtain rfl := Option.some.inj h
      exact v_iret C dX10_fault_29
    · have h := ite_p c3 h
      refine v_aload_n C 0 dX10_fault_21 rfl rfl (n := 22) rfl ?_
      refine g_X10_faultPlace C w_7_6 dX10_fault_22 (n := 25) rfl ?_
      refine v_goto C dX10_fault_25 (n := 29) (by decide) ?_
      obtain rfl := Option.some.inj h
      exact v_iret C dX10_fault_29
  · have h := ite_p c2 h
    refine v_aload_n C 0 dX10_fault_9 rfl rfl (n := 10) rfl ?_
    refine g_X10_fault C w_12_15 dX10_fault_10 (n := 13) rfl ?_
    refine v_goto C dX10_fault_13 (n := 29) (by decide) ?_
    obtain rfl := Option.some.inj h
    exact v_iret C dX10_fault_29
theorem c_X10_fault {l : Launch} {D : va_G} {q : Nat → Nat} {ar : Ar} (a1 : Int32) (S : St) {res : Int32 × St} (h : m_X10_fault a1 S = some res) : MetI l D q ar WM yX10_fault cX10_fault 2 (some .int) rm_X10_fault [.ref (q 0), .int a1] S res := by
  refine metI_of adrM (by decide +kernel) (Nat.le_of_ble_eq_true rfl) (fun x e1 e2 e3 e4 C => ?_)
  subst e1; subst e2; subst e3; subst e4
  exact v_sub [0, 1] rfl (t_X10_fault_0 C a1 S h)
theorem mf_X10_fault : CalV yX10_fault cX10_fault 2 (some .int) RX10 1 := ⟨w_14_17, w_14_15, w_14_16, w_1_5, rfl, by decide +kernel, by decide +kernel, by decide +kernel⟩
/-! LabyrinthGardenModel.number -/
def f_X10_number_34 (k7 : Int32 → St → Option (St)) (k34 : Int32 → Int32 → St → Option (St)) (x1 : Int32) (x2 : Int32) (S : St) : Option (St) :=
  if (2 * (rd S 0 11)) ≤ x2 then (
    lt (x1 + 1 : Int32) fun y2 =>
    k7 y2 S)
  else (
    ck x2 24 <|
    if (rd S 5 x2.toNatClampNeg) = x1 then (
      ck (rd S 0 16) 24 <|
      lt (up S 8 (rd S 0 16).toNatClampNeg x1) fun S6 =>
      ck (rd S6 0 16) 24 <|
      lt (up S6 9 (rd S6 0 16).toNatClampNeg x2) fun S8 =>
      lt (up S8 10 x2.toNatClampNeg (rd S8 0 16)) fun S9 =>
      lt (up S9 0 16 ((rd S9 0 16) + 1)) fun S10 =>
      ck x1 8 <|
      lt (up S10 11 x1.toNatClampNeg ((rd S10 11 x1.toNatClampNeg) + 1)) fun S12 =>
      lt (x2 + 1 : Int32) fun y13 =>
      k34 x1 y13 S12)
    else (
      lt (x2 + 1 : Int32) fun y14 =>
      k34 x1 y14 S))
def g_X10_number_34 (k7 : Int32 → St → Option (St)) : Nat → Int32 → Int32 → St → Option (St)
  | 0 => fun _ _ _ => none
  | n + 1 => f_X10_number_34 k7 (g_X10_number_34 k7 n)
def f_X10_number_7 (k7 : Int32 → St → Option (St)) (x1 : Int32) (S : St) : Option (St) :=
  if (rd S 0 8) ≤ x1 then (
    some S)
  else (
    ck x1 8 <|
    lt (up S 12 x1.toNatClampNeg (rd S 0 16)) fun S3 =>
    lt (up S3 11 x1.toNatClampNeg 0) fun S4 =>
    g_X10_number_34 k7 fuel x1 0 S4)
def g_X10_number_7  : Nat → Int32 → St → Option (St)
  | 0 => fun _ _ => none
  | n + 1 => f_X10_number_7 (g_X10_number_7  n)
def f_X10_number_0   (S : St) : Option (St) :=
  lt (up S 0 16 0) fun S1 =>
  g_X10_number_7  fuel 0 S1
def m_X10_number  (S : St) : Option (St) := f_X10_number_0  S
def rm_X10_number : Room := { frames := 0, cells := 0, slots := 0, locals := 0 }
set_option maxRecDepth 20000 in
set_option maxHeartbeats 2000000 in
theorem t_X10_number_34 {x : Ctx} (C : Cx x WM cX10_number RX10 3 rm_X10_number none) {res : St} {k7 : Int32 → St → Option (St)} (hk7 : ∀ (x1 : Int32) (S : St), k7 x1 S = some res → V x WM 3 (QV x WM res) S 7 [(0, .ref (xq x 0)), (1, .int x1)] []) {k34 : Int32 → Int32 → St → Option (St)} (hk34 : ∀ (x1 : Int32) (x2 : Int32) (S : St), k34 x1 x2 S = some res → V x WM 3 (QV x WM res) S 34 [(0, .ref (xq x 0)), (1, .int x1), (2, .int x2)] []) (x1 : Int32) (x2 : Int32) (S : St) (h : f_X10_number_34 k7 k34 x1 x2 S = some res) : V x WM 3 (QV x WM res) S 34 [(0, .ref (xq x 0)), (1, .int x1), (2, .int x2)] [] := by
  unfold f_X10_number_34 at h
  refine v_iload_n C 2 dX10_number_34 rfl rfl (n := 35) rfl ?_
  refine v_iconst (v := 2) C dX10_number_35 (by decide) (n := 36) rfl ?_
  refine v_aload_n C 0 dX10_number_36 rfl rfl (n := 37) rfl ?_
  refine g_X10_paths C w_15_11 dX10_number_37 (n := 40) rfl ?_
  refine v_imul C dX10_number_40 (n := 41) rfl ?_
  refine v_icmp_ge C dX10_number_41 (t := 113) (by decide) (n := 44) rfl (fun c1 => ?_) (fun c1 => ?_)
  · have h := ite_p c1 h
    obtain ⟨y2, ey2, h⟩ := lt_e h
    refine v_iinc (L' := [(1, .int y2), (0, .ref (xq x 0)), (2, .int x2)]) C 1 dX10_number_113 rfl (by rw [ey2]; rfl) (by decide) rfl (n := 116) rfl ?_
    refine v_goto C dX10_number_116 (n := 7) (by decide) ?_
    refine v_sub [1, 0] rfl ?_
    exact hk7 y2 S h
  · have h := ite_n c1 h
    refine v_aload_n C 0 dX10_number_44 rfl rfl (n := 45) rfl ?_
    refine g_X10_end C w_7_11 dX10_number_45 (n := 48) rfl ?_
    refine v_iload_n C 2 dX10_number_48 rfl rfl (n := 49) rfl ?_
    obtain ⟨hi3, h⟩ := ck_e h
    refine v_ald C aM_5 hi3 dX10_number_49 (n := 50) rfl ?_
    refine v_iload_n C 1 dX10_number_50 rfl rfl (n := 51) rfl ?_
    refine v_icmp_eq C dX10_number_51 (t := 57) (by decide) (n := 54) rfl (fun c4 => ?_) (fun c4 => ?_)
    · have h := ite_p c4 h
      refine v_aload_n C 0 dX10_number_57 rfl rfl (n := 58) rfl ?_
      refine g_X10_at C w_7_15 dX10_number_58 (n := 61) rfl ?_
      refine v_aload_n C 0 dX10_number_61 rfl rfl (n := 62) rfl ?_
      refine g_X10_places C w_15_16 dX10_number_62 (n := 65) rfl ?_
      refine v_iload_n C 1 dX10_number_65 rfl rfl (n := 66) rfl ?_
      obtain ⟨hi5, h⟩ := ck_e h
      obtain ⟨S6, eS6, h⟩ := lt_e h
      refine v_ast C aM_8 hi5 dX10_number_66 (n := 67) rfl eS6 ?_
      refine v_aload_n C 0 dX10_number_67 rfl rfl (n := 68) rfl ?_
      refine g_X10_ends C w_7_16 dX10_number_68 (n := 71) rfl ?_
      refine v_aload_n C 0 dX10_number_71 rfl rfl (n := 72) rfl ?_
      refine g_X10_places C w_15_16 dX10_number_72 (n := 75) rfl ?_
      refine v_iload_n C 2 dX10_number_75 rfl rfl (n := 76) rfl ?_
      obtain ⟨hi7, h⟩ := ck_e h
      obtain ⟨S8, eS8, h⟩ := lt_e h
      refine v_ast C aM_9 hi7 dX10_number_76 (n := 77) rfl eS8 ?_
      refine v_aload_n C 0 dX10_number_77 rfl rfl (n := 78) rfl ?_
      refine g_X10_placeOf C w_7_17 dX10_number_78 (n := 81) rfl ?_
      refine v_iload_n C 2 dX10_number_81 rfl rfl (n := 82) rfl ?_
      refine v_aload_n C 0 dX10_number_82 rfl rfl (n := 83) rfl ?_
      refine g_X10_places C w_15_16 dX10_number_83 (n := 86) rfl ?_
      obtain ⟨S9, eS9, h⟩ := lt_e h
      refine v_ast C aM_10 hi3 dX10_number_86 (n := 87) rfl eS9 ?_
      refine v_aload_n C 0 dX10_number_87 rfl rfl (n := 88) rfl ?_
      refine v_dup C dX10_number_88 rfl (n := 89) rfl ?_
      refine g_X10_places C w_15_16 dX10_number_89 (n := 92) rfl ?_
      refine v_iconst (v := 1) C dX10_number_92 (by decide) (n := 93) rfl ?_
      refine v_iadd C dX10_number_93 (n := 94) rfl ?_
      obtain ⟨S10, eS10, h⟩ := lt_e h
      refine p_X10_places C w_15_16 dX10_number_94 (n := 97) rfl eS10 ?_
      refine v_aload_n C 0 dX10_number_97 rfl rfl (n := 98) rfl ?_
      refine g_X10_size C w_7_18 dX10_number_98 (n := 101) rfl ?_
      refine v_iload_n C 1 dX10_number_101 rfl rfl (n := 102) rfl ?_
      refine v_dup2 C dX10_number_102 rfl rfl (n := 103) rfl ?_
      obtain ⟨hi11, h⟩ := ck_e h
      refine v_ald C aM_11 hi11 dX10_number_103 (n := 104) rfl ?_
      refine v_iconst (v := 1) C dX10_number_104 (by decide) (n := 105) rfl ?_
      refine v_iadd C dX10_number_105 (n := 106) rfl ?_
      obtain ⟨S12, eS12, h⟩ := lt_e h
      refine v_ast C aM_11 hi11 dX10_number_106 (n := 107) rfl eS12 ?_
      obtain ⟨y13, ey13, h⟩ := lt_e h
      refine v_iinc (L' := [(2, .int y13), (0, .ref (xq x 0)), (1, .int x1)]) C 2 dX10_number_107 rfl (by rw [ey13]; rfl) (by decide) rfl (n := 110) rfl ?_
      refine v_goto C dX10_number_110 (n := 34) (by decide) ?_
      refine v_sub [1, 2, 0] rfl ?_
      exact hk34 x1 y13 S12 h
    · have h := ite_n c4 h
      refine v_goto C dX10_number_54 (n := 107) (by decide) ?_
      obtain ⟨y14, ey14, h⟩ := lt_e h
      refine v_iinc (L' := [(2, .int y14), (0, .ref (xq x 0)), (1, .int x1)]) C 2 dX10_number_107 rfl (by rw [ey14]; rfl) (by decide) rfl (n := 110) rfl ?_
      refine v_goto C dX10_number_110 (n := 34) (by decide) ?_
      refine v_sub [1, 2, 0] rfl ?_
      exact hk34 x1 y14 S h
theorem tg_X10_number_34 {x : Ctx} (C : Cx x WM cX10_number RX10 3 rm_X10_number none) {res : St} {k7 : Int32 → St → Option (St)} (hk7 : ∀ (x1 : Int32) (S : St), k7 x1 S = some res → V x WM 3 (QV x WM res) S 7 [(0, .ref (xq x 0)), (1, .int x1)] []) : ∀ (n : Nat) (x1 : Int32) (x2 : Int32) (S : St), g_X10_number_34 k7 n x1 x2 S = some res → V x WM 3 (QV x WM res) S 34 [(0, .ref (xq x 0)), (1, .int x1), (2, .int x2)] [] := by
  intro n
  induction n with
  | zero => intro x1 x2 S h; cases h
  | succ n ih => intro x1 x2 S h; exact t_X10_number_34 C hk7 (fun x1 x2 S h => ih x1 x2 S h) x1 x2 S h
set_option maxRecDepth 20000 in
set_option maxHeartbeats 2000000 in
theorem t_X10_number_7 {x : Ctx} (C : Cx x WM cX10_number RX10 3 rm_X10_number none) {res : St} {k7 : Int32 → St → Option (St)} (hk7 : ∀ (x1 : Int32) (S : St), k7 x1 S = some res → V x WM 3 (QV x WM res) S 7 [(0, .ref (xq x 0)), (1, .int x1)] []) (x1 : Int32) (S : St) (h : f_X10_number_7 k7 x1 S = some res) : V x WM 3 (QV x WM res) S 7 [(0, .ref (xq x 0)), (1, .int x1)] [] := by
  unfold f_X10_number_7 at h
  refine v_iload_n C 1 dX10_number_7 rfl rfl (n := 8) rfl ?_
  refine v_aload_n C 0 dX10_number_8 rfl rfl (n := 9) rfl ?_
  refine g_X10_junctions C w_15_10 dX10_number_9 (n := 12) rfl ?_
  refine v_icmp_ge C dX10_number_12 (t := 119) (by decide) (n := 15) rfl (fun c1 => ?_) (fun c1 => ?_)
  · have h := ite_p c1 h
    obtain rfl := Option.some.inj h
    exact v_ret C dX10_number_119
  · have h := ite_n c1 h
    refine v_aload_n C 0 dX10_number_15 rfl rfl (n := 16) rfl ?_
    refine g_X10_base C w_7_19 dX10_number_16 (n := 19) rfl ?_
    refine v_iload_n C 1 dX10_number_19 rfl rfl (n := 20) rfl ?_
    refine v_aload_n C 0 dX10_number_20 rfl rfl (n := 21) rfl ?_
    refine g_X10_places C w_15_16 dX10_number_21 (n := 24) rfl ?_
    obtain ⟨hi2, h⟩ := ck_e h
    obtain ⟨S3, eS3, h⟩ := lt_e h
    refine v_ast C aM_12 hi2 dX10_number_24 (n := 25) rfl eS3 ?_
    refine v_aload_n C 0 dX10_number_25 rfl rfl (n := 26) rfl ?_
    refine g_X10_size C w_7_18 dX10_number_26 (n := 29) rfl ?_
    refine v_iload_n C 1 dX10_number_29 rfl rfl (n := 30) rfl ?_
    refine v_iconst (v := 0) C dX10_number_30 (by decide) (n := 31) rfl ?_
    obtain ⟨S4, eS4, h⟩ := lt_e h
    refine v_ast C aM_11 hi2 dX10_number_31 (n := 32) rfl eS4 ?_
    refine v_iconst (v := 0) C dX10_number_32 (by decide) (n := 33) rfl ?_
    refine v_istore_n (L' := [(2, .int 0), (0, .ref (xq x 0)), (1, .int x1)]) C dX10_number_33 rfl (by decide) rfl (n := 34) rfl rfl ?_
    refine v_sub [1, 2, 0] rfl ?_
    exact tg_X10_number_34 C hk7 fuel x1 0 S4 h
theorem tg_X10_number_7 {x : Ctx} (C : Cx x WM cX10_number RX10 3 rm_X10_number none) {res : St}  : ∀ (n : Nat) (x1 : Int32) (S : St), g_X10_number_7  n x1 S = some res → V x WM 3 (QV x WM res) S 7 [(0, .ref (xq x 0)), (1, .int x1)] [] := by
  intro n
  induction n with
  | zero => intro x1 S h; cases h
  | succ n ih => intro x1 S h; exact t_X10_number_7 C (fun x1 S h => ih x1 S h) x1 S h
set_option maxRecDepth 20000 in
set_option maxHeartbeats 2000000 in
theorem t_X10_number_0 {x : Ctx} (C : Cx x WM cX10_number RX10 3 rm_X10_number none) {res : St}   (S : St) (h : f_X10_number_0   S = some res) : V x WM 3 (QV x WM res) S 0 [(0, .ref (xq x 0))] [] := by
  unfold f_X10_number_0 at h
  refine v_aload_n C 0 dX10_number_0 rfl rfl (n := 1) rfl ?_
  refine v_iconst (v := 0) C dX10_number_1 (by decide) (n := 2) rfl ?_
  obtain ⟨S1, eS1, h⟩ := lt_e h
  refine p_X10_places C w_15_16 dX10_number_2 (n := 5) rfl eS1 ?_
  refine v_iconst (v := 0) C dX10_number_5 (by decide) (n := 6) rfl ?_
  refine v_istore_n (L' := [(1, .int 0), (0, .ref (xq x 0))]) C dX10_number_6 rfl (by decide) rfl (n := 7) rfl rfl ?_
  refine v_sub [1, 0] rfl ?_
  exact tg_X10_number_7 C  fuel 0 S1 h
theorem c_X10_number {l : Launch} {D : va_G} {q : Nat → Nat} {ar : Ar}  (S : St) {res : St} (h : m_X10_number  S = some res) : MetV l D q ar WM yX10_number cX10_number 3 none rm_X10_number [.ref (q 0)] S res := by
  refine metV_of adrM (by decide +kernel) (Nat.le_of_ble_eq_true rfl) (fun x e1 e2 e3 e4 C => ?_)
  subst e1; subst e2; subst e3; subst e4
  exact v_sub [0] rfl (t_X10_number_0 C  S h)
theorem mf_X10_number : CalV yX10_number cX10_number 3 none RX10 0 := ⟨w_15_15, w_15_13, w_15_14, w_1_5, rfl, by decide +kernel, by decide +kernel, by decide +kernel⟩
/-! LabyrinthGardenModel.anew -/
def f_X10_anew_0   (S : St) : Option (St) :=
  lt (up S 0 2 0) fun S1 =>
  lt (up S1 0 8 0) fun S2 =>
  lt (up S2 0 11 0) fun S3 =>
  lt (up S3 0 15 1) fun S4 =>
  lt (up S4 0 48 (-1)) fun S5 =>
  bV (m_X10_number  S5) fun S6 =>
  some S6
def m_X10_anew  (S : St) : Option (St) := f_X10_anew_0  S
def rm_X10_anew : Room := { frames := 1, cells := 0, slots := 0, locals := 22 }
set_option maxRecDepth 20000 in
set_option maxHeartbeats 2000000 in
theorem t_X10_anew_0 {x : Ctx} (C : Cx x WM cX10_anew RX10 1 rm_X10_anew none) {res : St}   (S : St) (h : f_X10_anew_0   S = some res) : V x WM 1 (QV x WM res) S 0 [(0, .ref (xq x 0))] [] := by
  unfold f_X10_anew_0 at h
  refine v_aload_n C 0 dX10_anew_0 rfl rfl (n := 1) rfl ?_
  refine v_iconst (v := 0) C dX10_anew_1 (by decide) (n := 2) rfl ?_
  obtain ⟨S1, eS1, h⟩ := lt_e h
  refine p_X10_thrown C w_9_5 dX10_anew_2 (n := 5) rfl eS1 ?_
  refine v_aload_n C 0 dX10_anew_5 rfl rfl (n := 6) rfl ?_
  refine v_iconst (v := 0) C dX10_anew_6 (by decide) (n := 7) rfl ?_
  obtain ⟨S2, eS2, h⟩ := lt_e h
  refine p_X10_junctions C w_15_10 dX10_anew_7 (n := 10) rfl eS2 ?_
  refine v_aload_n C 0 dX10_anew_10 rfl rfl (n := 11) rfl ?_
  refine v_iconst (v := 0) C dX10_anew_11 (by decide) (n := 12) rfl ?_
  obtain ⟨S3, eS3, h⟩ := lt_e h
  refine p_X10_paths C w_15_11 dX10_anew_12 (n := 15) rfl eS3 ?_
  refine v_aload_n C 0 dX10_anew_15 rfl rfl (n := 16) rfl ?_
  refine v_iconst (v := 1) C dX10_anew_16 (by decide) (n := 17) rfl ?_
  obtain ⟨S4, eS4, h⟩ := lt_e h
  refine p_X10_period C w_7_14 dX10_anew_17 (n := 20) rfl eS4 ?_
  refine v_aload_n C 0 dX10_anew_20 rfl rfl (n := 21) rfl ?_
  refine v_iconst (v := (-1)) C dX10_anew_21 (by decide) (n := 22) rfl ?_
  obtain ⟨S5, eS5, h⟩ := lt_e h
  refine p_X10_taleMany C w_8_7 dX10_anew_22 (n := 25) rfl eS5 ?_
  refine v_aload_n C 0 dX10_anew_25 rfl rfl (n := 26) rfl ?_
  obtain ⟨S6, eS6, h⟩ := bV_e h
  refine v_callVV (As := []) C (c_X10_number  S5 eS6) mf_X10_number w_15_12 (oX10 _ _ _) rfl ⟨rfl, rfl, by decide, by decide⟩ rfl rfl (Nat.le_of_ble_eq_true rfl) dX10_anew_26 (n := 29) rfl ?_
  obtain rfl := Option.some.inj h
  exact v_ret C dX10_anew_29
theorem c_X10_anew {l : Launch} {D : va_G} {q : Nat → Nat} {ar : Ar}  (S : St) {res : St} (h : m_X10_anew  S = some res) : MetV l D q ar WM yX10_anew cX10_anew 1 none rm_X10_anew [.ref (q 0)] S res := by
  refine metV_of adrM (by decide +kernel) (Nat.le_of_ble_eq_true rfl) (fun x e1 e2 e3 e4 C => ?_)
  subst e1; subst e2; subst e3; subst e4
  exact v_sub [0] rfl (t_X10_anew_0 C  S h)
theorem mf_X10_anew : CalV yX10_anew cX10_anew 1 none RX10 0 := ⟨w_15_9, w_15_7, w_15_8, w_1_5, rfl, by decide +kernel, by decide +kernel, by decide +kernel⟩
/-! LabyrinthGardenModel.junction -/
def f_X10_junction_0  (x1 : Int32) (S : St) : Option (Int32 × St) :=
  lt (up S 0 2 0) fun S1 =>
  if (rd S1 0 8) = 8 then (
    some ((-1), S1))
  else (
    ck (rd S1 0 8) 8 <|
    lt (up S1 3 (rd S1 0 8).toNatClampNeg (zb x1)) fun S4 =>
    ck (rd S4 0 8) 8 <|
    lt (up S4 4 (rd S4 0 8).toNatClampNeg (zb 0)) fun S6 =>
    lt (up S6 0 8 ((rd S6 0 8) + 1)) fun S7 =>
    bV (m_X10_number  S7) fun S8 =>
    some (((rd S8 0 8) - 1), S8))
def m_X10_junction (a1 : Int32) (S : St) : Option (Int32 × St) := f_X10_junction_0 a1 S
def rm_X10_junction : Room := { frames := 1, cells := 0, slots := 0, locals := 22 }
set_option maxRecDepth 20000 in
set_option maxHeartbeats 2000000 in
theorem t_X10_junction_0 {x : Ctx} (C : Cx x WM cX10_junction RX10 2 rm_X10_junction (some .int)) {res : Int32 × St}  (x1 : Int32) (S : St) (h : f_X10_junction_0  x1 S = some res) : V x WM 2 (QI x WM res) S 0 [(0, .ref (xq x 0)), (1, .int x1)] [] := by
  unfold f_X10_junction_0 at h
  refine v_aload_n C 0 dX10_junction_0 rfl rfl (n := 1) rfl ?_
  refine v_iconst (v := 0) C dX10_junction_1 (by decide) (n := 2) rfl ?_
  obtain ⟨S1, eS1, h⟩ := lt_e h
  refine p_X10_thrown C w_9_5 dX10_junction_2 (n := 5) rfl eS1 ?_
  refine v_aload_n C 0 dX10_junction_5 rfl rfl (n := 6) rfl ?_
  refine g_X10_junctions C w_15_10 dX10_junction_6 (n := 9) rfl ?_
  refine v_bipush (v := 8) C dX10_junction_9 (by decide) (n := 11) rfl ?_
  refine v_icmp_ne C dX10_junction_11 (t := 16) (by decide) (n := 14) rfl (fun c2 => ?_) (fun c2 => ?_)
  · have h := ite_n c2 h
    refine v_aload_n C 0 dX10_junction_16 rfl rfl (n := 17) rfl ?_
    refine g_X10_out C w_7_9 dX10_junction_17 (n := 20) rfl ?_
    refine v_aload_n C 0 dX10_junction_20 rfl rfl (n := 21) rfl ?_
    refine g_X10_junctions C w_15_10 dX10_junction_21 (n := 24) rfl ?_
    refine v_iload_n C 1 dX10_junction_24 rfl rfl (n := 25) rfl ?_
    obtain ⟨hi3, h⟩ := ck_e h
    obtain ⟨S4, eS4, h⟩ := lt_e h
    refine v_zst C aM_3 hi3 dX10_junction_25 (n := 26) rfl eS4 ?_
    refine v_aload_n C 0 dX10_junction_26 rfl rfl (n := 27) rfl ?_
    refine g_X10_marked C w_7_10 dX10_junction_27 (n := 30) rfl ?_
    refine v_aload_n C 0 dX10_junction_30 rfl rfl (n := 31) rfl ?_
    refine g_X10_junctions C w_15_10 dX10_junction_31 (n := 34) rfl ?_
    refine v_iconst (v := 0) C dX10_junction_34 (by decide) (n := 35) rfl ?_
    obtain ⟨hi5, h⟩ := ck_e h
    obtain ⟨S6, eS6, h⟩ := lt_e h
    refine v_zst C aM_4 hi5 dX10_junction_35 (n := 36) rfl eS6 ?_
    refine v_aload_n C 0 dX10_junction_36 rfl rfl (n := 37) rfl ?_
    refine v_dup C dX10_junction_37 rfl (n := 38) rfl ?_
    refine g_X10_junctions C w_15_10 dX10_junction_38 (n := 41) rfl ?_
    refine v_iconst (v := 1) C dX10_junction_41 (by decide) (n := 42) rfl ?_
    refine v_iadd C dX10_junction_42 (n := 43) rfl ?_
    obtain ⟨S7, eS7, h⟩ := lt_e h
    refine p_X10_junctions C w_15_10 dX10_junction_43 (n := 46) rfl eS7 ?_
    refine v_aload_n C 0 dX10_junction_46 rfl rfl (n := 47) rfl ?_
    obtain ⟨S8, eS8, h⟩ := bV_e h
    refine v_callVV (As := []) C (c_X10_number  S7 eS8) mf_X10_number w_15_12 (oX10 _ _ _) rfl ⟨rfl, rfl, by decide, by decide⟩ rfl rfl (Nat.le_of_ble_eq_true rfl) dX10_junction_47 (n := 50) rfl ?_
    refine v_aload_n C 0 dX10_junction_50 rfl rfl (n := 51) rfl ?_
    refine g_X10_junctions C w_15_10 dX10_junction_51 (n := 54) rfl ?_
    refine v_iconst (v := 1) C dX10_junction_54 (by decide) (n := 55) rfl ?_
    refine v_isub C dX10_junction_55 (n := 56) rfl ?_
    obtain rfl := Option.some.inj h
    exact v_iret C dX10_junction_56
  · have h := ite_p c2 h
    refine v_iconst (v := (-1)) C dX10_junction_14 (by decide) (n := 15) rfl ?_
    obtain rfl := Option.some.inj h
    exact v_iret C dX10_junction_15
theorem c_X10_junction {l : Launch} {D : va_G} {q : Nat → Nat} {ar : Ar} (a1 : Int32) (S : St) {res : Int32 × St} (h : m_X10_junction a1 S = some res) : MetI l D q ar WM yX10_junction cX10_junction 2 (some .int) rm_X10_junction [.ref (q 0), .int a1] S res := by
  refine metI_of adrM (by decide +kernel) (Nat.le_of_ble_eq_true rfl) (fun x e1 e2 e3 e4 C => ?_)
  subst e1; subst e2; subst e3; subst e4
  exact v_sub [0, 1] rfl (t_X10_junction_0 C a1 S h)
theorem mf_X10_junction : CalV yX10_junction cX10_junction 2 (some .int) RX10 1 := ⟨w_16_4, w_16_2, w_16_3, w_1_5, rfl, by decide +kernel, by decide +kernel, by decide +kernel⟩
/-! LabyrinthGardenModel.isJunction -/
def f_X10_isJunction_0  (x1 : Int32) (S : St) : Option (Int32 × St) :=
  if x1 < 0 then (
    some (0, S))
  else (
    if (rd S 0 8) ≤ x1 then (
      some (0, S))
    else (
      some (1, S)))
def m_X10_isJunction (a1 : Int32) (S : St) : Option (Int32 × St) := f_X10_isJunction_0 a1 S
def rm_X10_isJunction : Room := { frames := 0, cells := 0, slots := 0, locals := 0 }
set_option maxRecDepth 20000 in
set_option maxHeartbeats 2000000 in
theorem t_X10_isJunction_0 {x : Ctx} (C : Cx x WM cX10_isJunction RX10 2 rm_X10_isJunction (some .boolean)) {res : Int32 × St}  (x1 : Int32) (S : St) (h : f_X10_isJunction_0  x1 S = some res) : V x WM 2 (QI x WM res) S 0 [(0, .ref (xq x 0)), (1, .int x1)] [] := by
  unfold f_X10_isJunction_0 at h
  refine v_iload_n C 1 dX10_isJunction_0 rfl rfl (n := 1) rfl ?_
  refine v_if_lt C dX10_isJunction_1 (t := 16) (by decide) (n := 4) rfl (fun c1 => ?_) (fun c1 => ?_)
  · have h := ite_p c1 h
    refine v_iconst (v := 0) C dX10_isJunction_16 (by decide) (n := 17) rfl ?_
    obtain rfl := Option.some.inj h
    exact v_zret C (Or.inl rfl) dX10_isJunction_17
  · have h := ite_n c1 h
    refine v_iload_n C 1 dX10_isJunction_4 rfl rfl (n := 5) rfl ?_
    refine v_aload_n C 0 dX10_isJunction_5 rfl rfl (n := 6) rfl ?_
    refine g_X10_junctions C w_15_10 dX10_isJunction_6 (n := 9) rfl ?_
    refine v_icmp_ge C dX10_isJunction_9 (t := 16) (by decide) (n := 12) rfl (fun c2 => ?_) (fun c2 => ?_)
    · have h := ite_p c2 h
      refine v_iconst (v := 0) C dX10_isJunction_16 (by decide) (n := 17) rfl ?_
      obtain rfl := Option.some.inj h
      exact v_zret C (Or.inl rfl) dX10_isJunction_17
    · have h := ite_n c2 h
      refine v_iconst (v := 1) C dX10_isJunction_12 (by decide) (n := 13) rfl ?_
      refine v_goto C dX10_isJunction_13 (n := 17) (by decide) ?_
      obtain rfl := Option.some.inj h
      exact v_zret C (Or.inr rfl) dX10_isJunction_17
theorem c_X10_isJunction {l : Launch} {D : va_G} {q : Nat → Nat} {ar : Ar} (a1 : Int32) (S : St) {res : Int32 × St} (h : m_X10_isJunction a1 S = some res) : MetI l D q ar WM yX10_isJunction cX10_isJunction 2 (some .boolean) rm_X10_isJunction [.ref (q 0), .int a1] S res := by
  refine metI_of adrM (by decide +kernel) (Nat.le_of_ble_eq_true rfl) (fun x e1 e2 e3 e4 C => ?_)
  subst e1; subst e2; subst e3; subst e4
  exact v_sub [0, 1] rfl (t_X10_isJunction_0 C a1 S h)
theorem mf_X10_isJunction : CalV yX10_isJunction cX10_isJunction 2 (some .boolean) RX10 1 := ⟨w_17_8, w_17_6, w_17_7, w_1_5, rfl, by decide +kernel, by decide +kernel, by decide +kernel⟩
/-! LabyrinthGardenModel.isPath -/
def f_X10_isPath_0  (x1 : Int32) (S : St) : Option (Int32 × St) :=
  if x1 < 0 then (
    some (0, S))
  else (
    if (rd S 0 11) ≤ x1 then (
      some (0, S))
    else (
      some (1, S)))
def m_X10_isPath (a1 : Int32) (S : St) : Option (Int32 × St) := f_X10_isPath_0 a1 S
def rm_X10_isPath : Room := { frames := 0, cells := 0, slots := 0, locals := 0 }
set_option maxRecDepth 20000 in
set_option maxHeartbeats 2000000 in
theorem t_X10_isPath_0 {x : Ctx} (C : Cx x WM cX10_isPath RX10 2 rm_X10_isPath (some .boolean)) {res : Int32 × St}  (x1 : Int32) (S : St) (h : f_X10_isPath_0  x1 S = some res) : V x WM 2 (QI x WM res) S 0 [(0, .ref (xq x 0)), (1, .int x1)] [] := by
  unfold f_X10_isPath_0 at h
  refine v_iload_n C 1 dX10_isPath_0 rfl rfl (n := 1) rfl ?_
  refine v_if_lt C dX10_isPath_1 (t := 16) (by decide) (n := 4) rfl (fun c1 => ?_) (fun c1 => ?_)
  · have h := ite_p c1 h
    refine v_iconst (v := 0) C dX10_isPath_16 (by decide) (n := 17) rfl ?_
    obtain rfl := Option.some.inj h
    exact v_zret C (Or.inl rfl) dX10_isPath_17
  · have h := ite_n c1 h
    refine v_iload_n C 1 dX10_isPath_4 rfl rfl (n := 5) rfl ?_
    refine v_aload_n C 0 dX10_isPath_5 rfl rfl (n := 6) rfl ?_
    refine g_X10_paths C w_15_11 dX10_isPath_6 (n := 9) rfl ?_
    refine v_icmp_ge C dX10_isPath_9 (t := 16) (by decide) (n := 12) rfl (fun c2 => ?_) (fun c2 => ?_)
    · have h := ite_p c2 h
      refine v_iconst (v := 0) C dX10_isPath_16 (by decide) (n := 17) rfl ?_
      obtain rfl := Option.some.inj h
      exact v_zret C (Or.inl rfl) dX10_isPath_17
    · have h := ite_n c2 h
      refine v_iconst (v := 1) C dX10_isPath_12 (by decide) (n := 13) rfl ?_
      refine v_goto C dX10_isPath_13 (n := 17) (by decide) ?_
      obtain rfl := Option.some.inj h
      exact v_zret C (Or.inr rfl) dX10_isPath_17
theorem c_X10_isPath {l : Launch} {D : va_G} {q : Nat → Nat} {ar : Ar} (a1 : Int32) (S : St) {res : Int32 × St} (h : m_X10_isPath a1 S = some res) : MetI l D q ar WM yX10_isPath cX10_isPath 2 (some .boolean) rm_X10_isPath [.ref (q 0), .int a1] S res := by
  refine metI_of adrM (by decide +kernel) (Nat.le_of_ble_eq_true rfl) (fun x e1 e2 e3 e4 C => ?_)
  subst e1; subst e2; subst e3; subst e4
  exact v_sub [0, 1] rfl (t_X10_isPath_0 C a1 S h)
theorem mf_X10_isPath : CalV yX10_isPath cX10_isPath 2 (some .boolean) RX10 1 := ⟨w_18_21, w_18_19, w_18_20, w_1_5, rfl, by decide +kernel, by decide +kernel, by decide +kernel⟩
/-! LabyrinthGardenModel.isPlace -/
def f_X10_isPlace_0  (x1 : Int32) (S : St) : Option (Int32 × St) :=
  if x1 < 0 then (
    some (0, S))
  else (
    if (rd S 0 16) ≤ x1 then (
      some (0, S))
    else (
      some (1, S)))
def m_X10_isPlace (a1 : Int32) (S : St) : Option (Int32 × St) := f_X10_isPlace_0 a1 S
def rm_X10_isPlace : Room := { frames := 0, cells := 0, slots := 0, locals := 0 }
set_option maxRecDepth 20000 in
set_option maxHeartbeats 2000000 in
theorem t_X10_isPlace_0 {x : Ctx} (C : Cx x WM cX10_isPlace RX10 2 rm_X10_isPlace (some .boolean)) {res : Int32 × St}  (x1 : Int32) (S : St) (h : f_X10_isPlace_0  x1 S = some res) : V x WM 2 (QI x WM res) S 0 [(0, .ref (xq x 0)), (1, .int x1)] [] := by
  unfold f_X10_isPlace_0 at h
  refine v_iload_n C 1 dX10_isPlace_0 rfl rfl (n := 1) rfl ?_
  refine v_if_lt C dX10_isPlace_1 (t := 16) (by decide) (n := 4) rfl (fun c1 => ?_) (fun c1 => ?_)
  · have h := ite_p c1 h
    refine v_iconst (v := 0) C dX10_isPlace_16 (by decide) (n := 17) rfl ?_
    obtain rfl := Option.some.inj h
    exact v_zret C (Or.inl rfl) dX10_isPlace_17
  · have h := ite_n c1 h
    refine v_iload_n C 1 dX10_isPlace_4 rfl rfl (n := 5) rfl ?_
    refine v_aload_n C 0 dX10_isPlace_5 rfl rfl (n := 6) rfl ?_
    refine g_X10_places C w_15_16 dX10_isPlace_6 (n := 9) rfl ?_
    refine v_icmp_ge C dX10_isPlace_9 (t := 16) (by decide) (n := 12) rfl (fun c2 => ?_) (fun c2 => ?_)
    · have h := ite_p c2 h
      refine v_iconst (v := 0) C dX10_isPlace_16 (by decide) (n := 17) rfl ?_
      obtain rfl := Option.some.inj h
      exact v_zret C (Or.inl rfl) dX10_isPlace_17
    · have h := ite_n c2 h
      refine v_iconst (v := 1) C dX10_isPlace_12 (by decide) (n := 13) rfl ?_
      refine v_goto C dX10_isPlace_13 (n := 17) (by decide) ?_
      obtain rfl := Option.some.inj h
      exact v_zret C (Or.inr rfl) dX10_isPlace_17
theorem c_X10_isPlace {l : Launch} {D : va_G} {q : Nat → Nat} {ar : Ar} (a1 : Int32) (S : St) {res : Int32 × St} (h : m_X10_isPlace a1 S = some res) : MetI l D q ar WM yX10_isPlace cX10_isPlace 2 (some .boolean) rm_X10_isPlace [.ref (q 0), .int a1] S res := by
  refine metI_of adrM (by decide +kernel) (Nat.le_of_ble_eq_true rfl) (fun x e1 e2 e3 e4 C => ?_)
  subst e1; subst e2; subst e3; subst e4
  exact v_sub [0, 1] rfl (t_X10_isPlace_0 C a1 S h)
theorem mf_X10_isPlace : CalV yX10_isPlace cX10_isPlace 2 (some .boolean) RX10 1 := ⟨w_23_4, w_23_2, w_23_3, w_1_5, rfl, by decide +kernel, by decide +kernel, by decide +kernel⟩
/-! LabyrinthGardenModel.path -/
def f_X10_path_68  (x1 : Int32) (x2 : Int32) (s0 : Int32) (s1 : Int32) (S : St) : Option (Int32 × St) :=
  if (s1 + s0) ≤ 6 then (
    ck (2 * (rd S 0 11)) 24 <|
    lt (up S 5 (2 * (rd S 0 11)).toNatClampNeg x1) fun S3 =>
    ck ((2 * (rd S3 0 11)) + 1) 24 <|
    lt (up S3 5 ((2 * (rd S3 0 11)) + 1).toNatClampNeg x2) fun S5 =>
    ck (rd S5 0 11) 12 <|
    lt (up S5 6 (rd S5 0 11).toNatClampNeg 255) fun S7 =>
    ck (rd S7 0 11) 12 <|
    lt (up S7 7 (rd S7 0 11).toNatClampNeg (zb 0)) fun S9 =>
    lt (up S9 0 11 ((rd S9 0 11) + 1)) fun S10 =>
    lt (up S10 0 48 (-1)) fun S11 =>
    bV (m_X10_number  S11) fun S12 =>
    some (((rd S12 0 11) - 1), S12))
  else (
    some ((-1), S))
def f_X10_path_46  (x1 : Int32) (x2 : Int32) (s0 : Int32) (s1 : Int32) (S : St) : Option (Int32 × St) :=
  if 6 < (s1 + s0) then (
    some ((-1), S))
  else (
    ck x2 8 <|
    if x1 = x2 then (
      f_X10_path_68  x1 x2 2 (rd S 11 x2.toNatClampNeg) S)
    else (
      f_X10_path_68  x1 x2 1 (rd S 11 x2.toNatClampNeg) S))
def f_X10_path_0  (x1 : Int32) (x2 : Int32) (S : St) : Option (Int32 × St) :=
  lt (up S 0 2 0) fun S1 =>
  if (rd S1 0 11) = 12 then (
    some ((-1), S1))
  else (
    bI (m_X10_isJunction x1 S1) fun r4 S3 =>
    if r4 = 0 then (
      some ((-1), S3))
    else (
      bI (m_X10_isJunction x2 S3) fun r7 S6 =>
      if r7 = 0 then (
        some ((-1), S6))
      else (
        ck x1 8 <|
        if x1 = x2 then (
          f_X10_path_46  x1 x2 2 (rd S6 11 x1.toNatClampNeg) S6)
        else (
          f_X10_path_46  x1 x2 1 (rd S6 11 x1.toNatClampNeg) S6))))
def m_X10_path (a1 : Int32) (a2 : Int32) (S : St) : Option (Int32 × St) := f_X10_path_0 a1 a2 S
def rm_X10_path : Room := { frames := 1, cells := 0, slots := 0, locals := 22 }
set_option maxRecDepth 20000 in
set_option maxHeartbeats 2000000 in
theorem t_X10_path_68 {x : Ctx} (C : Cx x WM cX10_path RX10 3 rm_X10_path (some .int)) {res : Int32 × St}  (x1 : Int32) (x2 : Int32) (s0 : Int32) (s1 : Int32) (S : St) (h : f_X10_path_68  x1 x2 s0 s1 S = some res) : V x WM 3 (QI x WM res) S 68 [(0, .ref (xq x 0)), (1, .int x1), (2, .int x2)] [.int s0, .int s1] := by
  unfold f_X10_path_68 at h
  refine v_iadd C dX10_path_68 (n := 69) rfl ?_
  refine v_bipush (v := 6) C dX10_path_69 (by decide) (n := 71) rfl ?_
  refine v_icmp_le C dX10_path_71 (t := 76) (by decide) (n := 74) rfl (fun c1 => ?_) (fun c1 => ?_)
  · have h := ite_p c1 h
    refine v_aload_n C 0 dX10_path_76 rfl rfl (n := 77) rfl ?_
    refine g_X10_end C w_7_11 dX10_path_77 (n := 80) rfl ?_
    refine v_iconst (v := 2) C dX10_path_80 (by decide) (n := 81) rfl ?_
    refine v_aload_n C 0 dX10_path_81 rfl rfl (n := 82) rfl ?_
    refine g_X10_paths C w_15_11 dX10_path_82 (n := 85) rfl ?_
    refine v_imul C dX10_path_85 (n := 86) rfl ?_
    refine v_iload_n C 1 dX10_path_86 rfl rfl (n := 87) rfl ?_
    obtain ⟨hi2, h⟩ := ck_e h
    obtain ⟨S3, eS3, h⟩ := lt_e h
    refine v_ast C aM_5 hi2 dX10_path_87 (n := 88) rfl eS3 ?_
    refine v_aload_n C 0 dX10_path_88 rfl rfl (n := 89) rfl ?_
    refine g_X10_end C w_7_11 dX10_path_89 (n := 92) rfl ?_
    refine v_iconst (v := 2) C dX10_path_92 (by decide) (n := 93) rfl ?_
    refine v_aload_n C 0 dX10_path_93 rfl rfl (n := 94) rfl ?_
    refine g_X10_paths C w_15_11 dX10_path_94 (n := 97) rfl ?_
    refine v_imul C dX10_path_97 (n := 98) rfl ?_
    refine v_iconst (v := 1) C dX10_path_98 (by decide) (n := 99) rfl ?_
    refine v_iadd C dX10_path_99 (n := 100) rfl ?_
    refine v_iload_n C 2 dX10_path_100 rfl rfl (n := 101) rfl ?_
    obtain ⟨hi4, h⟩ := ck_e h
    obtain ⟨S5, eS5, h⟩ := lt_e h
    refine v_ast C aM_5 hi4 dX10_path_101 (n := 102) rfl eS5 ?_
    refine v_aload_n C 0 dX10_path_102 rfl rfl (n := 103) rfl ?_
    refine g_X10_gate C w_7_12 dX10_path_103 (n := 106) rfl ?_
    refine v_aload_n C 0 dX10_path_106 rfl rfl (n := 107) rfl ?_
    refine g_X10_paths C w_15_11 dX10_path_107 (n := 110) rfl ?_
    refine v_sipush (v := 255) C dX10_path_110 (by decide) (n := 113) rfl ?_
    obtain ⟨hi6, h⟩ := ck_e h
    obtain ⟨S7, eS7, h⟩ := lt_e h
    refine v_ast C aM_6 hi6 dX10_path_113 (n := 114) rfl eS7 ?_
    refine v_aload_n C 0 dX10_path_114 rfl rfl (n := 115) rfl ?_
    refine g_X10_isShut C w_7_13 dX10_path_115 (n := 118) rfl ?_
    refine v_aload_n C 0 dX10_path_118 rfl rfl (n := 119) rfl ?_
    refine g_X10_paths C w_15_11 dX10_path_119 (n := 122) rfl ?_
    refine v_iconst (v := 0) C dX10_path_122 (by decide) (n := 123) rfl ?_
    obtain ⟨hi8, h⟩ := ck_e h
    obtain ⟨S9, eS9, h⟩ := lt_e h
    refine v_zst C aM_7 hi8 dX10_path_123 (n := 124) rfl eS9 ?_
    refine v_aload_n C 0 dX10_path_124 rfl rfl (n := 125) rfl ?_
    refine v_dup C dX10_path_125 rfl (n := 126) rfl ?_
    refine g_X10_paths C w_15_11 dX10_path_126 (n := 129) rfl ?_
    refine v_iconst (v := 1) C dX10_path_129 (by decide) (n := 130) rfl ?_
    refine v_iadd C dX10_path_130 (n := 131) rfl ?_
    obtain ⟨S10, eS10, h⟩ := lt_e h
    refine p_X10_paths C w_15_11 dX10_path_131 (n := 134) rfl eS10 ?_
    refine v_aload_n C 0 dX10_path_134 rfl rfl (n := 135) rfl ?_
    refine v_iconst (v := (-1)) C dX10_path_135 (by decide) (n := 136) rfl ?_
    obtain ⟨S11, eS11, h⟩ := lt_e h
    refine p_X10_taleMany C w_8_7 dX10_path_136 (n := 139) rfl eS11 ?_
    refine v_aload_n C 0 dX10_path_139 rfl rfl (n := 140) rfl ?_
    obtain ⟨S12, eS12, h⟩ := bV_e h
    refine v_callVV (As := []) C (c_X10_number  S11 eS12) mf_X10_number w_15_12 (oX10 _ _ _) rfl ⟨rfl, rfl, by decide, by decide⟩ rfl rfl (Nat.le_of_ble_eq_true rfl) dX10_path_140 (n := 143) rfl ?_
    refine v_aload_n C 0 dX10_path_143 rfl rfl (n := 144) rfl ?_
    refine g_X10_paths C w_15_11 dX10_path_144 (n := 147) rfl ?_
    refine v_iconst (v := 1) C dX10_path_147 (by decide) (n := 148) rfl ?_
    refine v_isub C dX10_path_148 (n := 149) rfl ?_
    obtain rfl := Option.some.inj h
    exact v_iret C dX10_path_149
  · have h := ite_n c1 h
    refine v_iconst (v := (-1)) C dX10_path_74 (by decide) (n := 75) rfl ?_
    obtain rfl := Option.some.inj h
    exact v_iret C dX10_path_75
set_option maxRecDepth 20000 in
set_option maxHeartbeats 2000000 in
theorem t_X10_path_46 {x : Ctx} (C : Cx x WM cX10_path RX10 3 rm_X10_path (some .int)) {res : Int32 × St}  (x1 : Int32) (x2 : Int32) (s0 : Int32) (s1 : Int32) (S : St) (h : f_X10_path_46  x1 x2 s0 s1 S = some res) : V x WM 3 (QI x WM res) S 46 [(0, .ref (xq x 0)), (1, .int x1), (2, .int x2)] [.int s0, .int s1] := by
  unfold f_X10_path_46 at h
  refine v_iadd C dX10_path_46 (n := 47) rfl ?_
  refine v_bipush (v := 6) C dX10_path_47 (by decide) (n := 49) rfl ?_
  refine v_icmp_gt C dX10_path_49 (t := 74) (by decide) (n := 52) rfl (fun c1 => ?_) (fun c1 => ?_)
  · have h := ite_p c1 h
    refine v_iconst (v := (-1)) C dX10_path_74 (by decide) (n := 75) rfl ?_
    obtain rfl := Option.some.inj h
    exact v_iret C dX10_path_75
  · have h := ite_n c1 h
    refine v_aload_n C 0 dX10_path_52 rfl rfl (n := 53) rfl ?_
    refine g_X10_size C w_7_18 dX10_path_53 (n := 56) rfl ?_
    refine v_iload_n C 2 dX10_path_56 rfl rfl (n := 57) rfl ?_
    obtain ⟨hi2, h⟩ := ck_e h
    refine v_ald C aM_11 hi2 dX10_path_57 (n := 58) rfl ?_
    refine v_iload_n C 1 dX10_path_58 rfl rfl (n := 59) rfl ?_
    refine v_iload_n C 2 dX10_path_59 rfl rfl (n := 60) rfl ?_
    refine v_icmp_ne C dX10_path_60 (t := 67) (by decide) (n := 63) rfl (fun c3 => ?_) (fun c3 => ?_)
    · have h := ite_n c3 h
      refine v_iconst (v := 1) C dX10_path_67 (by decide) (n := 68) rfl ?_
      refine v_sub [0, 1, 2] rfl ?_
      exact t_X10_path_68 C  x1 x2 1 (rd S 11 x2.toNatClampNeg) S h
    · have h := ite_p c3 h
      refine v_iconst (v := 2) C dX10_path_63 (by decide) (n := 64) rfl ?_
      refine v_goto C dX10_path_64 (n := 68) (by decide) ?_
      refine v_sub [0, 1, 2] rfl ?_
      exact t_X10_path_68 C  x1 x2 2 (rd S 11 x2.toNatClampNeg) S h
set_option maxRecDepth 20000 in
set_option maxHeartbeats 2000000 in
theorem t_X10_path_0 {x : Ctx} (C : Cx x WM cX10_path RX10 3 rm_X10_path (some .int)) {res : Int32 × St}  (x1 : Int32) (x2 : Int32) (S : St) (h : f_X10_path_0  x1 x2 S = some res) : V x WM 3 (QI x WM res) S 0 [(0, .ref (xq x 0)), (1, .int x1), (2, .int x2)] [] := by
  unfold f_X10_path_0 at h
  refine v_aload_n C 0 dX10_path_0 rfl rfl (n := 1) rfl ?_
  refine v_iconst (v := 0) C dX10_path_1 (by decide) (n := 2) rfl ?_
  obtain ⟨S1, eS1, h⟩ := lt_e h
  refine p_X10_thrown C w_9_5 dX10_path_2 (n := 5) rfl eS1 ?_
  refine v_aload_n C 0 dX10_path_5 rfl rfl (n := 6) rfl ?_
  refine g_X10_paths C w_15_11 dX10_path_6 (n := 9) rfl ?_
  refine v_bipush (v := 12) C dX10_path_9 (by decide) (n := 11) rfl ?_
  refine v_icmp_eq C dX10_path_11 (t := 74) (by decide) (n := 14) rfl (fun c2 => ?_) (fun c2 => ?_)
  · have h := ite_p c2 h
    refine v_iconst (v := (-1)) C dX10_path_74 (by decide) (n := 75) rfl ?_
    obtain rfl := Option.some.inj h
    exact v_iret C dX10_path_75
  · have h := ite_n c2 h
    refine v_aload_n C 0 dX10_path_14 rfl rfl (n := 15) rfl ?_
    refine v_iload_n C 1 dX10_path_15 rfl rfl (n := 16) rfl ?_
    obtain ⟨r4, S3, eS3, h⟩ := bI_e h
    refine v_callVI (As := [.int x1]) C (c_X10_isJunction x1 S1 eS3) mf_X10_isJunction w_17_5 (oX10 _ _ _) rfl ⟨rfl, rfl, by decide, by decide⟩ rfl rfl (Nat.le_of_ble_eq_true rfl) dX10_path_16 (n := 19) rfl ?_
    refine v_if_eq C dX10_path_19 (t := 74) (by decide) (n := 22) rfl (fun c5 => ?_) (fun c5 => ?_)
    · have h := ite_p c5 h
      refine v_iconst (v := (-1)) C dX10_path_74 (by decide) (n := 75) rfl ?_
      obtain rfl := Option.some.inj h
      exact v_iret C dX10_path_75
    · have h := ite_n c5 h
      refine v_aload_n C 0 dX10_path_22 rfl rfl (n := 23) rfl ?_
      refine v_iload_n C 2 dX10_path_23 rfl rfl (n := 24) rfl ?_
      obtain ⟨r7, S6, eS6, h⟩ := bI_e h
      refine v_callVI (As := [.int x2]) C (c_X10_isJunction x2 S3 eS6) mf_X10_isJunction w_17_5 (oX10 _ _ _) rfl ⟨rfl, rfl, by decide, by decide⟩ rfl rfl (Nat.le_of_ble_eq_true rfl) dX10_path_24 (n := 27) rfl ?_
      refine v_if_eq C dX10_path_27 (t := 74) (by decide) (n := 30) rfl (fun c8 => ?_) (fun c8 => ?_)
      · have h := ite_p c8 h
        refine v_iconst (v := (-1)) C dX10_path_74 (by decide) (n := 75) rfl ?_
        obtain rfl := Option.some.inj h
        exact v_iret C dX10_path_75
      · have h := ite_n c8 h
        refine v_aload_n C 0 dX10_path_30 rfl rfl (n := 31) rfl ?_
        refine g_X10_size C w_7_18 dX10_path_31 (n := 34) rfl ?_
        refine v_iload_n C 1 dX10_path_34 rfl rfl (n := 35) rfl ?_
        obtain ⟨hi9, h⟩ := ck_e h
        refine v_ald C aM_11 hi9 dX10_path_35 (n := 36) rfl ?_
        refine v_iload_n C 1 dX10_path_36 rfl rfl (n := 37) rfl ?_
        refine v_iload_n C 2 dX10_path_37 rfl rfl (n := 38) rfl ?_
        refine v_icmp_ne C dX10_path_38 (t := 45) (by decide) (n := 41) rfl (fun c10 => ?_) (fun c10 => ?_)
        · have h := ite_n c10 h
          refine v_iconst (v := 1) C dX10_path_45 (by decide) (n := 46) rfl ?_
          refine v_sub [0, 1, 2] rfl ?_
          exact t_X10_path_46 C  x1 x2 1 (rd S6 11 x1.toNatClampNeg) S6 h
        · have h := ite_p c10 h
          refine v_iconst (v := 2) C dX10_path_41 (by decide) (n := 42) rfl ?_
          refine v_goto C dX10_path_42 (n := 46) (by decide) ?_
          refine v_sub [0, 1, 2] rfl ?_
          exact t_X10_path_46 C  x1 x2 2 (rd S6 11 x1.toNatClampNeg) S6 h
theorem c_X10_path {l : Launch} {D : va_G} {q : Nat → Nat} {ar : Ar} (a1 : Int32) (a2 : Int32) (S : St) {res : Int32 × St} (h : m_X10_path a1 a2 S = some res) : MetI l D q ar WM yX10_path cX10_path 3 (some .int) rm_X10_path [.ref (q 0), .int a1, .int a2] S res := by
  refine metI_of adrM (by decide +kernel) (Nat.le_of_ble_eq_true rfl) (fun x e1 e2 e3 e4 C => ?_)
  subst e1; subst e2; subst e3; subst e4
  exact v_sub [0, 1, 2] rfl (t_X10_path_0 C a1 a2 S h)
theorem mf_X10_path : CalV yX10_path cX10_path 3 (some .int) RX10 2 := ⟨w_17_4, w_17_2, w_17_3, w_1_5, rfl, by decide +kernel, by decide +kernel, by decide +kernel⟩
/-! LabyrinthGardenModel.mark -/
def f_X10_mark_0  (x1 : Int32) (x2 : Int32) (S : St) : Option (Int32 × St) :=
  lt (up S 0 2 0) fun S1 =>
  bI (m_X10_isJunction x1 S1) fun r3 S2 =>
  if r3 = 0 then (
    some (0, S2))
  else (
    ck x1 8 <|
    lt (up S2 4 x1.toNatClampNeg (zb x2)) fun S6 =>
    some (1, S6))
def m_X10_mark (a1 : Int32) (a2 : Int32) (S : St) : Option (Int32 × St) := f_X10_mark_0 a1 a2 S
def rm_X10_mark : Room := { frames := 1, cells := 0, slots := 0, locals := 21 }
set_option maxRecDepth 20000 in
set_option maxHeartbeats 2000000 in
theorem t_X10_mark_0 {x : Ctx} (C : Cx x WM cX10_mark RX10 3 rm_X10_mark (some .boolean)) {res : Int32 × St}  (x1 : Int32) (x2 : Int32) (S : St) (h : f_X10_mark_0  x1 x2 S = some res) : V x WM 3 (QI x WM res) S 0 [(0, .ref (xq x 0)), (1, .int x1), (2, .int x2)] [] := by
  unfold f_X10_mark_0 at h
  refine v_aload_n C 0 dX10_mark_0 rfl rfl (n := 1) rfl ?_
  refine v_iconst (v := 0) C dX10_mark_1 (by decide) (n := 2) rfl ?_
  obtain ⟨S1, eS1, h⟩ := lt_e h
  refine p_X10_thrown C w_9_5 dX10_mark_2 (n := 5) rfl eS1 ?_
  refine v_aload_n C 0 dX10_mark_5 rfl rfl (n := 6) rfl ?_
  refine v_iload_n C 1 dX10_mark_6 rfl rfl (n := 7) rfl ?_
  obtain ⟨r3, S2, eS2, h⟩ := bI_e h
  refine v_callVI (As := [.int x1]) C (c_X10_isJunction x1 S1 eS2) mf_X10_isJunction w_17_5 (oX10 _ _ _) rfl ⟨rfl, rfl, by decide, by decide⟩ rfl rfl (Nat.le_of_ble_eq_true rfl) dX10_mark_7 (n := 10) rfl ?_
  refine v_if_ne C dX10_mark_10 (t := 15) (by decide) (n := 13) rfl (fun c4 => ?_) (fun c4 => ?_)
  · have h := ite_n c4 h
    refine v_aload_n C 0 dX10_mark_15 rfl rfl (n := 16) rfl ?_
    refine g_X10_marked C w_7_10 dX10_mark_16 (n := 19) rfl ?_
    refine v_iload_n C 1 dX10_mark_19 rfl rfl (n := 20) rfl ?_
    refine v_iload_n C 2 dX10_mark_20 rfl rfl (n := 21) rfl ?_
    obtain ⟨hi5, h⟩ := ck_e h
    obtain ⟨S6, eS6, h⟩ := lt_e h
    refine v_zst C aM_4 hi5 dX10_mark_21 (n := 22) rfl eS6 ?_
    refine v_iconst (v := 1) C dX10_mark_22 (by decide) (n := 23) rfl ?_
    obtain rfl := Option.some.inj h
    exact v_zret C (Or.inr rfl) dX10_mark_23
  · have h := ite_p c4 h
    refine v_iconst (v := 0) C dX10_mark_13 (by decide) (n := 14) rfl ?_
    obtain rfl := Option.some.inj h
    exact v_zret C (Or.inl rfl) dX10_mark_14
theorem c_X10_mark {l : Launch} {D : va_G} {q : Nat → Nat} {ar : Ar} (a1 : Int32) (a2 : Int32) (S : St) {res : Int32 × St} (h : m_X10_mark a1 a2 S = some res) : MetI l D q ar WM yX10_mark cX10_mark 3 (some .boolean) rm_X10_mark [.ref (q 0), .int a1, .int a2] S res := by
  refine metI_of adrM (by decide +kernel) (Nat.le_of_ble_eq_true rfl) (fun x e1 e2 e3 e4 C => ?_)
  subst e1; subst e2; subst e3; subst e4
  exact v_sub [0, 1, 2] rfl (t_X10_mark_0 C a1 a2 S h)
theorem mf_X10_mark : CalV yX10_mark cX10_mark 3 (some .boolean) RX10 2 := ⟨w_17_19, w_17_17, w_17_18, w_1_5, rfl, by decide +kernel, by decide +kernel, by decide +kernel⟩
/-! LabyrinthGardenModel.period -/
def f_X10_period_0  (x1 : Int32) (S : St) : Option (Int32 × St) :=
  lt (up S 0 2 0) fun S1 =>
  if x1 < 1 then (
    some (0, S1))
  else (
    if x1 ≤ 8 then (
      lt (up S1 0 15 x1) fun S4 =>
      some (1, S4))
    else (
      some (0, S1)))
def m_X10_period (a1 : Int32) (S : St) : Option (Int32 × St) := f_X10_period_0 a1 S
def rm_X10_period : Room := { frames := 0, cells := 0, slots := 0, locals := 0 }
set_option maxRecDepth 20000 in
set_option maxHeartbeats 2000000 in
theorem t_X10_period_0 {x : Ctx} (C : Cx x WM cX10_period RX10 2 rm_X10_period (some .boolean)) {res : Int32 × St}  (x1 : Int32) (S : St) (h : f_X10_period_0  x1 S = some res) : V x WM 2 (QI x WM res) S 0 [(0, .ref (xq x 0)), (1, .int x1)] [] := by
  unfold f_X10_period_0 at h
  refine v_aload_n C 0 dX10_period_0 rfl rfl (n := 1) rfl ?_
  refine v_iconst (v := 0) C dX10_period_1 (by decide) (n := 2) rfl ?_
  obtain ⟨S1, eS1, h⟩ := lt_e h
  refine p_X10_thrown C w_9_5 dX10_period_2 (n := 5) rfl eS1 ?_
  refine v_iload_n C 1 dX10_period_5 rfl rfl (n := 6) rfl ?_
  refine v_iconst (v := 1) C dX10_period_6 (by decide) (n := 7) rfl ?_
  refine v_icmp_lt C dX10_period_7 (t := 16) (by decide) (n := 10) rfl (fun c2 => ?_) (fun c2 => ?_)
  · have h := ite_p c2 h
    refine v_iconst (v := 0) C dX10_period_16 (by decide) (n := 17) rfl ?_
    obtain rfl := Option.some.inj h
    exact v_zret C (Or.inl rfl) dX10_period_17
  · have h := ite_n c2 h
    refine v_iload_n C 1 dX10_period_10 rfl rfl (n := 11) rfl ?_
    refine v_bipush (v := 8) C dX10_period_11 (by decide) (n := 13) rfl ?_
    refine v_icmp_le C dX10_period_13 (t := 18) (by decide) (n := 16) rfl (fun c3 => ?_) (fun c3 => ?_)
    · have h := ite_p c3 h
      refine v_aload_n C 0 dX10_period_18 rfl rfl (n := 19) rfl ?_
      refine v_iload_n C 1 dX10_period_19 rfl rfl (n := 20) rfl ?_
      obtain ⟨S4, eS4, h⟩ := lt_e h
      refine p_X10_period C w_7_14 dX10_period_20 (n := 23) rfl eS4 ?_
      refine v_iconst (v := 1) C dX10_period_23 (by decide) (n := 24) rfl ?_
      obtain rfl := Option.some.inj h
      exact v_zret C (Or.inr rfl) dX10_period_24
    · have h := ite_n c3 h
      refine v_iconst (v := 0) C dX10_period_16 (by decide) (n := 17) rfl ?_
      obtain rfl := Option.some.inj h
      exact v_zret C (Or.inl rfl) dX10_period_17
theorem c_X10_period {l : Launch} {D : va_G} {q : Nat → Nat} {ar : Ar} (a1 : Int32) (S : St) {res : Int32 × St} (h : m_X10_period a1 S = some res) : MetI l D q ar WM yX10_period cX10_period 2 (some .boolean) rm_X10_period [.ref (q 0), .int a1] S res := by
  refine metI_of adrM (by decide +kernel) (Nat.le_of_ble_eq_true rfl) (fun x e1 e2 e3 e4 C => ?_)
  subst e1; subst e2; subst e3; subst e4
  exact v_sub [0, 1] rfl (t_X10_period_0 C a1 S h)
theorem mf_X10_period : CalV yX10_period cX10_period 2 (some .boolean) RX10 1 := ⟨w_18_4, w_18_2, w_18_3, w_1_5, rfl, by decide +kernel, by decide +kernel, by decide +kernel⟩
/-! LabyrinthGardenModel.gate -/
def f_X10_gate_0  (x1 : Int32) (x2 : Int32) (S : St) : Option (Int32 × St) :=
  lt (up S 0 2 0) fun S1 =>
  bI (m_X10_isPath x1 S1) fun r3 S2 =>
  if r3 = 0 then (
    some (0, S2))
  else (
    if x2 < 0 then (
      some (0, S2))
    else (
      if x2 ≤ 255 then (
        ck x1 12 <|
        lt (up S2 6 x1.toNatClampNeg x2) fun S8 =>
        some (1, S8))
      else (
        some (0, S2))))
def m_X10_gate (a1 : Int32) (a2 : Int32) (S : St) : Option (Int32 × St) := f_X10_gate_0 a1 a2 S
def rm_X10_gate : Room := { frames := 1, cells := 0, slots := 0, locals := 21 }
set_option maxRecDepth 20000 in
set_option maxHeartbeats 2000000 in
theorem t_X10_gate_0 {x : Ctx} (C : Cx x WM cX10_gate RX10 3 rm_X10_gate (some .boolean)) {res : Int32 × St}  (x1 : Int32) (x2 : Int32) (S : St) (h : f_X10_gate_0  x1 x2 S = some res) : V x WM 3 (QI x WM res) S 0 [(0, .ref (xq x 0)), (1, .int x1), (2, .int x2)] [] := by
  unfold f_X10_gate_0 at h
  refine v_aload_n C 0 dX10_gate_0 rfl rfl (n := 1) rfl ?_
  refine v_iconst (v := 0) C dX10_gate_1 (by decide) (n := 2) rfl ?_
  obtain ⟨S1, eS1, h⟩ := lt_e h
  refine p_X10_thrown C w_9_5 dX10_gate_2 (n := 5) rfl eS1 ?_
  refine v_aload_n C 0 dX10_gate_5 rfl rfl (n := 6) rfl ?_
  refine v_iload_n C 1 dX10_gate_6 rfl rfl (n := 7) rfl ?_
  obtain ⟨r3, S2, eS2, h⟩ := bI_e h
  refine v_callVI (As := [.int x1]) C (c_X10_isPath x1 S1 eS2) mf_X10_isPath w_18_18 (oX10 _ _ _) rfl ⟨rfl, rfl, by decide, by decide⟩ rfl rfl (Nat.le_of_ble_eq_true rfl) dX10_gate_7 (n := 10) rfl ?_
  refine v_if_eq C dX10_gate_10 (t := 24) (by decide) (n := 13) rfl (fun c4 => ?_) (fun c4 => ?_)
  · have h := ite_p c4 h
    refine v_iconst (v := 0) C dX10_gate_24 (by decide) (n := 25) rfl ?_
    obtain rfl := Option.some.inj h
    exact v_zret C (Or.inl rfl) dX10_gate_25
  · have h := ite_n c4 h
    refine v_iload_n C 2 dX10_gate_13 rfl rfl (n := 14) rfl ?_
    refine v_if_lt C dX10_gate_14 (t := 24) (by decide) (n := 17) rfl (fun c5 => ?_) (fun c5 => ?_)
    · have h := ite_p c5 h
      refine v_iconst (v := 0) C dX10_gate_24 (by decide) (n := 25) rfl ?_
      obtain rfl := Option.some.inj h
      exact v_zret C (Or.inl rfl) dX10_gate_25
    · have h := ite_n c5 h
      refine v_iload_n C 2 dX10_gate_17 rfl rfl (n := 18) rfl ?_
      refine v_sipush (v := 255) C dX10_gate_18 (by decide) (n := 21) rfl ?_
      refine v_icmp_le C dX10_gate_21 (t := 26) (by decide) (n := 24) rfl (fun c6 => ?_) (fun c6 => ?_)
      · have h := ite_p c6 h
        refine v_aload_n C 0 dX10_gate_26 rfl rfl (n := 27) rfl ?_
        refine g_X10_gate C w_7_12 dX10_gate_27 (n := 30) rfl ?_
        refine v_iload_n C 1 dX10_gate_30 rfl rfl (n := 31) rfl ?_
        refine v_iload_n C 2 dX10_gate_31 rfl rfl (n := 32) rfl ?_
        obtain ⟨hi7, h⟩ := ck_e h
        obtain ⟨S8, eS8, h⟩ := lt_e h
        refine v_ast C aM_6 hi7 dX10_gate_32 (n := 33) rfl eS8 ?_
        refine v_iconst (v := 1) C dX10_gate_33 (by decide) (n := 34) rfl ?_
        obtain rfl := Option.some.inj h
        exact v_zret C (Or.inr rfl) dX10_gate_34
      · have h := ite_n c6 h
        refine v_iconst (v := 0) C dX10_gate_24 (by decide) (n := 25) rfl ?_
        obtain rfl := Option.some.inj h
        exact v_zret C (Or.inl rfl) dX10_gate_25
theorem c_X10_gate {l : Launch} {D : va_G} {q : Nat → Nat} {ar : Ar} (a1 : Int32) (a2 : Int32) (S : St) {res : Int32 × St} (h : m_X10_gate a1 a2 S = some res) : MetI l D q ar WM yX10_gate cX10_gate 3 (some .boolean) rm_X10_gate [.ref (q 0), .int a1, .int a2] S res := by
  refine metI_of adrM (by decide +kernel) (Nat.le_of_ble_eq_true rfl) (fun x e1 e2 e3 e4 C => ?_)
  subst e1; subst e2; subst e3; subst e4
  exact v_sub [0, 1, 2] rfl (t_X10_gate_0 C a1 a2 S h)
theorem mf_X10_gate : CalV yX10_gate cX10_gate 3 (some .boolean) RX10 2 := ⟨w_18_17, w_18_15, w_18_16, w_1_5, rfl, by decide +kernel, by decide +kernel, by decide +kernel⟩
/-! LabyrinthGardenModel.shut -/
def f_X10_shut_0  (x1 : Int32) (x2 : Int32) (S : St) : Option (Int32 × St) :=
  lt (up S 0 2 0) fun S1 =>
  bI (m_X10_isPath x1 S1) fun r3 S2 =>
  if r3 = 0 then (
    some (0, S2))
  else (
    ck x1 12 <|
    lt (up S2 7 x1.toNatClampNeg (zb x2)) fun S6 =>
    some (1, S6))
def m_X10_shut (a1 : Int32) (a2 : Int32) (S : St) : Option (Int32 × St) := f_X10_shut_0 a1 a2 S
def rm_X10_shut : Room := { frames := 1, cells := 0, slots := 0, locals := 21 }
set_option maxRecDepth 20000 in
set_option maxHeartbeats 2000000 in
theorem t_X10_shut_0 {x : Ctx} (C : Cx x WM cX10_shut RX10 3 rm_X10_shut (some .boolean)) {res : Int32 × St}  (x1 : Int32) (x2 : Int32) (S : St) (h : f_X10_shut_0  x1 x2 S = some res) : V x WM 3 (QI x WM res) S 0 [(0, .ref (xq x 0)), (1, .int x1), (2, .int x2)] [] := by
  unfold f_X10_shut_0 at h
  refine v_aload_n C 0 dX10_shut_0 rfl rfl (n := 1) rfl ?_
  refine v_iconst (v := 0) C dX10_shut_1 (by decide) (n := 2) rfl ?_
  obtain ⟨S1, eS1, h⟩ := lt_e h
  refine p_X10_thrown C w_9_5 dX10_shut_2 (n := 5) rfl eS1 ?_
  refine v_aload_n C 0 dX10_shut_5 rfl rfl (n := 6) rfl ?_
  refine v_iload_n C 1 dX10_shut_6 rfl rfl (n := 7) rfl ?_
  obtain ⟨r3, S2, eS2, h⟩ := bI_e h
  refine v_callVI (As := [.int x1]) C (c_X10_isPath x1 S1 eS2) mf_X10_isPath w_18_18 (oX10 _ _ _) rfl ⟨rfl, rfl, by decide, by decide⟩ rfl rfl (Nat.le_of_ble_eq_true rfl) dX10_shut_7 (n := 10) rfl ?_
  refine v_if_ne C dX10_shut_10 (t := 15) (by decide) (n := 13) rfl (fun c4 => ?_) (fun c4 => ?_)
  · have h := ite_n c4 h
    refine v_aload_n C 0 dX10_shut_15 rfl rfl (n := 16) rfl ?_
    refine g_X10_isShut C w_7_13 dX10_shut_16 (n := 19) rfl ?_
    refine v_iload_n C 1 dX10_shut_19 rfl rfl (n := 20) rfl ?_
    refine v_iload_n C 2 dX10_shut_20 rfl rfl (n := 21) rfl ?_
    obtain ⟨hi5, h⟩ := ck_e h
    obtain ⟨S6, eS6, h⟩ := lt_e h
    refine v_zst C aM_7 hi5 dX10_shut_21 (n := 22) rfl eS6 ?_
    refine v_iconst (v := 1) C dX10_shut_22 (by decide) (n := 23) rfl ?_
    obtain rfl := Option.some.inj h
    exact v_zret C (Or.inr rfl) dX10_shut_23
  · have h := ite_p c4 h
    refine v_iconst (v := 0) C dX10_shut_13 (by decide) (n := 14) rfl ?_
    obtain rfl := Option.some.inj h
    exact v_zret C (Or.inl rfl) dX10_shut_14
theorem c_X10_shut {l : Launch} {D : va_G} {q : Nat → Nat} {ar : Ar} (a1 : Int32) (a2 : Int32) (S : St) {res : Int32 × St} (h : m_X10_shut a1 a2 S = some res) : MetI l D q ar WM yX10_shut cX10_shut 3 (some .boolean) rm_X10_shut [.ref (q 0), .int a1, .int a2] S res := by
  refine metI_of adrM (by decide +kernel) (Nat.le_of_ble_eq_true rfl) (fun x e1 e2 e3 e4 C => ?_)
  subst e1; subst e2; subst e3; subst e4
  exact v_sub [0, 1, 2] rfl (t_X10_shut_0 C a1 a2 S h)
theorem mf_X10_shut : CalV yX10_shut cX10_shut 3 (some .boolean) RX10 2 := ⟨w_19_6, w_19_4, w_19_5, w_1_5, rfl, by decide +kernel, by decide +kernel, by decide +kernel⟩
/-! LabyrinthGardenModel.place -/
def f_X10_place_0  (x1 : Int32) (x2 : Int32) (S : St) : Option (Int32 × St) :=
  lt (up S 0 2 0) fun S1 =>
  bI (m_X10_isJunction x1 S1) fun r3 S2 =>
  if r3 = 0 then (
    some ((-1), S2))
  else (
    if x2 < 0 then (
      some ((-1), S2))
    else (
      ck x1 8 <|
      if x2 < (rd S2 11 x1.toNatClampNeg) then (
        some (((rd S2 12 x1.toNatClampNeg) + x2), S2))
      else (
        some ((-1), S2))))
def m_X10_place (a1 : Int32) (a2 : Int32) (S : St) : Option (Int32 × St) := f_X10_place_0 a1 a2 S
def rm_X10_place : Room := { frames := 1, cells := 0, slots := 0, locals := 21 }
set_option maxRecDepth 20000 in
set_option maxHeartbeats 2000000 in
theorem t_X10_place_0 {x : Ctx} (C : Cx x WM cX10_place RX10 3 rm_X10_place (some .int)) {res : Int32 × St}  (x1 : Int32) (x2 : Int32) (S : St) (h : f_X10_place_0  x1 x2 S = some res) : V x WM 3 (QI x WM res) S 0 [(0, .ref (xq x 0)), (1, .int x1), (2, .int x2)] [] := by
  unfold f_X10_place_0 at h
  refine v_aload_n C 0 dX10_place_0 rfl rfl (n := 1) rfl ?_
  refine v_iconst (v := 0) C dX10_place_1 (by decide) (n := 2) rfl ?_
  obtain ⟨S1, eS1, h⟩ := lt_e h
  refine p_X10_thrown C w_9_5 dX10_place_2 (n := 5) rfl eS1 ?_
  refine v_aload_n C 0 dX10_place_5 rfl rfl (n := 6) rfl ?_
  refine v_iload_n C 1 dX10_place_6 rfl rfl (n := 7) rfl ?_
  obtain ⟨r3, S2, eS2, h⟩ := bI_e h
  refine v_callVI (As := [.int x1]) C (c_X10_isJunction x1 S1 eS2) mf_X10_isJunction w_17_5 (oX10 _ _ _) rfl ⟨rfl, rfl, by decide, by decide⟩ rfl rfl (Nat.le_of_ble_eq_true rfl) dX10_place_7 (n := 10) rfl ?_
  refine v_if_eq C dX10_place_10 (t := 27) (by decide) (n := 13) rfl (fun c4 => ?_) (fun c4 => ?_)
  · have h := ite_p c4 h
    refine v_iconst (v := (-1)) C dX10_place_27 (by decide) (n := 28) rfl ?_
    refine v_goto C dX10_place_28 (n := 39) (by decide) ?_
    obtain rfl := Option.some.inj h
    exact v_iret C dX10_place_39
  · have h := ite_n c4 h
    refine v_iload_n C 2 dX10_place_13 rfl rfl (n := 14) rfl ?_
    refine v_if_lt C dX10_place_14 (t := 27) (by decide) (n := 17) rfl (fun c5 => ?_) (fun c5 => ?_)
    · have h := ite_p c5 h
      refine v_iconst (v := (-1)) C dX10_place_27 (by decide) (n := 28) rfl ?_
      refine v_goto C dX10_place_28 (n := 39) (by decide) ?_
      obtain rfl := Option.some.inj h
      exact v_iret C dX10_place_39
    · have h := ite_n c5 h
      refine v_iload_n C 2 dX10_place_17 rfl rfl (n := 18) rfl ?_
      refine v_aload_n C 0 dX10_place_18 rfl rfl (n := 19) rfl ?_
      refine g_X10_size C w_7_18 dX10_place_19 (n := 22) rfl ?_
      refine v_iload_n C 1 dX10_place_22 rfl rfl (n := 23) rfl ?_
      obtain ⟨hi6, h⟩ := ck_e h
      refine v_ald C aM_11 hi6 dX10_place_23 (n := 24) rfl ?_
      refine v_icmp_lt C dX10_place_24 (t := 31) (by decide) (n := 27) rfl (fun c7 => ?_) (fun c7 => ?_)
      · have h := ite_p c7 h
        refine v_aload_n C 0 dX10_place_31 rfl rfl (n := 32) rfl ?_
        refine g_X10_base C w_7_19 dX10_place_32 (n := 35) rfl ?_
        refine v_iload_n C 1 dX10_place_35 rfl rfl (n := 36) rfl ?_
        refine v_ald C aM_12 hi6 dX10_place_36 (n := 37) rfl ?_
        refine v_iload_n C 2 dX10_place_37 rfl rfl (n := 38) rfl ?_
        refine v_iadd C dX10_place_38 (n := 39) rfl ?_
        obtain rfl := Option.some.inj h
        exact v_iret C dX10_place_39
      · have h := ite_n c7 h
        refine v_iconst (v := (-1)) C dX10_place_27 (by decide) (n := 28) rfl ?_
        refine v_goto C dX10_place_28 (n := 39) (by decide) ?_
        obtain rfl := Option.some.inj h
        exact v_iret C dX10_place_39
theorem c_X10_place {l : Launch} {D : va_G} {q : Nat → Nat} {ar : Ar} (a1 : Int32) (a2 : Int32) (S : St) {res : Int32 × St} (h : m_X10_place a1 a2 S = some res) : MetI l D q ar WM yX10_place cX10_place 3 (some .int) rm_X10_place [.ref (q 0), .int a1, .int a2] S res := by
  refine metI_of adrM (by decide +kernel) (Nat.le_of_ble_eq_true rfl) (fun x e1 e2 e3 e4 C => ?_)
  subst e1; subst e2; subst e3; subst e4
  exact v_sub [0, 1, 2] rfl (t_X10_place_0 C a1 a2 S h)
theorem mf_X10_place : CalV yX10_place cX10_place 3 (some .int) RX10 2 := ⟨w_19_18, w_19_16, w_19_17, w_1_5, rfl, by decide +kernel, by decide +kernel, by decide +kernel⟩
