/-! LabyrinthGardenModel.isOpen -/
def f_X10_isOpen_0  (x1 : Int32) (x2 : Int32) (S : St) : Option (Int32 × St) :=
  ck x1 12 <|
  if (rd S 7 x1.toNatClampNeg) = 0 then (
    ckn (rd S 0 15) <|
    if ((sshr (rd S 6 x1.toNatClampNeg) (irem x2 (rd S 0 15))) &&& 1) = 1 then (
      some (1, S))
    else (
      some (0, S)))
  else (
    some (0, S))
def m_X10_isOpen (a1 : Int32) (a2 : Int32) (S : St) : Option (Int32 × St) := f_X10_isOpen_0 a1 a2 S
def rm_X10_isOpen : Room := { frames := 0, cells := 0, slots := 0, locals := 0 }
set_option maxRecDepth 20000 in
set_option maxHeartbeats 2000000 in
theorem t_X10_isOpen_0 {x : Ctx} (C : Cx x WM cX10_isOpen RX10 3 rm_X10_isOpen (some .boolean)) {res : Int32 × St}  (x1 : Int32) (x2 : Int32) (S : St) (h : f_X10_isOpen_0  x1 x2 S = some res) : V x WM 3 (QI x WM res) S 0 [(0, .ref (xq x 0)), (1, .int x1), (2, .int x2)] [] := by
  unfold f_X10_isOpen_0 at h
  refine v_aload_n C 0 dX10_isOpen_0 rfl rfl (n := 1) rfl ?_
  refine g_X10_isShut C w_7_13 dX10_isOpen_1 (n := 4) rfl ?_
  refine v_iload_n C 1 dX10_isOpen_4 rfl rfl (n := 5) rfl ?_
  obtain ⟨hi1, h⟩ := ck_e h
  refine v_zld C aM_7 hi1 dX10_isOpen_5 (n := 6) rfl ?_
  refine v_if_ne C dX10_isOpen_6 (t := 32) (by decide) (n := 9) rfl (fun c2 => ?_) (fun c2 => ?_)
  · have h := ite_n c2 h
    refine v_iconst (v := 0) C dX10_isOpen_32 (by decide) (n := 33) rfl ?_
    obtain rfl := Option.some.inj h
    exact v_zret C (Or.inl rfl) dX10_isOpen_33
  · have h := ite_p c2 h
    refine v_aload_n C 0 dX10_isOpen_9 rfl rfl (n := 10) rfl ?_
    refine g_X10_gate C w_7_12 dX10_isOpen_10 (n := 13) rfl ?_
    refine v_iload_n C 1 dX10_isOpen_13 rfl rfl (n := 14) rfl ?_
    refine v_ald C aM_6 hi1 dX10_isOpen_14 (n := 15) rfl ?_
    refine v_iload_n C 2 dX10_isOpen_15 rfl rfl (n := 16) rfl ?_
    refine v_aload_n C 0 dX10_isOpen_16 rfl rfl (n := 17) rfl ?_
    refine g_X10_period C w_7_14 dX10_isOpen_17 (n := 20) rfl ?_
    obtain ⟨hz3, h⟩ := ckn_e h
    refine v_irem C dX10_isOpen_20 hz3 (n := 21) rfl ?_
    refine v_ishr C dX10_isOpen_21 (n := 22) rfl ?_
    refine v_iconst (v := 1) C dX10_isOpen_22 (by decide) (n := 23) rfl ?_
    refine v_iand C dX10_isOpen_23 (n := 24) rfl ?_
    refine v_iconst (v := 1) C dX10_isOpen_24 (by decide) (n := 25) rfl ?_
    refine v_icmp_ne C dX10_isOpen_25 (t := 32) (by decide) (n := 28) rfl (fun c4 => ?_) (fun c4 => ?_)
    · have h := ite_n c4 h
      refine v_iconst (v := 0) C dX10_isOpen_32 (by decide) (n := 33) rfl ?_
      obtain rfl := Option.some.inj h
      exact v_zret C (Or.inl rfl) dX10_isOpen_33
    · have h := ite_p c4 h
      refine v_iconst (v := 1) C dX10_isOpen_28 (by decide) (n := 29) rfl ?_
      refine v_goto C dX10_isOpen_29 (n := 33) (by decide) ?_
      obtain rfl := Option.some.inj h
      exact v_zret C (Or.inr rfl) dX10_isOpen_33
theorem c_X10_isOpen {l : Launch} {D : va_G} {q : Nat → Nat} {ar : Ar} (a1 : Int32) (a2 : Int32) (S : St) {res : Int32 × St} (h : m_X10_isOpen a1 a2 S = some res) : MetI l D q ar WM yX10_isOpen cX10_isOpen 3 (some .boolean) rm_X10_isOpen [.ref (q 0), .int a1, .int a2] S res := by
  refine metI_of adrM (by decide +kernel) (Nat.le_of_ble_eq_true rfl) (fun x e1 e2 e3 e4 C => ?_)
  subst e1; subst e2; subst e3; subst e4
  exact v_sub [0, 1, 2] rfl (t_X10_isOpen_0 C a1 a2 S h)
theorem mf_X10_isOpen : CalV yX10_isOpen cX10_isOpen 3 (some .boolean) RX10 2 := ⟨w_24_1, w_23_23, w_24_0, w_1_5, rfl, by decide +kernel, by decide +kernel, by decide +kernel⟩
/-! LabyrinthGardenModel.turned -/
def f_X10_turned_112 (k112 : Int32 → Int32 → Int32 → Int32 → St → Option (Int32 × St)) (x1 : Int32) (x4 : Int32) (x5 : Int32) (x7 : Int32) (S : St) : Option (Int32 × St) :=
  if x5 ≤ 0 then (
    some (x7, S))
  else (
    ck x1 8 <|
    ckn (rd S 11 x1.toNatClampNeg) <|
    lt ((irem (x7 + 1) (rd S 11 x1.toNatClampNeg)) : Int32) fun y4 =>
    ck ((rd S 12 x1.toNatClampNeg) + y4) 24 <|
    bI (m_X10_isOpen ((rd S 9 ((rd S 12 x1.toNatClampNeg) + y4).toNatClampNeg) / 2) x4 S) fun r7 S6 =>
    if r7 = 0 then (
      k112 x1 x4 x5 y4 S6)
    else (
      lt (x5 + (-1) : Int32) fun y9 =>
      k112 x1 x4 y9 y4 S6))
def g_X10_turned_112  : Nat → Int32 → Int32 → Int32 → Int32 → St → Option (Int32 × St)
  | 0 => fun _ _ _ _ _ => none
  | n + 1 => f_X10_turned_112 (g_X10_turned_112  n)
def f_X10_turned_48 (k48 : Int32 → Int32 → Int32 → Int32 → Int32 → Int32 → St → Option (Int32 × St)) (x1 : Int32) (x2 : Int32) (x4 : Int32) (x5 : Int32) (x6 : Int32) (x7 : Int32) (S : St) : Option (Int32 × St) :=
  ck x1 8 <|
  if (rd S 11 x1.toNatClampNeg) ≤ x7 then (
    if x6 = 0 then (
      some ((-1), S))
    else (
      g_X10_turned_112  fuel x1 x4 x5 x2 S))
  else (
    if x6 = 0 then (
      ck ((rd S 12 x1.toNatClampNeg) + x7) 24 <|
      bI (m_X10_isOpen ((rd S 9 ((rd S 12 x1.toNatClampNeg) + x7).toNatClampNeg) / 2) x4 S) fun r8 S7 =>
      if r8 = 0 then (
        lt (x7 + 1 : Int32) fun y10 =>
        k48 x1 x2 x4 x5 0 y10 S7)
      else (
        lt (x7 + 1 : Int32) fun y11 =>
        k48 x1 x2 x4 x5 1 y11 S7))
    else (
      lt (x7 + 1 : Int32) fun y5 =>
      k48 x1 x2 x4 x5 1 y5 S))
def g_X10_turned_48  : Nat → Int32 → Int32 → Int32 → Int32 → Int32 → Int32 → St → Option (Int32 × St)
  | 0 => fun _ _ _ _ _ _ _ => none
  | n + 1 => f_X10_turned_48 (g_X10_turned_48  n)
def f_X10_turned_34  (x1 : Int32) (x2 : Int32) (x4 : Int32) (x5 : Int32) (S : St) : Option (Int32 × St) :=
  if x5 = 0 then (
    g_X10_turned_48  fuel x1 x2 x4 1 0 0 S)
  else (
    g_X10_turned_48  fuel x1 x2 x4 x5 0 0 S)
def f_X10_turned_0  (x1 : Int32) (x2 : Int32) (x3 : Int32) (x4 : Int32) (S : St) : Option (Int32 × St) :=
  if x3 = 0 then (
    ck x1 8 <|
    ck ((rd S 12 x1.toNatClampNeg) + x2) 24 <|
    bI (m_X10_isOpen ((rd S 9 ((rd S 12 x1.toNatClampNeg) + x2).toNatClampNeg) / 2) x4 S) fun r5 S4 =>
    if r5 = 0 then (
      f_X10_turned_34  x1 x2 x4 x3 S4)
    else (
      some (x2, S4)))
  else (
    f_X10_turned_34  x1 x2 x4 x3 S)
def m_X10_turned (a1 : Int32) (a2 : Int32) (a3 : Int32) (a4 : Int32) (S : St) : Option (Int32 × St) := f_X10_turned_0 a1 a2 a3 a4 S
def rm_X10_turned : Room := { frames := 1, cells := 0, slots := 0, locals := 22 }
set_option maxRecDepth 20000 in
set_option maxHeartbeats 2000000 in
theorem t_X10_turned_112 {x : Ctx} (C : Cx x WM cX10_turned RX10 8 rm_X10_turned (some .int)) {res : Int32 × St} {k112 : Int32 → Int32 → Int32 → Int32 → St → Option (Int32 × St)} (hk112 : ∀ (x1 : Int32) (x4 : Int32) (x5 : Int32) (x7 : Int32) (S : St), k112 x1 x4 x5 x7 S = some res → V x WM 8 (QI x WM res) S 112 [(0, .ref (xq x 0)), (1, .int x1), (4, .int x4), (5, .int x5), (7, .int x7)] []) (x1 : Int32) (x4 : Int32) (x5 : Int32) (x7 : Int32) (S : St) (h : f_X10_turned_112 k112 x1 x4 x5 x7 S = some res) : V x WM 8 (QI x WM res) S 112 [(0, .ref (xq x 0)), (1, .int x1), (4, .int x4), (5, .int x5), (7, .int x7)] [] := by
  unfold f_X10_turned_112 at h
  refine v_iload C 3 dX10_turned_112 rfl (n := 114) rfl ?_
  refine v_if_le C dX10_turned_114 (t := 161) (by decide) (n := 117) rfl (fun c1 => ?_) (fun c1 => ?_)
  · have h := ite_p c1 h
    refine v_iload C 4 dX10_turned_161 rfl (n := 163) rfl ?_
    obtain rfl := Option.some.inj h
    exact v_iret C dX10_turned_163
  · have h := ite_n c1 h
    refine v_iload C 4 dX10_turned_117 rfl (n := 119) rfl ?_
    refine v_iconst (v := 1) C dX10_turned_119 (by decide) (n := 120) rfl ?_
    refine v_iadd C dX10_turned_120 (n := 121) rfl ?_
    refine v_aload_n C 0 dX10_turned_121 rfl rfl (n := 122) rfl ?_
    refine g_X10_size C w_7_18 dX10_turned_122 (n := 125) rfl ?_
    refine v_iload_n C 1 dX10_turned_125 rfl rfl (n := 126) rfl ?_
    obtain ⟨hi2, h⟩ := ck_e h
    refine v_ald C aM_11 hi2 dX10_turned_126 (n := 127) rfl ?_
    obtain ⟨hz3, h⟩ := ckn_e h
    refine v_irem C dX10_turned_127 hz3 (n := 128) rfl ?_
    obtain ⟨y4, ey4, h⟩ := lt_e h
    refine v_istore (L' := [(7, .int y4), (0, .ref (xq x 0)), (1, .int x1), (4, .int x4), (5, .int x5)]) C dX10_turned_128 (by decide) rfl (n := 130) rfl ey4 ?_
    refine v_aload_n C 1 dX10_turned_130 rfl rfl (n := 131) rfl ?_
    refine v_aload_n C 1 dX10_turned_131 rfl rfl (n := 132) rfl ?_
    refine g_X10_ends C w_7_16 dX10_turned_132 (n := 135) rfl ?_
    refine v_aload_n C 1 dX10_turned_135 rfl rfl (n := 136) rfl ?_
    refine g_X10_base C w_7_19 dX10_turned_136 (n := 139) rfl ?_
    refine v_iload_n C 2 dX10_turned_139 rfl rfl (n := 140) rfl ?_
    refine v_ald C aM_12 hi2 dX10_turned_140 (n := 141) rfl ?_
    refine v_iload C 0 dX10_turned_141 rfl (n := 143) rfl ?_
    refine v_iadd C dX10_turned_143 (n := 144) rfl ?_
    obtain ⟨hi5, h⟩ := ck_e h
    refine v_ald C aM_9 hi5 dX10_turned_144 (n := 145) rfl ?_
    refine v_iconst (v := 2) C dX10_turned_145 (by decide) (n := 146) rfl ?_
    refine v_idiv C dX10_turned_146 (by decide) (n := 147) rfl ?_
    refine v_iload C 3 dX10_turned_147 rfl (n := 149) rfl ?_
    obtain ⟨r7, S6, eS6, h⟩ := bI_e h
    refine v_callVI (As := [.int ((rd S 9 ((rd S 12 x1.toNatClampNeg) + y4).toNatClampNeg) / 2), .int x4]) C (c_X10_isOpen ((rd S 9 ((rd S 12 x1.toNatClampNeg) + y4).toNatClampNeg) / 2) x4 S eS6) mf_X10_isOpen w_23_22 (oX10 _ _ _) rfl ⟨rfl, rfl, by decide, by decide⟩ rfl rfl (Nat.le_of_ble_eq_true rfl) dX10_turned_149 (n := 152) rfl ?_
    refine v_if_eq C dX10_turned_152 (t := 112) (by decide) (n := 155) rfl (fun c8 => ?_) (fun c8 => ?_)
    · have h := ite_p c8 h
      refine v_sub [1, 2, 3, 4, 0] rfl ?_
      exact hk112 x1 x4 x5 y4 S6 h
    · have h := ite_n c8 h
      obtain ⟨y9, ey9, h⟩ := lt_e h
      refine v_iinc (L' := [(5, .int y9), (7, .int y4), (0, .ref (xq x 0)), (1, .int x1), (4, .int x4)]) C 4 dX10_turned_155 rfl (by rw [ey9]; rfl) (by decide) rfl (n := 158) rfl ?_
      refine v_goto C dX10_turned_158 (n := 112) (by decide) ?_
      refine v_sub [2, 3, 4, 0, 1] rfl ?_
      exact hk112 x1 x4 y9 y4 S6 h
theorem tg_X10_turned_112 {x : Ctx} (C : Cx x WM cX10_turned RX10 8 rm_X10_turned (some .int)) {res : Int32 × St}  : ∀ (n : Nat) (x1 : Int32) (x4 : Int32) (x5 : Int32) (x7 : Int32) (S : St), g_X10_turned_112  n x1 x4 x5 x7 S = some res → V x WM 8 (QI x WM res) S 112 [(0, .ref (xq x 0)), (1, .int x1), (4, .int x4), (5, .int x5), (7, .int x7)] [] := by
  intro n
  induction n with
  | zero => intro x1 x4 x5 x7 S h; cases h
  | succ n ih => intro x1 x4 x5 x7 S h; exact t_X10_turned_112 C (fun x1 x4 x5 x7 S h => ih x1 x4 x5 x7 S h) x1 x4 x5 x7 S h
set_option maxRecDepth 20000 in
set_option maxHeartbeats 2000000 in
theorem t_X10_turned_48 {x : Ctx} (C : Cx x WM cX10_turned RX10 8 rm_X10_turned (some .int)) {res : Int32 × St} {k48 : Int32 → Int32 → Int32 → Int32 → Int32 → Int32 → St → Option (Int32 × St)} (hk48 : ∀ (x1 : Int32) (x2 : Int32) (x4 : Int32) (x5 : Int32) (x6 : Int32) (x7 : Int32) (S : St), k48 x1 x2 x4 x5 x6 x7 S = some res → V x WM 8 (QI x WM res) S 48 [(0, .ref (xq x 0)), (1, .int x1), (2, .int x2), (4, .int x4), (5, .int x5), (6, .int x6), (7, .int x7)] []) (x1 : Int32) (x2 : Int32) (x4 : Int32) (x5 : Int32) (x6 : Int32) (x7 : Int32) (S : St) (h : f_X10_turned_48 k48 x1 x2 x4 x5 x6 x7 S = some res) : V x WM 8 (QI x WM res) S 48 [(0, .ref (xq x 0)), (1, .int x1), (2, .int x2), (4, .int x4), (5, .int x5), (6, .int x6), (7, .int x7)] [] := by
  unfold f_X10_turned_48 at h
  refine v_iload C 6 dX10_turned_48 rfl (n := 50) rfl ?_
  refine v_aload_n C 0 dX10_turned_50 rfl rfl (n := 51) rfl ?_
  refine g_X10_size C w_7_18 dX10_turned_51 (n := 54) rfl ?_
  refine v_iload_n C 1 dX10_turned_54 rfl rfl (n := 55) rfl ?_
  obtain ⟨hi1, h⟩ := ck_e h
  refine v_ald C aM_11 hi1 dX10_turned_55 (n := 56) rfl ?_
  refine v_icmp_ge C dX10_turned_56 (t := 102) (by decide) (n := 59) rfl (fun c2 => ?_) (fun c2 => ?_)
  · have h := ite_p c2 h
    refine v_iload C 5 dX10_turned_102 rfl (n := 104) rfl ?_
    refine v_if_ne C dX10_turned_104 (t := 109) (by decide) (n := 107) rfl (fun c3 => ?_) (fun c3 => ?_)
    · have h := ite_n c3 h
      refine v_iload_n C 2 dX10_turned_109 rfl rfl (n := 110) rfl ?_
      refine v_istore (L' := [(7, .int x2), (0, .ref (xq x 0)), (1, .int x1), (2, .int x2), (4, .int x4), (5, .int x5), (6, .int x6)]) C dX10_turned_110 (by decide) rfl (n := 112) rfl rfl ?_
      refine v_sub [1, 2, 4, 5, 0] rfl ?_
      exact tg_X10_turned_112 C  fuel x1 x4 x5 x2 S h
    · have h := ite_p c3 h
      refine v_iconst (v := (-1)) C dX10_turned_107 (by decide) (n := 108) rfl ?_
      obtain rfl := Option.some.inj h
      exact v_iret C dX10_turned_108
  · have h := ite_n c2 h
    refine v_iload C 5 dX10_turned_59 rfl (n := 61) rfl ?_
    refine v_if_ne C dX10_turned_61 (t := 89) (by decide) (n := 64) rfl (fun c4 => ?_) (fun c4 => ?_)
    · have h := ite_n c4 h
      refine v_iconst (v := 1) C dX10_turned_89 (by decide) (n := 90) rfl ?_
      refine v_goto C dX10_turned_90 (n := 94) (by decide) ?_
      refine v_istore (L' := [(6, .int 1), (0, .ref (xq x 0)), (1, .int x1), (2, .int x2), (4, .int x4), (5, .int x5), (7, .int x7)]) C dX10_turned_94 (by decide) rfl (n := 96) rfl rfl ?_
      obtain ⟨y5, ey5, h⟩ := lt_e h
      refine v_iinc (L' := [(7, .int y5), (6, .int 1), (0, .ref (xq x 0)), (1, .int x1), (2, .int x2), (4, .int x4), (5, .int x5)]) C 6 dX10_turned_96 rfl (by rw [ey5]; rfl) (by decide) rfl (n := 99) rfl ?_
      refine v_goto C dX10_turned_99 (n := 48) (by decide) ?_
      refine v_sub [2, 3, 4, 5, 6, 1, 0] rfl ?_
      exact hk48 x1 x2 x4 x5 1 y5 S h
    · have h := ite_p c4 h
      refine v_aload_n C 0 dX10_turned_64 rfl rfl (n := 65) rfl ?_
      refine v_aload_n C 0 dX10_turned_65 rfl rfl (n := 66) rfl ?_
      refine g_X10_ends C w_7_16 dX10_turned_66 (n := 69) rfl ?_
      refine v_aload_n C 0 dX10_turned_69 rfl rfl (n := 70) rfl ?_
      refine g_X10_base C w_7_19 dX10_turned_70 (n := 73) rfl ?_
      refine v_iload_n C 1 dX10_turned_73 rfl rfl (n := 74) rfl ?_
      refine v_ald C aM_12 hi1 dX10_turned_74 (n := 75) rfl ?_
      refine v_iload C 6 dX10_turned_75 rfl (n := 77) rfl ?_
      refine v_iadd C dX10_turned_77 (n := 78) rfl ?_
      obtain ⟨hi6, h⟩ := ck_e h
      refine v_ald C aM_9 hi6 dX10_turned_78 (n := 79) rfl ?_
      refine v_iconst (v := 2) C dX10_turned_79 (by decide) (n := 80) rfl ?_
      refine v_idiv C dX10_turned_80 (by decide) (n := 81) rfl ?_
      refine v_iload C 3 dX10_turned_81 rfl (n := 83) rfl ?_
      obtain ⟨r8, S7, eS7, h⟩ := bI_e h
      refine v_callVI (As := [.int ((rd S 9 ((rd S 12 x1.toNatClampNeg) + x7).toNatClampNeg) / 2), .int x4]) C (c_X10_isOpen ((rd S 9 ((rd S 12 x1.toNatClampNeg) + x7).toNatClampNeg) / 2) x4 S eS7) mf_X10_isOpen w_23_22 (oX10 _ _ _) rfl ⟨rfl, rfl, by decide, by decide⟩ rfl rfl (Nat.le_of_ble_eq_true rfl) dX10_turned_83 (n := 86) rfl ?_
      refine v_if_eq C dX10_turned_86 (t := 93) (by decide) (n := 89) rfl (fun c9 => ?_) (fun c9 => ?_)
      · have h := ite_p c9 h
        refine v_iconst (v := 0) C dX10_turned_93 (by decide) (n := 94) rfl ?_
        refine v_istore (L' := [(6, .int 0), (0, .ref (xq x 0)), (1, .int x1), (2, .int x2), (4, .int x4), (5, .int x5), (7, .int x7)]) C dX10_turned_94 (by decide) rfl (n := 96) rfl rfl ?_
        obtain ⟨y10, ey10, h⟩ := lt_e h
        refine v_iinc (L' := [(7, .int y10), (6, .int 0), (0, .ref (xq x 0)), (1, .int x1), (2, .int x2), (4, .int x4), (5, .int x5)]) C 6 dX10_turned_96 rfl (by rw [ey10]; rfl) (by decide) rfl (n := 99) rfl ?_
        refine v_goto C dX10_turned_99 (n := 48) (by decide) ?_
        refine v_sub [2, 3, 4, 5, 6, 1, 0] rfl ?_
        exact hk48 x1 x2 x4 x5 0 y10 S7 h
      · have h := ite_n c9 h
        refine v_iconst (v := 1) C dX10_turned_89 (by decide) (n := 90) rfl ?_
        refine v_goto C dX10_turned_90 (n := 94) (by decide) ?_
        refine v_istore (L' := [(6, .int 1), (0, .ref (xq x 0)), (1, .int x1), (2, .int x2), (4, .int x4), (5, .int x5), (7, .int x7)]) C dX10_turned_94 (by decide) rfl (n := 96) rfl rfl ?_
        obtain ⟨y11, ey11, h⟩ := lt_e h
        refine v_iinc (L' := [(7, .int y11), (6, .int 1), (0, .ref (xq x 0)), (1, .int x1), (2, .int x2), (4, .int x4), (5, .int x5)]) C 6 dX10_turned_96 rfl (by rw [ey11]; rfl) (by decide) rfl (n := 99) rfl ?_
        refine v_goto C dX10_turned_99 (n := 48) (by decide) ?_
        refine v_sub [2, 3, 4, 5, 6, 1, 0] rfl ?_
        exact hk48 x1 x2 x4 x5 1 y11 S7 h
theorem tg_X10_turned_48 {x : Ctx} (C : Cx x WM cX10_turned RX10 8 rm_X10_turned (some .int)) {res : Int32 × St}  : ∀ (n : Nat) (x1 : Int32) (x2 : Int32) (x4 : Int32) (x5 : Int32) (x6 : Int32) (x7 : Int32) (S : St), g_X10_turned_48  n x1 x2 x4 x5 x6 x7 S = some res → V x WM 8 (QI x WM res) S 48 [(0, .ref (xq x 0)), (1, .int x1), (2, .int x2), (4, .int x4), (5, .int x5), (6, .int x6), (7, .int x7)] [] := by
  intro n
  induction n with
  | zero => intro x1 x2 x4 x5 x6 x7 S h; cases h
  | succ n ih => intro x1 x2 x4 x5 x6 x7 S h; exact t_X10_turned_48 C (fun x1 x2 x4 x5 x6 x7 S h => ih x1 x2 x4 x5 x6 x7 S h) x1 x2 x4 x5 x6 x7 S h
set_option maxRecDepth 20000 in
set_option maxHeartbeats 2000000 in
theorem t_X10_turned_34 {x : Ctx} (C : Cx x WM cX10_turned RX10 8 rm_X10_turned (some .int)) {res : Int32 × St}  (x1 : Int32) (x2 : Int32) (x4 : Int32) (x5 : Int32) (S : St) (h : f_X10_turned_34  x1 x2 x4 x5 S = some res) : V x WM 8 (QI x WM res) S 34 [(0, .ref (xq x 0)), (1, .int x1), (2, .int x2), (4, .int x4), (5, .int x5)] [] := by
  unfold f_X10_turned_34 at h
  refine v_iload C 4 dX10_turned_34 rfl (n := 36) rfl ?_
  refine v_if_ne C dX10_turned_36 (t := 42) (by decide) (n := 39) rfl (fun c1 => ?_) (fun c1 => ?_)
  · have h := ite_n c1 h
    refine v_iconst (v := 0) C dX10_turned_42 (by decide) (n := 43) rfl ?_
    refine v_istore (L' := [(6, .int 0), (0, .ref (xq x 0)), (1, .int x1), (2, .int x2), (4, .int x4), (5, .int x5)]) C dX10_turned_43 (by decide) rfl (n := 45) rfl rfl ?_
    refine v_iconst (v := 0) C dX10_turned_45 (by decide) (n := 46) rfl ?_
    refine v_istore (L' := [(7, .int 0), (6, .int 0), (0, .ref (xq x 0)), (1, .int x1), (2, .int x2), (4, .int x4), (5, .int x5)]) C dX10_turned_46 (by decide) rfl (n := 48) rfl rfl ?_
    refine v_sub [2, 3, 4, 5, 6, 1, 0] rfl ?_
    exact tg_X10_turned_48 C  fuel x1 x2 x4 x5 0 0 S h
  · have h := ite_p c1 h
    refine v_iconst (v := 1) C dX10_turned_39 (by decide) (n := 40) rfl ?_
    refine v_istore (L' := [(5, .int 1), (0, .ref (xq x 0)), (1, .int x1), (2, .int x2), (4, .int x4)]) C dX10_turned_40 (by decide) rfl (n := 42) rfl rfl ?_
    refine v_iconst (v := 0) C dX10_turned_42 (by decide) (n := 43) rfl ?_
    refine v_istore (L' := [(6, .int 0), (5, .int 1), (0, .ref (xq x 0)), (1, .int x1), (2, .int x2), (4, .int x4)]) C dX10_turned_43 (by decide) rfl (n := 45) rfl rfl ?_
    refine v_iconst (v := 0) C dX10_turned_45 (by decide) (n := 46) rfl ?_
    refine v_istore (L' := [(7, .int 0), (6, .int 0), (5, .int 1), (0, .ref (xq x 0)), (1, .int x1), (2, .int x2), (4, .int x4)]) C dX10_turned_46 (by decide) rfl (n := 48) rfl rfl ?_
    refine v_sub [3, 4, 5, 6, 2, 1, 0] rfl ?_
    exact tg_X10_turned_48 C  fuel x1 x2 x4 1 0 0 S h
set_option maxRecDepth 20000 in
set_option maxHeartbeats 2000000 in
theorem t_X10_turned_0 {x : Ctx} (C : Cx x WM cX10_turned RX10 8 rm_X10_turned (some .int)) {res : Int32 × St}  (x1 : Int32) (x2 : Int32) (x3 : Int32) (x4 : Int32) (S : St) (h : f_X10_turned_0  x1 x2 x3 x4 S = some res) : V x WM 8 (QI x WM res) S 0 [(0, .ref (xq x 0)), (1, .int x1), (2, .int x2), (3, .int x3), (4, .int x4)] [] := by
  unfold f_X10_turned_0 at h
  refine v_iload_n C 3 dX10_turned_0 rfl rfl (n := 1) rfl ?_
  refine v_istore (L' := [(5, .int x3), (0, .ref (xq x 0)), (1, .int x1), (2, .int x2), (3, .int x3), (4, .int x4)]) C dX10_turned_1 (by decide) rfl (n := 3) rfl rfl ?_
  refine v_iload C 0 dX10_turned_3 rfl (n := 5) rfl ?_
  refine v_if_ne C dX10_turned_5 (t := 34) (by decide) (n := 8) rfl (fun c1 => ?_) (fun c1 => ?_)
  · have h := ite_n c1 h
    refine v_sub [1, 2, 3, 5, 0] rfl ?_
    exact t_X10_turned_34 C  x1 x2 x4 x3 S h
  · have h := ite_p c1 h
    refine v_aload_n C 1 dX10_turned_8 rfl rfl (n := 9) rfl ?_
    refine v_aload_n C 1 dX10_turned_9 rfl rfl (n := 10) rfl ?_
    refine g_X10_ends C w_7_16 dX10_turned_10 (n := 13) rfl ?_
    refine v_aload_n C 1 dX10_turned_13 rfl rfl (n := 14) rfl ?_
    refine g_X10_base C w_7_19 dX10_turned_14 (n := 17) rfl ?_
    refine v_iload_n C 2 dX10_turned_17 rfl rfl (n := 18) rfl ?_
    obtain ⟨hi2, h⟩ := ck_e h
    refine v_ald C aM_12 hi2 dX10_turned_18 (n := 19) rfl ?_
    refine v_iload_n C 3 dX10_turned_19 rfl rfl (n := 20) rfl ?_
    refine v_iadd C dX10_turned_20 (n := 21) rfl ?_
    obtain ⟨hi3, h⟩ := ck_e h
    refine v_ald C aM_9 hi3 dX10_turned_21 (n := 22) rfl ?_
    refine v_iconst (v := 2) C dX10_turned_22 (by decide) (n := 23) rfl ?_
    refine v_idiv C dX10_turned_23 (by decide) (n := 24) rfl ?_
    refine v_iload C 5 dX10_turned_24 rfl (n := 26) rfl ?_
    obtain ⟨r5, S4, eS4, h⟩ := bI_e h
    refine v_callVI (As := [.int ((rd S 9 ((rd S 12 x1.toNatClampNeg) + x2).toNatClampNeg) / 2), .int x4]) C (c_X10_isOpen ((rd S 9 ((rd S 12 x1.toNatClampNeg) + x2).toNatClampNeg) / 2) x4 S eS4) mf_X10_isOpen w_23_22 (oX10 _ _ _) rfl ⟨rfl, rfl, by decide, by decide⟩ rfl rfl (Nat.le_of_ble_eq_true rfl) dX10_turned_26 (n := 29) rfl ?_
    refine v_if_eq C dX10_turned_29 (t := 34) (by decide) (n := 32) rfl (fun c6 => ?_) (fun c6 => ?_)
    · have h := ite_p c6 h
      refine v_sub [1, 2, 3, 5, 0] rfl ?_
      exact t_X10_turned_34 C  x1 x2 x4 x3 S4 h
    · have h := ite_n c6 h
      refine v_iload_n C 3 dX10_turned_32 rfl rfl (n := 33) rfl ?_
      obtain rfl := Option.some.inj h
      exact v_iret C dX10_turned_33
theorem c_X10_turned {l : Launch} {D : va_G} {q : Nat → Nat} {ar : Ar} (a1 : Int32) (a2 : Int32) (a3 : Int32) (a4 : Int32) (S : St) {res : Int32 × St} (h : m_X10_turned a1 a2 a3 a4 S = some res) : MetI l D q ar WM yX10_turned cX10_turned 8 (some .int) rm_X10_turned [.ref (q 0), .int a1, .int a2, .int a3, .int a4] S res := by
  refine metI_of adrM (by decide +kernel) (Nat.le_of_ble_eq_true rfl) (fun x e1 e2 e3 e4 C => ?_)
  subst e1; subst e2; subst e3; subst e4
  exact v_sub [0, 1, 2, 3, 4] rfl (t_X10_turned_0 C a1 a2 a3 a4 S h)
theorem mf_X10_turned : CalV yX10_turned cX10_turned 8 (some .int) RX10 4 := ⟨w_23_21, w_23_19, w_23_20, w_1_5, rfl, by decide +kernel, by decide +kernel, by decide +kernel⟩
/-! LabyrinthGardenModel.together -/
def f_X10_together_4 (k4 : Int32 → Int32 → St → Option (Int32 × St)) (x1 : Int32) (x2 : Int32) (S : St) : Option (Int32 × St) :=
  if 8 ≤ x2 then (
    ckn (rd S 0 15) <|
    some (((((((x1 * 24) + (rd S 0 37)) * 4) + (rd S 0 38)) * 8) + (irem (rd S 0 39) (rd S 0 15))), S))
  else (
    ck x2 8 <|
    if (rd S 19 x2.toNatClampNeg) = 0 then (
      lt (((2 * x1) + 0) : Int32) fun y5 =>
      lt (x2 + 1 : Int32) fun y6 =>
      k4 y5 y6 S)
    else (
      lt (((2 * x1) + 1) : Int32) fun y7 =>
      lt (x2 + 1 : Int32) fun y8 =>
      k4 y7 y8 S))
def g_X10_together_4  : Nat → Int32 → Int32 → St → Option (Int32 × St)
  | 0 => fun _ _ _ => none
  | n + 1 => f_X10_together_4 (g_X10_together_4  n)
def f_X10_together_0   (S : St) : Option (Int32 × St) :=
  g_X10_together_4  fuel 0 0 S
def m_X10_together  (S : St) : Option (Int32 × St) := f_X10_together_0  S
def rm_X10_together : Room := { frames := 0, cells := 0, slots := 0, locals := 0 }
set_option maxRecDepth 20000 in
set_option maxHeartbeats 2000000 in
theorem t_X10_together_4 {x : Ctx} (C : Cx x WM cX10_together RX10 3 rm_X10_together (some .int)) {res : Int32 × St} {k4 : Int32 → Int32 → St → Option (Int32 × St)} (hk4 : ∀ (x1 : Int32) (x2 : Int32) (S : St), k4 x1 x2 S = some res → V x WM 3 (QI x WM res) S 4 [(0, .ref (xq x 0)), (1, .int x1), (2, .int x2)] []) (x1 : Int32) (x2 : Int32) (S : St) (h : f_X10_together_4 k4 x1 x2 S = some res) : V x WM 3 (QI x WM res) S 4 [(0, .ref (xq x 0)), (1, .int x1), (2, .int x2)] [] := by
  unfold f_X10_together_4 at h
  refine v_iload_n C 2 dX10_together_4 rfl rfl (n := 5) rfl ?_
  refine v_bipush (v := 8) C dX10_together_5 (by decide) (n := 7) rfl ?_
  refine v_icmp_ge C dX10_together_7 (t := 35) (by decide) (n := 10) rfl (fun c1 => ?_) (fun c1 => ?_)
  · have h := ite_p c1 h
    refine v_iload_n C 1 dX10_together_35 rfl rfl (n := 36) rfl ?_
    refine v_bipush (v := 24) C dX10_together_36 (by decide) (n := 38) rfl ?_
    refine v_imul C dX10_together_38 (n := 39) rfl ?_
    refine v_aload_n C 0 dX10_together_39 rfl rfl (n := 40) rfl ?_
    refine g_X10_where C w_22_23 dX10_together_40 (n := 43) rfl ?_
    refine v_iadd C dX10_together_43 (n := 44) rfl ?_
    refine v_iconst (v := 4) C dX10_together_44 (by decide) (n := 45) rfl ?_
    refine v_imul C dX10_together_45 (n := 46) rfl ?_
    refine v_aload_n C 0 dX10_together_46 rfl rfl (n := 47) rfl ?_
    refine g_X10_state C w_23_0 dX10_together_47 (n := 50) rfl ?_
    refine v_iadd C dX10_together_50 (n := 51) rfl ?_
    refine v_bipush (v := 8) C dX10_together_51 (by decide) (n := 53) rfl ?_
    refine v_imul C dX10_together_53 (n := 54) rfl ?_
    refine v_aload_n C 0 dX10_together_54 rfl rfl (n := 55) rfl ?_
    refine g_X10_beat C w_22_20 dX10_together_55 (n := 58) rfl ?_
    refine v_aload_n C 0 dX10_together_58 rfl rfl (n := 59) rfl ?_
    refine g_X10_period C w_7_14 dX10_together_59 (n := 62) rfl ?_
    obtain ⟨hz2, h⟩ := ckn_e h
    refine v_irem C dX10_together_62 hz2 (n := 63) rfl ?_
    refine v_iadd C dX10_together_63 (n := 64) rfl ?_
    obtain rfl := Option.some.inj h
    exact v_iret C dX10_together_64
  · have h := ite_n c1 h
    refine v_iconst (v := 2) C dX10_together_10 (by decide) (n := 11) rfl ?_
    refine v_iload_n C 1 dX10_together_11 rfl rfl (n := 12) rfl ?_
    refine v_imul C dX10_together_12 (n := 13) rfl ?_
    refine v_aload_n C 0 dX10_together_13 rfl rfl (n := 14) rfl ?_
    refine g_X10_lies C w_8_3 dX10_together_14 (n := 17) rfl ?_
    refine v_iload_n C 2 dX10_together_17 rfl rfl (n := 18) rfl ?_
    obtain ⟨hi3, h⟩ := ck_e h
    refine v_zld C aM_19 hi3 dX10_together_18 (n := 19) rfl ?_
    refine v_if_eq C dX10_together_19 (t := 26) (by decide) (n := 22) rfl (fun c4 => ?_) (fun c4 => ?_)
    · have h := ite_p c4 h
      refine v_iconst (v := 0) C dX10_together_26 (by decide) (n := 27) rfl ?_
      refine v_iadd C dX10_together_27 (n := 28) rfl ?_
      obtain ⟨y5, ey5, h⟩ := lt_e h
      refine v_istore_n (L' := [(1, .int y5), (0, .ref (xq x 0)), (2, .int x2)]) C dX10_together_28 rfl (by decide) rfl (n := 29) rfl ey5 ?_
      obtain ⟨y6, ey6, h⟩ := lt_e h
      refine v_iinc (L' := [(2, .int y6), (1, .int y5), (0, .ref (xq x 0))]) C 2 dX10_together_29 rfl (by rw [ey6]; rfl) (by decide) rfl (n := 32) rfl ?_
      refine v_goto C dX10_together_32 (n := 4) (by decide) ?_
      refine v_sub [2, 1, 0] rfl ?_
      exact hk4 y5 y6 S h
    · have h := ite_n c4 h
      refine v_iconst (v := 1) C dX10_together_22 (by decide) (n := 23) rfl ?_
      refine v_goto C dX10_together_23 (n := 27) (by decide) ?_
      refine v_iadd C dX10_together_27 (n := 28) rfl ?_
      obtain ⟨y7, ey7, h⟩ := lt_e h
      refine v_istore_n (L' := [(1, .int y7), (0, .ref (xq x 0)), (2, .int x2)]) C dX10_together_28 rfl (by decide) rfl (n := 29) rfl ey7 ?_
      obtain ⟨y8, ey8, h⟩ := lt_e h
      refine v_iinc (L' := [(2, .int y8), (1, .int y7), (0, .ref (xq x 0))]) C 2 dX10_together_29 rfl (by rw [ey8]; rfl) (by decide) rfl (n := 32) rfl ?_
      refine v_goto C dX10_together_32 (n := 4) (by decide) ?_
      refine v_sub [2, 1, 0] rfl ?_
      exact hk4 y7 y8 S h
theorem tg_X10_together_4 {x : Ctx} (C : Cx x WM cX10_together RX10 3 rm_X10_together (some .int)) {res : Int32 × St}  : ∀ (n : Nat) (x1 : Int32) (x2 : Int32) (S : St), g_X10_together_4  n x1 x2 S = some res → V x WM 3 (QI x WM res) S 4 [(0, .ref (xq x 0)), (1, .int x1), (2, .int x2)] [] := by
  intro n
  induction n with
  | zero => intro x1 x2 S h; cases h
  | succ n ih => intro x1 x2 S h; exact t_X10_together_4 C (fun x1 x2 S h => ih x1 x2 S h) x1 x2 S h
set_option maxRecDepth 20000 in
set_option maxHeartbeats 2000000 in
theorem t_X10_together_0 {x : Ctx} (C : Cx x WM cX10_together RX10 3 rm_X10_together (some .int)) {res : Int32 × St}   (S : St) (h : f_X10_together_0   S = some res) : V x WM 3 (QI x WM res) S 0 [(0, .ref (xq x 0))] [] := by
  unfold f_X10_together_0 at h
  refine v_iconst (v := 0) C dX10_together_0 (by decide) (n := 1) rfl ?_
  refine v_istore_n (L' := [(1, .int 0), (0, .ref (xq x 0))]) C dX10_together_1 rfl (by decide) rfl (n := 2) rfl rfl ?_
  refine v_iconst (v := 0) C dX10_together_2 (by decide) (n := 3) rfl ?_
  refine v_istore_n (L' := [(2, .int 0), (1, .int 0), (0, .ref (xq x 0))]) C dX10_together_3 rfl (by decide) rfl (n := 4) rfl rfl ?_
  refine v_sub [2, 1, 0] rfl ?_
  exact tg_X10_together_4 C  fuel 0 0 S h
theorem c_X10_together {l : Launch} {D : va_G} {q : Nat → Nat} {ar : Ar}  (S : St) {res : Int32 × St} (h : m_X10_together  S = some res) : MetI l D q ar WM yX10_together cX10_together 3 (some .int) rm_X10_together [.ref (q 0)] S res := by
  refine metI_of adrM (by decide +kernel) (Nat.le_of_ble_eq_true rfl) (fun x e1 e2 e3 e4 C => ?_)
  subst e1; subst e2; subst e3; subst e4
  exact v_sub [0] rfl (t_X10_together_0 C  S h)
theorem mf_X10_together : CalV yX10_together cX10_together 3 (some .int) RX10 0 := ⟨w_23_17, w_23_15, w_23_16, w_1_5, rfl, by decide +kernel, by decide +kernel, by decide +kernel⟩
/-! LabyrinthGardenModel.goes -/
def f_X10_goes_257 (k70 : St → Option (Int32 × St)) (x2 : Int32) (x4 : Int32) (S : St) : Option (Int32 × St) :=
  ck (x4 + 2) 48 <|
  lt (up S 0 38 (rd S 2 (x4 + 2).toNatClampNeg)) fun S2 =>
  ck x2 8 <|
  ck x4 48 <|
  bI (m_X10_turned x2 ((rd S2 0 37) - (rd S2 12 x2.toNatClampNeg)) (rd S2 2 x4.toNatClampNeg) (rd S2 0 39) S2) fun r6 S5 =>
  if r6 < 0 then (
    lt (up S5 0 39 ((rd S5 0 39) + 1)) fun S8 =>
    k70  S8)
  else (
    ck ((rd S5 12 x2.toNatClampNeg) + r6) 24 <|
    ck ((rd S5 9 ((rd S5 12 x2.toNatClampNeg) + r6).toNatClampNeg) ^^^ 1) 24 <|
    lt (up S5 0 37 (rd S5 10 ((rd S5 9 ((rd S5 12 x2.toNatClampNeg) + r6).toNatClampNeg) ^^^ 1).toNatClampNeg)) fun S11 =>
    lt (up S11 0 39 ((rd S11 0 39) + 1)) fun S12 =>
    k70  S12)
def f_X10_goes_237 (k70 : St → Option (Int32 × St)) (x2 : Int32) (x4 : Int32) (S : St) : Option (Int32 × St) :=
  ck (x4 + 1) 48 <|
  if (rd S 2 (x4 + 1).toNatClampNeg) = 2 then (
    ck x2 8 <|
    lt (up S 19 x2.toNatClampNeg (zb 1)) fun S4 =>
    f_X10_goes_257 k70 x2 x4 S4)
  else (
    f_X10_goes_257 k70 x2 x4 S)
def f_X10_goes_214 (k70 : St → Option (Int32 × St)) (x2 : Int32) (s0 : Int32) (s1 : Int32) (S : St) : Option (Int32 × St) :=
  lt ((s1 + s0) : Int32) fun y1 =>
  ck (y1 + 1) 48 <|
  if (rd S 2 (y1 + 1).toNatClampNeg) = 1 then (
    ck x2 8 <|
    lt (up S 19 x2.toNatClampNeg (zb 0)) fun S5 =>
    f_X10_goes_237 k70 x2 y1 S5)
  else (
    f_X10_goes_237 k70 x2 y1 S)
def f_X10_goes_209 (k70 : St → Option (Int32 × St)) (x2 : Int32) (s0 : Int32) (S : St) : Option (Int32 × St) :=
  f_X10_goes_214 k70 x2 0 s0 S
def f_X10_goes_70 (k70 : St → Option (Int32 × St))  (S : St) : Option (Int32 × St) :=
  ck (rd S 0 37) 24 <|
  lt ((rd S 8 (rd S 0 37).toNatClampNeg) : Int32) fun y2 =>
  ck y2 8 <|
  if (rd S 3 y2.toNatClampNeg) = 0 then (
    bI (m_X10_together  S) fun r6 S5 =>
    ck r6 196608 <|
    if (rd S5 18 r6.toNatClampNeg) ≤ 0 then (
      ck (rd S5 0 42) 1501 <|
      lt (up S5 17 (rd S5 0 42).toNatClampNeg r6) fun S10 =>
      lt (up S10 0 42 ((rd S10 0 42) + 1)) fun S11 =>
      lt (up S11 18 r6.toNatClampNeg ((rd S11 0 39) + 1)) fun S12 =>
      if (rd S12 0 39) = 1500 then (
        some (2, S12))
      else (
        ck ((6 * (rd S12 0 38)) + 3) 48 <|
        if (rd S12 2 ((6 * (rd S12 0 38)) + 3).toNatClampNeg) < 0 then (
          f_X10_goes_209 k70 y2 (6 * (rd S12 0 38)) S12)
        else (
          if (rd S12 19 y2.toNatClampNeg) = 0 then (
            f_X10_goes_214 k70 y2 3 (6 * (rd S12 0 38)) S12)
          else (
            f_X10_goes_209 k70 y2 (6 * (rd S12 0 38)) S12))))
    else (
      lt (up S5 0 40 ((rd S5 18 r6.toNatClampNeg) - 1)) fun S17 =>
      lt (up S17 0 41 ((rd S17 0 39) - (rd S17 0 40))) fun S18 =>
      some (1, S18)))
  else (
    some (0, S))
def g_X10_goes_70  : Nat → St → Option (Int32 × St)
  | 0 => fun _ => none
  | n + 1 => f_X10_goes_70 (g_X10_goes_70  n)
def f_X10_goes_2 (k2 : Int32 → Int32 → St → Option (Int32 × St)) (x1 : Int32) (x2 : Int32) (S : St) : Option (Int32 × St) :=
  if 8 ≤ x2 then (
    lt (up S 0 37 x1) fun S2 =>
    lt (up S2 0 38 (rd S2 0 6)) fun S3 =>
    lt (up S3 0 39 0) fun S4 =>
    lt (up S4 0 40 (-1)) fun S5 =>
    lt (up S5 0 41 (-1)) fun S6 =>
    g_X10_goes_70  fuel  S6)
  else (
    if (rd S 0 8) ≤ x2 then (
      ck x2 8 <|
      lt (up S 19 x2.toNatClampNeg (zb 0)) fun S9 =>
      lt (x2 + 1 : Int32) fun y10 =>
      k2 x1 y10 S9)
    else (
      ck x2 8 <|
      if (rd S 4 x2.toNatClampNeg) = 0 then (
        lt (up S 19 x2.toNatClampNeg (zb 0)) fun S13 =>
        lt (x2 + 1 : Int32) fun y14 =>
        k2 x1 y14 S13)
      else (
        lt (up S 19 x2.toNatClampNeg (zb 1)) fun S15 =>
        lt (x2 + 1 : Int32) fun y16 =>
        k2 x1 y16 S15)))
def g_X10_goes_2  : Nat → Int32 → Int32 → St → Option (Int32 × St)
  | 0 => fun _ _ _ => none
  | n + 1 => f_X10_goes_2 (g_X10_goes_2  n)
def f_X10_goes_0  (x1 : Int32) (S : St) : Option (Int32 × St) :=
  g_X10_goes_2  fuel x1 0 S
def m_X10_goes (a1 : Int32) (S : St) : Option (Int32 × St) := f_X10_goes_0 a1 S
def rm_X10_goes : Room := { frames := 2, cells := 0, slots := 0, locals := 49 }
set_option maxRecDepth 20000 in
set_option maxHeartbeats 2000000 in
theorem t_X10_goes_257 {x : Ctx} (C : Cx x WM cX10_goes RX10 6 rm_X10_goes (some .int)) {res : Int32 × St} {k70 : St → Option (Int32 × St)} (hk70 : ∀  (S : St), k70  S = some res → V x WM 6 (QI x WM res) S 70 [(0, .ref (xq x 0))] []) (x2 : Int32) (x4 : Int32) (S : St) (h : f_X10_goes_257 k70 x2 x4 S = some res) : V x WM 6 (QI x WM res) S 257 [(0, .ref (xq x 0)), (2, .int x2), (4, .int x4)] [] := by
  unfold f_X10_goes_257 at h
  refine v_aload_n C 0 dX10_goes_257 rfl rfl (n := 258) rfl ?_
  refine v_aload_n C 0 dX10_goes_258 rfl rfl (n := 259) rfl ?_
  refine g_X10_act C w_7_7 dX10_goes_259 (n := 262) rfl ?_
  refine v_iload C 2 dX10_goes_262 rfl (n := 264) rfl ?_
  refine v_iconst (v := 2) C dX10_goes_264 (by decide) (n := 265) rfl ?_
  refine v_iadd C dX10_goes_265 (n := 266) rfl ?_
  obtain ⟨hi1, h⟩ := ck_e h
  refine v_ald C aM_2 hi1 dX10_goes_266 (n := 267) rfl ?_
  obtain ⟨S2, eS2, h⟩ := lt_e h
  refine p_X10_state C w_23_0 dX10_goes_267 (n := 270) rfl eS2 ?_
  refine v_aload_n C 0 dX10_goes_270 rfl rfl (n := 271) rfl ?_
  refine v_iload_n C 1 dX10_goes_271 rfl rfl (n := 272) rfl ?_
  refine v_aload_n C 0 dX10_goes_272 rfl rfl (n := 273) rfl ?_
  refine g_X10_where C w_22_23 dX10_goes_273 (n := 276) rfl ?_
  refine v_aload_n C 0 dX10_goes_276 rfl rfl (n := 277) rfl ?_
  refine g_X10_base C w_7_19 dX10_goes_277 (n := 280) rfl ?_
  refine v_iload_n C 1 dX10_goes_280 rfl rfl (n := 281) rfl ?_
  obtain ⟨hi3, h⟩ := ck_e h
  refine v_ald C aM_12 hi3 dX10_goes_281 (n := 282) rfl ?_
  refine v_isub C dX10_goes_282 (n := 283) rfl ?_
  refine v_aload_n C 0 dX10_goes_283 rfl rfl (n := 284) rfl ?_
  refine g_X10_act C w_7_7 dX10_goes_284 (n := 287) rfl ?_
  refine v_iload C 2 dX10_goes_287 rfl (n := 289) rfl ?_
  obtain ⟨hi4, h⟩ := ck_e h
  refine v_ald C aM_2 hi4 dX10_goes_289 (n := 290) rfl ?_
  refine v_aload_n C 0 dX10_goes_290 rfl rfl (n := 291) rfl ?_
  refine g_X10_beat C w_22_20 dX10_goes_291 (n := 294) rfl ?_
  obtain ⟨r6, S5, eS5, h⟩ := bI_e h
  refine v_callVI (As := [.int x2, .int ((rd S2 0 37) - (rd S2 12 x2.toNatClampNeg)), .int (rd S2 2 x4.toNatClampNeg), .int (rd S2 0 39)]) C (c_X10_turned x2 ((rd S2 0 37) - (rd S2 12 x2.toNatClampNeg)) (rd S2 2 x4.toNatClampNeg) (rd S2 0 39) S2 eS5) mf_X10_turned w_23_18 (oX10 _ _ _) rfl ⟨rfl, rfl, by decide, by decide⟩ rfl rfl (Nat.le_of_ble_eq_true rfl) dX10_goes_294 (n := 297) rfl ?_
  refine v_istore (L' := [(5, .int r6), (0, .ref (xq x 0)), (2, .int x2), (4, .int x4)]) C dX10_goes_297 (by decide) rfl (n := 299) rfl rfl ?_
  refine v_iload C 0 dX10_goes_299 rfl (n := 301) rfl ?_
  refine v_if_lt C dX10_goes_301 (t := 329) (by decide) (n := 304) rfl (fun c7 => ?_) (fun c7 => ?_)
  · have h := ite_p c7 h
    refine v_aload_n C 1 dX10_goes_329 rfl rfl (n := 330) rfl ?_
    refine v_dup C dX10_goes_330 rfl (n := 331) rfl ?_
    refine g_X10_beat C w_22_20 dX10_goes_331 (n := 334) rfl ?_
    refine v_iconst (v := 1) C dX10_goes_334 (by decide) (n := 335) rfl ?_
    refine v_iadd C dX10_goes_335 (n := 336) rfl ?_
    obtain ⟨S8, eS8, h⟩ := lt_e h
    refine p_X10_beat C w_22_20 dX10_goes_336 (n := 339) rfl eS8 ?_
    refine v_goto C dX10_goes_339 (n := 70) (by decide) ?_
    refine v_sub [1] rfl ?_
    exact hk70  S8 h
  · have h := ite_n c7 h
    refine v_aload_n C 1 dX10_goes_304 rfl rfl (n := 305) rfl ?_
    refine v_aload_n C 1 dX10_goes_305 rfl rfl (n := 306) rfl ?_
    refine g_X10_placeOf C w_7_17 dX10_goes_306 (n := 309) rfl ?_
    refine v_aload_n C 1 dX10_goes_309 rfl rfl (n := 310) rfl ?_
    refine g_X10_ends C w_7_16 dX10_goes_310 (n := 313) rfl ?_
    refine v_aload_n C 1 dX10_goes_313 rfl rfl (n := 314) rfl ?_
    refine g_X10_base C w_7_19 dX10_goes_314 (n := 317) rfl ?_
    refine v_iload_n C 2 dX10_goes_317 rfl rfl (n := 318) rfl ?_
    refine v_ald C aM_12 hi3 dX10_goes_318 (n := 319) rfl ?_
    refine v_iload C 0 dX10_goes_319 rfl (n := 321) rfl ?_
    refine v_iadd C dX10_goes_321 (n := 322) rfl ?_
    obtain ⟨hi9, h⟩ := ck_e h
    refine v_ald C aM_9 hi9 dX10_goes_322 (n := 323) rfl ?_
    refine v_iconst (v := 1) C dX10_goes_323 (by decide) (n := 324) rfl ?_
    refine v_ixor C dX10_goes_324 (n := 325) rfl ?_
    obtain ⟨hi10, h⟩ := ck_e h
    refine v_ald C aM_10 hi10 dX10_goes_325 (n := 326) rfl ?_
    obtain ⟨S11, eS11, h⟩ := lt_e h
    refine p_X10_where C w_22_23 dX10_goes_326 (n := 329) rfl eS11 ?_
    refine v_aload_n C 1 dX10_goes_329 rfl rfl (n := 330) rfl ?_
    refine v_dup C dX10_goes_330 rfl (n := 331) rfl ?_
    refine g_X10_beat C w_22_20 dX10_goes_331 (n := 334) rfl ?_
    refine v_iconst (v := 1) C dX10_goes_334 (by decide) (n := 335) rfl ?_
    refine v_iadd C dX10_goes_335 (n := 336) rfl ?_
    obtain ⟨S12, eS12, h⟩ := lt_e h
    refine p_X10_beat C w_22_20 dX10_goes_336 (n := 339) rfl eS12 ?_
    refine v_goto C dX10_goes_339 (n := 70) (by decide) ?_
    refine v_sub [1] rfl ?_
    exact hk70  S12 h
set_option maxRecDepth 20000 in
set_option maxHeartbeats 2000000 in
theorem t_X10_goes_237 {x : Ctx} (C : Cx x WM cX10_goes RX10 6 rm_X10_goes (some .int)) {res : Int32 × St} {k70 : St → Option (Int32 × St)} (hk70 : ∀  (S : St), k70  S = some res → V x WM 6 (QI x WM res) S 70 [(0, .ref (xq x 0))] []) (x2 : Int32) (x4 : Int32) (S : St) (h : f_X10_goes_237 k70 x2 x4 S = some res) : V x WM 6 (QI x WM res) S 237 [(0, .ref (xq x 0)), (2, .int x2), (4, .int x4)] [] := by
  unfold f_X10_goes_237 at h
  refine v_aload_n C 0 dX10_goes_237 rfl rfl (n := 238) rfl ?_
  refine g_X10_act C w_7_7 dX10_goes_238 (n := 241) rfl ?_
  refine v_iload C 2 dX10_goes_241 rfl (n := 243) rfl ?_
  refine v_iconst (v := 1) C dX10_goes_243 (by decide) (n := 244) rfl ?_
  refine v_iadd C dX10_goes_244 (n := 245) rfl ?_
  obtain ⟨hi1, h⟩ := ck_e h
  refine v_ald C aM_2 hi1 dX10_goes_245 (n := 246) rfl ?_
  refine v_iconst (v := 2) C dX10_goes_246 (by decide) (n := 247) rfl ?_
  refine v_icmp_ne C dX10_goes_247 (t := 257) (by decide) (n := 250) rfl (fun c2 => ?_) (fun c2 => ?_)
  · have h := ite_n c2 h
    refine v_sub [0, 1, 2] rfl ?_
    exact t_X10_goes_257 C hk70 x2 x4 S h
  · have h := ite_p c2 h
    refine v_aload_n C 0 dX10_goes_250 rfl rfl (n := 251) rfl ?_
    refine g_X10_lies C w_8_3 dX10_goes_251 (n := 254) rfl ?_
    refine v_iload_n C 1 dX10_goes_254 rfl rfl (n := 255) rfl ?_
    refine v_iconst (v := 1) C dX10_goes_255 (by decide) (n := 256) rfl ?_
    obtain ⟨hi3, h⟩ := ck_e h
    obtain ⟨S4, eS4, h⟩ := lt_e h
    refine v_zst C aM_19 hi3 dX10_goes_256 (n := 257) rfl eS4 ?_
    refine v_sub [0, 1, 2] rfl ?_
    exact t_X10_goes_257 C hk70 x2 x4 S4 h
set_option maxRecDepth 20000 in
set_option maxHeartbeats 2000000 in
theorem t_X10_goes_214 {x : Ctx} (C : Cx x WM cX10_goes RX10 6 rm_X10_goes (some .int)) {res : Int32 × St} {k70 : St → Option (Int32 × St)} (hk70 : ∀  (S : St), k70  S = some res → V x WM 6 (QI x WM res) S 70 [(0, .ref (xq x 0))] []) (x2 : Int32) (s0 : Int32) (s1 : Int32) (S : St) (h : f_X10_goes_214 k70 x2 s0 s1 S = some res) : V x WM 6 (QI x WM res) S 214 [(0, .ref (xq x 0)), (2, .int x2)] [.int s0, .int s1] := by
  unfold f_X10_goes_214 at h
  refine v_iadd C dX10_goes_214 (n := 215) rfl ?_
  obtain ⟨y1, ey1, h⟩ := lt_e h
  refine v_istore (L' := [(4, .int y1), (0, .ref (xq x 0)), (2, .int x2)]) C dX10_goes_215 (by decide) rfl (n := 217) rfl ey1 ?_
  refine v_aload_n C 1 dX10_goes_217 rfl rfl (n := 218) rfl ?_
  refine g_X10_act C w_7_7 dX10_goes_218 (n := 221) rfl ?_
  refine v_iload C 0 dX10_goes_221 rfl (n := 223) rfl ?_
  refine v_iconst (v := 1) C dX10_goes_223 (by decide) (n := 224) rfl ?_
  refine v_iadd C dX10_goes_224 (n := 225) rfl ?_
  obtain ⟨hi2, h⟩ := ck_e h
  refine v_ald C aM_2 hi2 dX10_goes_225 (n := 226) rfl ?_
  refine v_iconst (v := 1) C dX10_goes_226 (by decide) (n := 227) rfl ?_
  refine v_icmp_ne C dX10_goes_227 (t := 237) (by decide) (n := 230) rfl (fun c3 => ?_) (fun c3 => ?_)
  · have h := ite_n c3 h
    refine v_sub [1, 2, 0] rfl ?_
    exact t_X10_goes_237 C hk70 x2 y1 S h
  · have h := ite_p c3 h
    refine v_aload_n C 1 dX10_goes_230 rfl rfl (n := 231) rfl ?_
    refine g_X10_lies C w_8_3 dX10_goes_231 (n := 234) rfl ?_
    refine v_iload_n C 2 dX10_goes_234 rfl rfl (n := 235) rfl ?_
    refine v_iconst (v := 0) C dX10_goes_235 (by decide) (n := 236) rfl ?_
    obtain ⟨hi4, h⟩ := ck_e h
    obtain ⟨S5, eS5, h⟩ := lt_e h
    refine v_zst C aM_19 hi4 dX10_goes_236 (n := 237) rfl eS5 ?_
    refine v_sub [1, 2, 0] rfl ?_
    exact t_X10_goes_237 C hk70 x2 y1 S5 h
set_option maxRecDepth 20000 in
set_option maxHeartbeats 2000000 in
theorem t_X10_goes_209 {x : Ctx} (C : Cx x WM cX10_goes RX10 6 rm_X10_goes (some .int)) {res : Int32 × St} {k70 : St → Option (Int32 × St)} (hk70 : ∀  (S : St), k70  S = some res → V x WM 6 (QI x WM res) S 70 [(0, .ref (xq x 0))] []) (x2 : Int32) (s0 : Int32) (S : St) (h : f_X10_goes_209 k70 x2 s0 S = some res) : V x WM 6 (QI x WM res) S 209 [(0, .ref (xq x 0)), (2, .int x2)] [.int s0] := by
  unfold f_X10_goes_209 at h
  refine v_iconst (v := 0) C dX10_goes_209 (by decide) (n := 210) rfl ?_
  refine v_goto C dX10_goes_210 (n := 214) (by decide) ?_
  refine v_sub [0, 1] rfl ?_
  exact t_X10_goes_214 C hk70 x2 0 s0 S h
set_option maxRecDepth 20000 in
set_option maxHeartbeats 2000000 in
theorem t_X10_goes_70 {x : Ctx} (C : Cx x WM cX10_goes RX10 6 rm_X10_goes (some .int)) {res : Int32 × St} {k70 : St → Option (Int32 × St)} (hk70 : ∀  (S : St), k70  S = some res → V x WM 6 (QI x WM res) S 70 [(0, .ref (xq x 0))] [])  (S : St) (h : f_X10_goes_70 k70  S = some res) : V x WM 6 (QI x WM res) S 70 [(0, .ref (xq x 0))] [] := by
  unfold f_X10_goes_70 at h
  refine v_aload_n C 0 dX10_goes_70 rfl rfl (n := 71) rfl ?_
  refine g_X10_at C w_7_15 dX10_goes_71 (n := 74) rfl ?_
  refine v_aload_n C 0 dX10_goes_74 rfl rfl (n := 75) rfl ?_
  refine g_X10_where C w_22_23 dX10_goes_75 (n := 78) rfl ?_
  obtain ⟨hi1, h⟩ := ck_e h
  refine v_ald C aM_8 hi1 dX10_goes_78 (n := 79) rfl ?_
  obtain ⟨y2, ey2, h⟩ := lt_e h
  refine v_istore_n (L' := [(2, .int y2), (0, .ref (xq x 0))]) C dX10_goes_79 rfl (by decide) rfl (n := 80) rfl ey2 ?_
  refine v_aload_n C 1 dX10_goes_80 rfl rfl (n := 81) rfl ?_
  refine g_X10_out C w_7_9 dX10_goes_81 (n := 84) rfl ?_
  refine v_iload_n C 0 dX10_goes_84 rfl rfl (n := 85) rfl ?_
  obtain ⟨hi3, h⟩ := ck_e h
  refine v_zld C aM_3 hi3 dX10_goes_85 (n := 86) rfl ?_
  refine v_if_eq C dX10_goes_86 (t := 91) (by decide) (n := 89) rfl (fun c4 => ?_) (fun c4 => ?_)
  · have h := ite_p c4 h
    refine v_aload_n C 1 dX10_goes_91 rfl rfl (n := 92) rfl ?_
    obtain ⟨r6, S5, eS5, h⟩ := bI_e h
    refine v_callVI (As := []) C (c_X10_together  S eS5) mf_X10_together w_23_14 (oX10 _ _ _) rfl ⟨rfl, rfl, by decide, by decide⟩ rfl rfl (Nat.le_of_ble_eq_true rfl) dX10_goes_92 (n := 95) rfl ?_
    refine v_istore_n (L' := [(3, .int r6), (2, .int y2), (0, .ref (xq x 0))]) C dX10_goes_95 rfl (by decide) rfl (n := 96) rfl rfl ?_
    refine v_aload_n C 2 dX10_goes_96 rfl rfl (n := 97) rfl ?_
    refine g_X10_beatOf C w_8_2 dX10_goes_97 (n := 100) rfl ?_
    refine v_iload_n C 0 dX10_goes_100 rfl rfl (n := 101) rfl ?_
    obtain ⟨hi7, h⟩ := ck_e h
    refine v_ald C aM_18 hi7 dX10_goes_101 (n := 102) rfl ?_
    refine v_if_le C dX10_goes_102 (t := 132) (by decide) (n := 105) rfl (fun c8 => ?_) (fun c8 => ?_)
    · have h := ite_p c8 h
      refine v_aload_n C 2 dX10_goes_132 rfl rfl (n := 133) rfl ?_
      refine g_X10_was C w_8_0 dX10_goes_133 (n := 136) rfl ?_
      refine v_aload_n C 2 dX10_goes_136 rfl rfl (n := 137) rfl ?_
      refine g_X10_many C w_23_9 dX10_goes_137 (n := 140) rfl ?_
      refine v_iload_n C 0 dX10_goes_140 rfl rfl (n := 141) rfl ?_
      obtain ⟨hi9, h⟩ := ck_e h
      obtain ⟨S10, eS10, h⟩ := lt_e h
      refine v_ast C aM_17 hi9 dX10_goes_141 (n := 142) rfl eS10 ?_
      refine v_aload_n C 2 dX10_goes_142 rfl rfl (n := 143) rfl ?_
      refine v_dup C dX10_goes_143 rfl (n := 144) rfl ?_
      refine g_X10_many C w_23_9 dX10_goes_144 (n := 147) rfl ?_
      refine v_iconst (v := 1) C dX10_goes_147 (by decide) (n := 148) rfl ?_
      refine v_iadd C dX10_goes_148 (n := 149) rfl ?_
      obtain ⟨S11, eS11, h⟩ := lt_e h
      refine p_X10_many C w_23_9 dX10_goes_149 (n := 152) rfl eS11 ?_
      refine v_aload_n C 2 dX10_goes_152 rfl rfl (n := 153) rfl ?_
      refine g_X10_beatOf C w_8_2 dX10_goes_153 (n := 156) rfl ?_
      refine v_iload_n C 0 dX10_goes_156 rfl rfl (n := 157) rfl ?_
      refine v_aload_n C 2 dX10_goes_157 rfl rfl (n := 158) rfl ?_
      refine g_X10_beat C w_22_20 dX10_goes_158 (n := 161) rfl ?_
      refine v_iconst (v := 1) C dX10_goes_161 (by decide) (n := 162) rfl ?_
      refine v_iadd C dX10_goes_162 (n := 163) rfl ?_
      obtain ⟨S12, eS12, h⟩ := lt_e h
      refine v_ast C aM_18 hi7 dX10_goes_163 (n := 164) rfl eS12 ?_
      refine v_aload_n C 2 dX10_goes_164 rfl rfl (n := 165) rfl ?_
      refine g_X10_beat C w_22_20 dX10_goes_165 (n := 168) rfl ?_
      refine v_sipush (v := 1500) C dX10_goes_168 (by decide) (n := 171) rfl ?_
      refine v_icmp_ne C dX10_goes_171 (t := 176) (by decide) (n := 174) rfl (fun c13 => ?_) (fun c13 => ?_)
      · have h := ite_n c13 h
        refine v_bipush (v := 6) C dX10_goes_176 (by decide) (n := 178) rfl ?_
        refine v_aload_n C 2 dX10_goes_178 rfl rfl (n := 179) rfl ?_
        refine g_X10_state C w_23_0 dX10_goes_179 (n := 182) rfl ?_
        refine v_imul C dX10_goes_182 (n := 183) rfl ?_
        refine v_aload_n C 2 dX10_goes_183 rfl rfl (n := 184) rfl ?_
        refine g_X10_act C w_7_7 dX10_goes_184 (n := 187) rfl ?_
        refine v_bipush (v := 6) C dX10_goes_187 (by decide) (n := 189) rfl ?_
        refine v_aload_n C 2 dX10_goes_189 rfl rfl (n := 190) rfl ?_
        refine g_X10_state C w_23_0 dX10_goes_190 (n := 193) rfl ?_
        refine v_imul C dX10_goes_193 (n := 194) rfl ?_
        refine v_iconst (v := 3) C dX10_goes_194 (by decide) (n := 195) rfl ?_
        refine v_iadd C dX10_goes_195 (n := 196) rfl ?_
        obtain ⟨hi14, h⟩ := ck_e h
        refine v_ald C aM_2 hi14 dX10_goes_196 (n := 197) rfl ?_
        refine v_if_lt C dX10_goes_197 (t := 209) (by decide) (n := 200) rfl (fun c15 => ?_) (fun c15 => ?_)
        · have h := ite_p c15 h
          refine v_sub [2, 1] rfl ?_
          exact t_X10_goes_209 C hk70 y2 (6 * (rd S12 0 38)) S12 h
        · have h := ite_n c15 h
          refine v_aload_n C 2 dX10_goes_200 rfl rfl (n := 201) rfl ?_
          refine g_X10_lies C w_8_3 dX10_goes_201 (n := 204) rfl ?_
          refine v_iload_n C 1 dX10_goes_204 rfl rfl (n := 205) rfl ?_
          refine v_zld C aM_19 hi3 dX10_goes_205 (n := 206) rfl ?_
          refine v_if_eq C dX10_goes_206 (t := 213) (by decide) (n := 209) rfl (fun c16 => ?_) (fun c16 => ?_)
          · have h := ite_p c16 h
            refine v_iconst (v := 3) C dX10_goes_213 (by decide) (n := 214) rfl ?_
            refine v_sub [2, 1] rfl ?_
            exact t_X10_goes_214 C hk70 y2 3 (6 * (rd S12 0 38)) S12 h
          · have h := ite_n c16 h
            refine v_sub [2, 1] rfl ?_
            exact t_X10_goes_209 C hk70 y2 (6 * (rd S12 0 38)) S12 h
      · have h := ite_p c13 h
        refine v_iconst (v := 2) C dX10_goes_174 (by decide) (n := 175) rfl ?_
        obtain rfl := Option.some.inj h
        exact v_iret C dX10_goes_175
    · have h := ite_n c8 h
      refine v_aload_n C 2 dX10_goes_105 rfl rfl (n := 106) rfl ?_
      refine v_aload_n C 2 dX10_goes_106 rfl rfl (n := 107) rfl ?_
      refine g_X10_beatOf C w_8_2 dX10_goes_107 (n := 110) rfl ?_
      refine v_iload_n C 0 dX10_goes_110 rfl rfl (n := 111) rfl ?_
      refine v_ald C aM_18 hi7 dX10_goes_111 (n := 112) rfl ?_
      refine v_iconst (v := 1) C dX10_goes_112 (by decide) (n := 113) rfl ?_
      refine v_isub C dX10_goes_113 (n := 114) rfl ?_
      obtain ⟨S17, eS17, h⟩ := lt_e h
      refine p_X10_lead C w_22_21 dX10_goes_114 (n := 117) rfl eS17 ?_
      refine v_aload_n C 2 dX10_goes_117 rfl rfl (n := 118) rfl ?_
      refine v_aload_n C 2 dX10_goes_118 rfl rfl (n := 119) rfl ?_
      refine g_X10_beat C w_22_20 dX10_goes_119 (n := 122) rfl ?_
      refine v_aload_n C 2 dX10_goes_122 rfl rfl (n := 123) rfl ?_
      refine g_X10_lead C w_22_21 dX10_goes_123 (n := 126) rfl ?_
      refine v_isub C dX10_goes_126 (n := 127) rfl ?_
      obtain ⟨S18, eS18, h⟩ := lt_e h
      refine p_X10_lap C w_22_22 dX10_goes_127 (n := 130) rfl eS18 ?_
      refine v_iconst (v := 1) C dX10_goes_130 (by decide) (n := 131) rfl ?_
      obtain rfl := Option.some.inj h
      exact v_iret C dX10_goes_131
  · have h := ite_n c4 h
    refine v_iconst (v := 0) C dX10_goes_89 (by decide) (n := 90) rfl ?_
    obtain rfl := Option.some.inj h
    exact v_iret C dX10_goes_90
theorem tg_X10_goes_70 {x : Ctx} (C : Cx x WM cX10_goes RX10 6 rm_X10_goes (some .int)) {res : Int32 × St}  : ∀ (n : Nat)  (S : St), g_X10_goes_70  n  S = some res → V x WM 6 (QI x WM res) S 70 [(0, .ref (xq x 0))] [] := by
  intro n
  induction n with
  | zero => intro  S h; cases h
  | succ n ih => intro  S h; exact t_X10_goes_70 C (fun  S h => ih  S h)  S h
set_option maxRecDepth 20000 in
set_option maxHeartbeats 2000000 in
theorem t_X10_goes_2 {x : Ctx} (C : Cx x WM cX10_goes RX10 6 rm_X10_goes (some .int)) {res : Int32 × St} {k2 : Int32 → Int32 → St → Option (Int32 × St)} (hk2 : ∀ (x1 : Int32) (x2 : Int32) (S : St), k2 x1 x2 S = some res → V x WM 6 (QI x WM res) S 2 [(0, .ref (xq x 0)), (1, .int x1), (2, .int x2)] []) (x1 : Int32) (x2 : Int32) (S : St) (h : f_X10_goes_2 k2 x1 x2 S = some res) : V x WM 6 (QI x WM res) S 2 [(0, .ref (xq x 0)), (1, .int x1), (2, .int x2)] [] := by
  unfold f_X10_goes_2 at h
  refine v_iload_n C 2 dX10_goes_2 rfl rfl (n := 3) rfl ?_
  refine v_bipush (v := 8) C dX10_goes_3 (by decide) (n := 5) rfl ?_
  refine v_icmp_ge C dX10_goes_5 (t := 42) (by decide) (n := 8) rfl (fun c1 => ?_) (fun c1 => ?_)
  · have h := ite_p c1 h
    refine v_aload_n C 0 dX10_goes_42 rfl rfl (n := 43) rfl ?_
    refine v_iload_n C 1 dX10_goes_43 rfl rfl (n := 44) rfl ?_
    obtain ⟨S2, eS2, h⟩ := lt_e h
    refine p_X10_where C w_22_23 dX10_goes_44 (n := 47) rfl eS2 ?_
    refine v_aload_n C 0 dX10_goes_47 rfl rfl (n := 48) rfl ?_
    refine v_aload_n C 0 dX10_goes_48 rfl rfl (n := 49) rfl ?_
    refine g_X10_first C w_12_22 dX10_goes_49 (n := 52) rfl ?_
    obtain ⟨S3, eS3, h⟩ := lt_e h
    refine p_X10_state C w_23_0 dX10_goes_52 (n := 55) rfl eS3 ?_
    refine v_aload_n C 0 dX10_goes_55 rfl rfl (n := 56) rfl ?_
    refine v_iconst (v := 0) C dX10_goes_56 (by decide) (n := 57) rfl ?_
    obtain ⟨S4, eS4, h⟩ := lt_e h
    refine p_X10_beat C w_22_20 dX10_goes_57 (n := 60) rfl eS4 ?_
    refine v_aload_n C 0 dX10_goes_60 rfl rfl (n := 61) rfl ?_
    refine v_iconst (v := (-1)) C dX10_goes_61 (by decide) (n := 62) rfl ?_
    obtain ⟨S5, eS5, h⟩ := lt_e h
    refine p_X10_lead C w_22_21 dX10_goes_62 (n := 65) rfl eS5 ?_
    refine v_aload_n C 0 dX10_goes_65 rfl rfl (n := 66) rfl ?_
    refine v_iconst (v := (-1)) C dX10_goes_66 (by decide) (n := 67) rfl ?_
    obtain ⟨S6, eS6, h⟩ := lt_e h
    refine p_X10_lap C w_22_22 dX10_goes_67 (n := 70) rfl eS6 ?_
    refine v_sub [0] rfl ?_
    exact tg_X10_goes_70 C  fuel  S6 h
  · have h := ite_n c1 h
    refine v_aload_n C 0 dX10_goes_8 rfl rfl (n := 9) rfl ?_
    refine g_X10_lies C w_8_3 dX10_goes_9 (n := 12) rfl ?_
    refine v_iload_n C 2 dX10_goes_12 rfl rfl (n := 13) rfl ?_
    refine v_iload_n C 2 dX10_goes_13 rfl rfl (n := 14) rfl ?_
    refine v_aload_n C 0 dX10_goes_14 rfl rfl (n := 15) rfl ?_
    refine g_X10_junctions C w_15_10 dX10_goes_15 (n := 18) rfl ?_
    refine v_icmp_ge C dX10_goes_18 (t := 34) (by decide) (n := 21) rfl (fun c7 => ?_) (fun c7 => ?_)
    · have h := ite_p c7 h
      refine v_iconst (v := 0) C dX10_goes_34 (by decide) (n := 35) rfl ?_
      obtain ⟨hi8, h⟩ := ck_e h
      obtain ⟨S9, eS9, h⟩ := lt_e h
      refine v_zst C aM_19 hi8 dX10_goes_35 (n := 36) rfl eS9 ?_
      obtain ⟨y10, ey10, h⟩ := lt_e h
      refine v_iinc (L' := [(2, .int y10), (0, .ref (xq x 0)), (1, .int x1)]) C 2 dX10_goes_36 rfl (by rw [ey10]; rfl) (by decide) rfl (n := 39) rfl ?_
      refine v_goto C dX10_goes_39 (n := 2) (by decide) ?_
      refine v_sub [1, 2, 0] rfl ?_
      exact hk2 x1 y10 S9 h
    · have h := ite_n c7 h
      refine v_aload_n C 0 dX10_goes_21 rfl rfl (n := 22) rfl ?_
      refine g_X10_marked C w_7_10 dX10_goes_22 (n := 25) rfl ?_
      refine v_iload_n C 2 dX10_goes_25 rfl rfl (n := 26) rfl ?_
      obtain ⟨hi11, h⟩ := ck_e h
      refine v_zld C aM_4 hi11 dX10_goes_26 (n := 27) rfl ?_
      refine v_if_eq C dX10_goes_27 (t := 34) (by decide) (n := 30) rfl (fun c12 => ?_) (fun c12 => ?_)
      · have h := ite_p c12 h
        refine v_iconst (v := 0) C dX10_goes_34 (by decide) (n := 35) rfl ?_
        obtain ⟨S13, eS13, h⟩ := lt_e h
        refine v_zst C aM_19 hi11 dX10_goes_35 (n := 36) rfl eS13 ?_
        obtain ⟨y14, ey14, h⟩ := lt_e h
        refine v_iinc (L' := [(2, .int y14), (0, .ref (xq x 0)), (1, .int x1)]) C 2 dX10_goes_36 rfl (by rw [ey14]; rfl) (by decide) rfl (n := 39) rfl ?_
        refine v_goto C dX10_goes_39 (n := 2) (by decide) ?_
        refine v_sub [1, 2, 0] rfl ?_
        exact hk2 x1 y14 S13 h
      · have h := ite_n c12 h
        refine v_iconst (v := 1) C dX10_goes_30 (by decide) (n := 31) rfl ?_
        refine v_goto C dX10_goes_31 (n := 35) (by decide) ?_
        obtain ⟨S15, eS15, h⟩ := lt_e h
        refine v_zst C aM_19 hi11 dX10_goes_35 (n := 36) rfl eS15 ?_
        obtain ⟨y16, ey16, h⟩ := lt_e h
        refine v_iinc (L' := [(2, .int y16), (0, .ref (xq x 0)), (1, .int x1)]) C 2 dX10_goes_36 rfl (by rw [ey16]; rfl) (by decide) rfl (n := 39) rfl ?_
        refine v_goto C dX10_goes_39 (n := 2) (by decide) ?_
        refine v_sub [1, 2, 0] rfl ?_
        exact hk2 x1 y16 S15 h
theorem tg_X10_goes_2 {x : Ctx} (C : Cx x WM cX10_goes RX10 6 rm_X10_goes (some .int)) {res : Int32 × St}  : ∀ (n : Nat) (x1 : Int32) (x2 : Int32) (S : St), g_X10_goes_2  n x1 x2 S = some res → V x WM 6 (QI x WM res) S 2 [(0, .ref (xq x 0)), (1, .int x1), (2, .int x2)] [] := by
  intro n
  induction n with
  | zero => intro x1 x2 S h; cases h
  | succ n ih => intro x1 x2 S h; exact t_X10_goes_2 C (fun x1 x2 S h => ih x1 x2 S h) x1 x2 S h
set_option maxRecDepth 20000 in
set_option maxHeartbeats 2000000 in
theorem t_X10_goes_0 {x : Ctx} (C : Cx x WM cX10_goes RX10 6 rm_X10_goes (some .int)) {res : Int32 × St}  (x1 : Int32) (S : St) (h : f_X10_goes_0  x1 S = some res) : V x WM 6 (QI x WM res) S 0 [(0, .ref (xq x 0)), (1, .int x1)] [] := by
  unfold f_X10_goes_0 at h
  refine v_iconst (v := 0) C dX10_goes_0 (by decide) (n := 1) rfl ?_
  refine v_istore_n (L' := [(2, .int 0), (0, .ref (xq x 0)), (1, .int x1)]) C dX10_goes_1 rfl (by decide) rfl (n := 2) rfl rfl ?_
  refine v_sub [1, 2, 0] rfl ?_
  exact tg_X10_goes_2 C  fuel x1 0 S h
theorem c_X10_goes {l : Launch} {D : va_G} {q : Nat → Nat} {ar : Ar} (a1 : Int32) (S : St) {res : Int32 × St} (h : m_X10_goes a1 S = some res) : MetI l D q ar WM yX10_goes cX10_goes 6 (some .int) rm_X10_goes [.ref (q 0), .int a1] S res := by
  refine metI_of adrM (by decide +kernel) (Nat.le_of_ble_eq_true rfl) (fun x e1 e2 e3 e4 C => ?_)
  subst e1; subst e2; subst e3; subst e4
  exact v_sub [0, 1] rfl (t_X10_goes_0 C a1 S h)
theorem mf_X10_goes : CalV yX10_goes cX10_goes 6 (some .int) RX10 1 := ⟨w_23_13, w_23_11, w_23_12, w_1_5, rfl, by decide +kernel, by decide +kernel, by decide +kernel⟩
/-! LabyrinthGardenModel.walks -/
def f_X10_walks_13 (k13 : Int32 → Int32 → St → Option (Int32 × St)) (x2 : Int32) (x3 : Int32) (S : St) : Option (Int32 × St) :=
  if (rd S 0 42) ≤ x3 then (
    some (x2, S))
  else (
    ck x3 1501 <|
    ck (rd S 17 x3.toNatClampNeg) 196608 <|
    lt (up S 18 (rd S 17 x3.toNatClampNeg).toNatClampNeg 0) fun S4 =>
    lt (x3 + 1 : Int32) fun y5 =>
    k13 x2 y5 S4)
def g_X10_walks_13  : Nat → Int32 → Int32 → St → Option (Int32 × St)
  | 0 => fun _ _ _ => none
  | n + 1 => f_X10_walks_13 (g_X10_walks_13  n)
def f_X10_walks_0  (x1 : Int32) (S : St) : Option (Int32 × St) :=
  lt (up S 0 42 0) fun S1 =>
  bI (m_X10_goes x1 S1) fun r3 S2 =>
  g_X10_walks_13  fuel r3 0 S2
def m_X10_walks (a1 : Int32) (S : St) : Option (Int32 × St) := f_X10_walks_0 a1 S
def rm_X10_walks : Room := { frames := 3, cells := 0, slots := 0, locals := 74 }
set_option maxRecDepth 20000 in
set_option maxHeartbeats 2000000 in
theorem t_X10_walks_13 {x : Ctx} (C : Cx x WM cX10_walks RX10 4 rm_X10_walks (some .int)) {res : Int32 × St} {k13 : Int32 → Int32 → St → Option (Int32 × St)} (hk13 : ∀ (x2 : Int32) (x3 : Int32) (S : St), k13 x2 x3 S = some res → V x WM 4 (QI x WM res) S 13 [(0, .ref (xq x 0)), (2, .int x2), (3, .int x3)] []) (x2 : Int32) (x3 : Int32) (S : St) (h : f_X10_walks_13 k13 x2 x3 S = some res) : V x WM 4 (QI x WM res) S 13 [(0, .ref (xq x 0)), (2, .int x2), (3, .int x3)] [] := by
  unfold f_X10_walks_13 at h
  refine v_iload_n C 2 dX10_walks_13 rfl rfl (n := 14) rfl ?_
  refine v_aload_n C 0 dX10_walks_14 rfl rfl (n := 15) rfl ?_
  refine g_X10_many C w_23_9 dX10_walks_15 (n := 18) rfl ?_
  refine v_icmp_ge C dX10_walks_18 (t := 39) (by decide) (n := 21) rfl (fun c1 => ?_) (fun c1 => ?_)
  · have h := ite_p c1 h
    refine v_iload_n C 1 dX10_walks_39 rfl rfl (n := 40) rfl ?_
    obtain rfl := Option.some.inj h
    exact v_iret C dX10_walks_40
  · have h := ite_n c1 h
    refine v_aload_n C 0 dX10_walks_21 rfl rfl (n := 22) rfl ?_
    refine g_X10_beatOf C w_8_2 dX10_walks_22 (n := 25) rfl ?_
    refine v_aload_n C 0 dX10_walks_25 rfl rfl (n := 26) rfl ?_
    refine g_X10_was C w_8_0 dX10_walks_26 (n := 29) rfl ?_
    refine v_iload_n C 2 dX10_walks_29 rfl rfl (n := 30) rfl ?_
    obtain ⟨hi2, h⟩ := ck_e h
    refine v_ald C aM_17 hi2 dX10_walks_30 (n := 31) rfl ?_
    refine v_iconst (v := 0) C dX10_walks_31 (by decide) (n := 32) rfl ?_
    obtain ⟨hi3, h⟩ := ck_e h
    obtain ⟨S4, eS4, h⟩ := lt_e h
    refine v_ast C aM_18 hi3 dX10_walks_32 (n := 33) rfl eS4 ?_
    obtain ⟨y5, ey5, h⟩ := lt_e h
    refine v_iinc (L' := [(3, .int y5), (0, .ref (xq x 0)), (2, .int x2)]) C 2 dX10_walks_33 rfl (by rw [ey5]; rfl) (by decide) rfl (n := 36) rfl ?_
    refine v_goto C dX10_walks_36 (n := 13) (by decide) ?_
    refine v_sub [1, 2, 0] rfl ?_
    exact hk13 x2 y5 S4 h
theorem tg_X10_walks_13 {x : Ctx} (C : Cx x WM cX10_walks RX10 4 rm_X10_walks (some .int)) {res : Int32 × St}  : ∀ (n : Nat) (x2 : Int32) (x3 : Int32) (S : St), g_X10_walks_13  n x2 x3 S = some res → V x WM 4 (QI x WM res) S 13 [(0, .ref (xq x 0)), (2, .int x2), (3, .int x3)] [] := by
  intro n
  induction n with
  | zero => intro x2 x3 S h; cases h
  | succ n ih => intro x2 x3 S h; exact t_X10_walks_13 C (fun x2 x3 S h => ih x2 x3 S h) x2 x3 S h
set_option maxRecDepth 20000 in
set_option maxHeartbeats 2000000 in
theorem t_X10_walks_0 {x : Ctx} (C : Cx x WM cX10_walks RX10 4 rm_X10_walks (some .int)) {res : Int32 × St}  (x1 : Int32) (S : St) (h : f_X10_walks_0  x1 S = some res) : V x WM 4 (QI x WM res) S 0 [(0, .ref (xq x 0)), (1, .int x1)] [] := by
  unfold f_X10_walks_0 at h
  refine v_aload_n C 0 dX10_walks_0 rfl rfl (n := 1) rfl ?_
  refine v_iconst (v := 0) C dX10_walks_1 (by decide) (n := 2) rfl ?_
  obtain ⟨S1, eS1, h⟩ := lt_e h
  refine p_X10_many C w_23_9 dX10_walks_2 (n := 5) rfl eS1 ?_
  refine v_aload_n C 0 dX10_walks_5 rfl rfl (n := 6) rfl ?_
  refine v_iload_n C 1 dX10_walks_6 rfl rfl (n := 7) rfl ?_
  obtain ⟨r3, S2, eS2, h⟩ := bI_e h
  refine v_callVI (As := [.int x1]) C (c_X10_goes x1 S1 eS2) mf_X10_goes w_23_10 (oX10 _ _ _) rfl ⟨rfl, rfl, by decide, by decide⟩ rfl rfl (Nat.le_of_ble_eq_true rfl) dX10_walks_7 (n := 10) rfl ?_
  refine v_istore_n (L' := [(2, .int r3), (0, .ref (xq x 0)), (1, .int x1)]) C dX10_walks_10 rfl (by decide) rfl (n := 11) rfl rfl ?_
  refine v_iconst (v := 0) C dX10_walks_11 (by decide) (n := 12) rfl ?_
  refine v_istore_n (L' := [(3, .int 0), (2, .int r3), (0, .ref (xq x 0)), (1, .int x1)]) C dX10_walks_12 rfl (by decide) rfl (n := 13) rfl rfl ?_
  refine v_sub [2, 1, 0] rfl ?_
  exact tg_X10_walks_13 C  fuel r3 0 S2 h
theorem c_X10_walks {l : Launch} {D : va_G} {q : Nat → Nat} {ar : Ar} (a1 : Int32) (S : St) {res : Int32 × St} (h : m_X10_walks a1 S = some res) : MetI l D q ar WM yX10_walks cX10_walks 4 (some .int) rm_X10_walks [.ref (q 0), .int a1] S res := by
  refine metI_of adrM (by decide +kernel) (Nat.le_of_ble_eq_true rfl) (fun x e1 e2 e3 e4 C => ?_)
  subst e1; subst e2; subst e3; subst e4
  exact v_sub [0, 1] rfl (t_X10_walks_0 C a1 S h)
theorem mf_X10_walks : CalV yX10_walks cX10_walks 4 (some .int) RX10 1 := ⟨w_23_8, w_23_6, w_23_7, w_1_5, rfl, by decide +kernel, by decide +kernel, by decide +kernel⟩
/-! LabyrinthGardenModel.walk -/
def f_X10_walk_100 (k100 : Int32 → Int32 → St → Option (Int32 × St)) (x2 : Int32) (x3 : Int32) (S : St) : Option (Int32 × St) :=
  if 8 ≤ x3 then (
    some (x2, S))
  else (
    ck x3 8 <|
    if (rd S 19 x3.toNatClampNeg) = 0 then (
      lt (up S 20 (5 : Int32).toNatClampNeg ((rd S 20 (5 : Int32).toNatClampNeg) + 0)) fun S4 =>
      lt (x3 + 1 : Int32) fun y5 =>
      k100 x2 y5 S4)
    else (
      lt (up S 20 (5 : Int32).toNatClampNeg ((rd S 20 (5 : Int32).toNatClampNeg) + 1)) fun S6 =>
      lt (x3 + 1 : Int32) fun y7 =>
      k100 x2 y7 S6))
def g_X10_walk_100  : Nat → Int32 → Int32 → St → Option (Int32 × St)
  | 0 => fun _ _ _ => none
  | n + 1 => f_X10_walk_100 (g_X10_walk_100  n)
def f_X10_walk_50  (x2 : Int32) (s0 : Int32) (S : St) : Option (Int32 × St) :=
  lt (up S 20 (0 : Int32).toNatClampNeg s0) fun S1 =>
  lt (up S1 20 (1 : Int32).toNatClampNeg (rd S1 0 40)) fun S2 =>
  lt (up S2 20 (2 : Int32).toNatClampNeg (rd S2 0 41)) fun S3 =>
  lt (up S3 20 (3 : Int32).toNatClampNeg (rd S3 0 37)) fun S4 =>
  lt (up S4 20 (4 : Int32).toNatClampNeg (rd S4 0 38)) fun S5 =>
  lt (up S5 20 (5 : Int32).toNatClampNeg 0) fun S6 =>
  g_X10_walk_100  fuel x2 0 S6
def f_X10_walk_0  (x1 : Int32) (S : St) : Option (Int32 × St) :=
  lt (up S 0 2 0) fun S1 =>
  if (rd S1 0 5) = 0 then (
    some ((-1), S1))
  else (
    bI (m_X10_isPlace x1 S1) fun r4 S3 =>
    if r4 = 0 then (
      some ((-1), S3))
    else (
      bI (m_X10_walks x1 S3) fun r7 S6 =>
      lt (up S6 0 43 1) fun S8 =>
      if r7 = 0 then (
        f_X10_walk_50  r7 (rd S8 0 39) S8)
      else (
        f_X10_walk_50  r7 (-1) S8)))
def m_X10_walk (a1 : Int32) (S : St) : Option (Int32 × St) := f_X10_walk_0 a1 S
def rm_X10_walk : Room := { frames := 4, cells := 0, slots := 0, locals := 97 }
set_option maxRecDepth 20000 in
set_option maxHeartbeats 2000000 in
theorem t_X10_walk_100 {x : Ctx} (C : Cx x WM cX10_walk RX10 4 rm_X10_walk (some .int)) {res : Int32 × St} {k100 : Int32 → Int32 → St → Option (Int32 × St)} (hk100 : ∀ (x2 : Int32) (x3 : Int32) (S : St), k100 x2 x3 S = some res → V x WM 4 (QI x WM res) S 100 [(0, .ref (xq x 0)), (2, .int x2), (3, .int x3)] []) (x2 : Int32) (x3 : Int32) (S : St) (h : f_X10_walk_100 k100 x2 x3 S = some res) : V x WM 4 (QI x WM res) S 100 [(0, .ref (xq x 0)), (2, .int x2), (3, .int x3)] [] := by
  unfold f_X10_walk_100 at h
  refine v_iload_n C 2 dX10_walk_100 rfl rfl (n := 101) rfl ?_
  refine v_bipush (v := 8) C dX10_walk_101 (by decide) (n := 103) rfl ?_
  refine v_icmp_ge C dX10_walk_103 (t := 135) (by decide) (n := 106) rfl (fun c1 => ?_) (fun c1 => ?_)
  · have h := ite_p c1 h
    refine v_iload_n C 1 dX10_walk_135 rfl rfl (n := 136) rfl ?_
    obtain rfl := Option.some.inj h
    exact v_iret C dX10_walk_136
  · have h := ite_n c1 h
    refine v_aload_n C 0 dX10_walk_106 rfl rfl (n := 107) rfl ?_
    refine g_X10_walkTold C w_8_4 dX10_walk_107 (n := 110) rfl ?_
    refine v_iconst (v := 5) C dX10_walk_110 (by decide) (n := 111) rfl ?_
    refine v_dup2 C dX10_walk_111 rfl rfl (n := 112) rfl ?_
    refine v_ald C aM_20 (show vp_in 5 6 by unfold vp_in; decide) dX10_walk_112 (n := 113) rfl ?_
    refine v_aload_n C 0 dX10_walk_113 rfl rfl (n := 114) rfl ?_
    refine g_X10_lies C w_8_3 dX10_walk_114 (n := 117) rfl ?_
    refine v_iload_n C 2 dX10_walk_117 rfl rfl (n := 118) rfl ?_
    obtain ⟨hi2, h⟩ := ck_e h
    refine v_zld C aM_19 hi2 dX10_walk_118 (n := 119) rfl ?_
    refine v_if_eq C dX10_walk_119 (t := 126) (by decide) (n := 122) rfl (fun c3 => ?_) (fun c3 => ?_)
    · have h := ite_p c3 h
      refine v_iconst (v := 0) C dX10_walk_126 (by decide) (n := 127) rfl ?_
      refine v_iadd C dX10_walk_127 (n := 128) rfl ?_
      obtain ⟨S4, eS4, h⟩ := lt_e h
      refine v_ast C aM_20 (show vp_in 5 6 by unfold vp_in; decide) dX10_walk_128 (n := 129) rfl eS4 ?_
      obtain ⟨y5, ey5, h⟩ := lt_e h
      refine v_iinc (L' := [(3, .int y5), (0, .ref (xq x 0)), (2, .int x2)]) C 2 dX10_walk_129 rfl (by rw [ey5]; rfl) (by decide) rfl (n := 132) rfl ?_
      refine v_goto C dX10_walk_132 (n := 100) (by decide) ?_
      refine v_sub [1, 2, 0] rfl ?_
      exact hk100 x2 y5 S4 h
    · have h := ite_n c3 h
      refine v_iconst (v := 1) C dX10_walk_122 (by decide) (n := 123) rfl ?_
      refine v_goto C dX10_walk_123 (n := 127) (by decide) ?_
      refine v_iadd C dX10_walk_127 (n := 128) rfl ?_
      obtain ⟨S6, eS6, h⟩ := lt_e h
      refine v_ast C aM_20 (show vp_in 5 6 by unfold vp_in; decide) dX10_walk_128 (n := 129) rfl eS6 ?_
      obtain ⟨y7, ey7, h⟩ := lt_e h
      refine v_iinc (L' := [(3, .int y7), (0, .ref (xq x 0)), (2, .int x2)]) C 2 dX10_walk_129 rfl (by rw [ey7]; rfl) (by decide) rfl (n := 132) rfl ?_
      refine v_goto C dX10_walk_132 (n := 100) (by decide) ?_
      refine v_sub [1, 2, 0] rfl ?_
      exact hk100 x2 y7 S6 h
theorem tg_X10_walk_100 {x : Ctx} (C : Cx x WM cX10_walk RX10 4 rm_X10_walk (some .int)) {res : Int32 × St}  : ∀ (n : Nat) (x2 : Int32) (x3 : Int32) (S : St), g_X10_walk_100  n x2 x3 S = some res → V x WM 4 (QI x WM res) S 100 [(0, .ref (xq x 0)), (2, .int x2), (3, .int x3)] [] := by
  intro n
  induction n with
  | zero => intro x2 x3 S h; cases h
  | succ n ih => intro x2 x3 S h; exact t_X10_walk_100 C (fun x2 x3 S h => ih x2 x3 S h) x2 x3 S h
set_option maxRecDepth 20000 in
set_option maxHeartbeats 2000000 in
theorem t_X10_walk_50 {x : Ctx} (C : Cx x WM cX10_walk RX10 4 rm_X10_walk (some .int)) {res : Int32 × St}  (x2 : Int32) (s0 : Int32) (S : St) (h : f_X10_walk_50  x2 s0 S = some res) : V x WM 4 (QI x WM res) S 50 [(0, .ref (xq x 0)), (2, .int x2)] [.int s0, .int 0, .ref (xq x 20)] := by
  unfold f_X10_walk_50 at h
  obtain ⟨S1, eS1, h⟩ := lt_e h
  refine v_ast C aM_20 (show vp_in 0 6 by unfold vp_in; decide) dX10_walk_50 (n := 51) rfl eS1 ?_
  refine v_aload_n C 0 dX10_walk_51 rfl rfl (n := 52) rfl ?_
  refine g_X10_walkTold C w_8_4 dX10_walk_52 (n := 55) rfl ?_
  refine v_iconst (v := 1) C dX10_walk_55 (by decide) (n := 56) rfl ?_
  refine v_aload_n C 0 dX10_walk_56 rfl rfl (n := 57) rfl ?_
  refine g_X10_lead C w_22_21 dX10_walk_57 (n := 60) rfl ?_
  obtain ⟨S2, eS2, h⟩ := lt_e h
  refine v_ast C aM_20 (show vp_in 1 6 by unfold vp_in; decide) dX10_walk_60 (n := 61) rfl eS2 ?_
  refine v_aload_n C 0 dX10_walk_61 rfl rfl (n := 62) rfl ?_
  refine g_X10_walkTold C w_8_4 dX10_walk_62 (n := 65) rfl ?_
  refine v_iconst (v := 2) C dX10_walk_65 (by decide) (n := 66) rfl ?_
  refine v_aload_n C 0 dX10_walk_66 rfl rfl (n := 67) rfl ?_
  refine g_X10_lap C w_22_22 dX10_walk_67 (n := 70) rfl ?_
  obtain ⟨S3, eS3, h⟩ := lt_e h
  refine v_ast C aM_20 (show vp_in 2 6 by unfold vp_in; decide) dX10_walk_70 (n := 71) rfl eS3 ?_
  refine v_aload_n C 0 dX10_walk_71 rfl rfl (n := 72) rfl ?_
  refine g_X10_walkTold C w_8_4 dX10_walk_72 (n := 75) rfl ?_
  refine v_iconst (v := 3) C dX10_walk_75 (by decide) (n := 76) rfl ?_
  refine v_aload_n C 0 dX10_walk_76 rfl rfl (n := 77) rfl ?_
  refine g_X10_where C w_22_23 dX10_walk_77 (n := 80) rfl ?_
  obtain ⟨S4, eS4, h⟩ := lt_e h
  refine v_ast C aM_20 (show vp_in 3 6 by unfold vp_in; decide) dX10_walk_80 (n := 81) rfl eS4 ?_
  refine v_aload_n C 0 dX10_walk_81 rfl rfl (n := 82) rfl ?_
  refine g_X10_walkTold C w_8_4 dX10_walk_82 (n := 85) rfl ?_
  refine v_iconst (v := 4) C dX10_walk_85 (by decide) (n := 86) rfl ?_
  refine v_aload_n C 0 dX10_walk_86 rfl rfl (n := 87) rfl ?_
  refine g_X10_state C w_23_0 dX10_walk_87 (n := 90) rfl ?_
  obtain ⟨S5, eS5, h⟩ := lt_e h
  refine v_ast C aM_20 (show vp_in 4 6 by unfold vp_in; decide) dX10_walk_90 (n := 91) rfl eS5 ?_
  refine v_aload_n C 0 dX10_walk_91 rfl rfl (n := 92) rfl ?_
  refine g_X10_walkTold C w_8_4 dX10_walk_92 (n := 95) rfl ?_
  refine v_iconst (v := 5) C dX10_walk_95 (by decide) (n := 96) rfl ?_
  refine v_iconst (v := 0) C dX10_walk_96 (by decide) (n := 97) rfl ?_
  obtain ⟨S6, eS6, h⟩ := lt_e h
  refine v_ast C aM_20 (show vp_in 5 6 by unfold vp_in; decide) dX10_walk_97 (n := 98) rfl eS6 ?_
  refine v_iconst (v := 0) C dX10_walk_98 (by decide) (n := 99) rfl ?_
  refine v_istore_n (L' := [(3, .int 0), (0, .ref (xq x 0)), (2, .int x2)]) C dX10_walk_99 rfl (by decide) rfl (n := 100) rfl rfl ?_
  refine v_sub [1, 2, 0] rfl ?_
  exact tg_X10_walk_100 C  fuel x2 0 S6 h
set_option maxRecDepth 20000 in
set_option maxHeartbeats 2000000 in
theorem t_X10_walk_0 {x : Ctx} (C : Cx x WM cX10_walk RX10 4 rm_X10_walk (some .int)) {res : Int32 × St}  (x1 : Int32) (S : St) (h : f_X10_walk_0  x1 S = some res) : V x WM 4 (QI x WM res) S 0 [(0, .ref (xq x 0)), (1, .int x1)] [] := by
  unfold f_X10_walk_0 at h
  refine v_aload_n C 0 dX10_walk_0 rfl rfl (n := 1) rfl ?_
  refine v_iconst (v := 0) C dX10_walk_1 (by decide) (n := 2) rfl ?_
  obtain ⟨S1, eS1, h⟩ := lt_e h
  refine p_X10_thrown C w_9_5 dX10_walk_2 (n := 5) rfl eS1 ?_
  refine v_aload_n C 0 dX10_walk_5 rfl rfl (n := 6) rfl ?_
  refine g_X10_lines C w_12_20 dX10_walk_6 (n := 9) rfl ?_
  refine v_if_eq C dX10_walk_9 (t := 20) (by decide) (n := 12) rfl (fun c2 => ?_) (fun c2 => ?_)
  · have h := ite_p c2 h
    refine v_iconst (v := (-1)) C dX10_walk_20 (by decide) (n := 21) rfl ?_
    obtain rfl := Option.some.inj h
    exact v_iret C dX10_walk_21
  · have h := ite_n c2 h
    refine v_aload_n C 0 dX10_walk_12 rfl rfl (n := 13) rfl ?_
    refine v_iload_n C 1 dX10_walk_13 rfl rfl (n := 14) rfl ?_
    obtain ⟨r4, S3, eS3, h⟩ := bI_e h
    refine v_callVI (As := [.int x1]) C (c_X10_isPlace x1 S1 eS3) mf_X10_isPlace w_23_1 (oX10 _ _ _) rfl ⟨rfl, rfl, by decide, by decide⟩ rfl rfl (Nat.le_of_ble_eq_true rfl) dX10_walk_14 (n := 17) rfl ?_
    refine v_if_ne C dX10_walk_17 (t := 22) (by decide) (n := 20) rfl (fun c5 => ?_) (fun c5 => ?_)
    · have h := ite_n c5 h
      refine v_aload_n C 0 dX10_walk_22 rfl rfl (n := 23) rfl ?_
      refine v_iload_n C 1 dX10_walk_23 rfl rfl (n := 24) rfl ?_
      obtain ⟨r7, S6, eS6, h⟩ := bI_e h
      refine v_callVI (As := [.int x1]) C (c_X10_walks x1 S3 eS6) mf_X10_walks w_23_5 (oX10 _ _ _) rfl ⟨rfl, rfl, by decide, by decide⟩ rfl rfl (Nat.le_of_ble_eq_true rfl) dX10_walk_24 (n := 27) rfl ?_
      refine v_istore_n (L' := [(2, .int r7), (0, .ref (xq x 0)), (1, .int x1)]) C dX10_walk_27 rfl (by decide) rfl (n := 28) rfl rfl ?_
      refine v_aload_n C 1 dX10_walk_28 rfl rfl (n := 29) rfl ?_
      refine v_iconst (v := 1) C dX10_walk_29 (by decide) (n := 30) rfl ?_
      obtain ⟨S8, eS8, h⟩ := lt_e h
      refine p_X10_isWalk C (Or.inr rfl) w_22_19 dX10_walk_30 (n := 33) rfl eS8 ?_
      refine v_aload_n C 1 dX10_walk_33 rfl rfl (n := 34) rfl ?_
      refine g_X10_walkTold C w_8_4 dX10_walk_34 (n := 37) rfl ?_
      refine v_iconst (v := 0) C dX10_walk_37 (by decide) (n := 38) rfl ?_
      refine v_iload_n C 0 dX10_walk_38 rfl rfl (n := 39) rfl ?_
      refine v_if_ne C dX10_walk_39 (t := 49) (by decide) (n := 42) rfl (fun c9 => ?_) (fun c9 => ?_)
      · have h := ite_n c9 h
        refine v_iconst (v := (-1)) C dX10_walk_49 (by decide) (n := 50) rfl ?_
        refine v_sub [1, 0] rfl ?_
        exact t_X10_walk_50 C  r7 (-1) S8 h
      · have h := ite_p c9 h
        refine v_aload_n C 1 dX10_walk_42 rfl rfl (n := 43) rfl ?_
        refine g_X10_beat C w_22_20 dX10_walk_43 (n := 46) rfl ?_
        refine v_goto C dX10_walk_46 (n := 50) (by decide) ?_
        refine v_sub [1, 0] rfl ?_
        exact t_X10_walk_50 C  r7 (rd S8 0 39) S8 h
    · have h := ite_p c5 h
      refine v_iconst (v := (-1)) C dX10_walk_20 (by decide) (n := 21) rfl ?_
      obtain rfl := Option.some.inj h
      exact v_iret C dX10_walk_21
theorem c_X10_walk {l : Launch} {D : va_G} {q : Nat → Nat} {ar : Ar} (a1 : Int32) (S : St) {res : Int32 × St} (h : m_X10_walk a1 S = some res) : MetI l D q ar WM yX10_walk cX10_walk 4 (some .int) rm_X10_walk [.ref (q 0), .int a1] S res := by
  refine metI_of adrM (by decide +kernel) (Nat.le_of_ble_eq_true rfl) (fun x e1 e2 e3 e4 C => ?_)
  subst e1; subst e2; subst e3; subst e4
  exact v_sub [0, 1] rfl (t_X10_walk_0 C a1 S h)
theorem mf_X10_walk : CalV yX10_walk cX10_walk 4 (some .int) RX10 1 := ⟨w_22_18, w_22_16, w_22_17, w_1_5, rfl, by decide +kernel, by decide +kernel, by decide +kernel⟩
/-! LabyrinthGardenModel.walked -/
def f_X10_walked_0  (x1 : Int32) (S : St) : Option (Int32 × St) :=
  lt (up S 0 2 0) fun S1 =>
  if (rd S1 0 43) = 0 then (
    some ((-1), S1))
  else (
    if x1 < 0 then (
      some ((-1), S1))
    else (
      if x1 ≤ 5 then (
        ck x1 6 <|
        some ((rd S1 20 x1.toNatClampNeg), S1))
      else (
        some ((-1), S1))))
def m_X10_walked (a1 : Int32) (S : St) : Option (Int32 × St) := f_X10_walked_0 a1 S
def rm_X10_walked : Room := { frames := 0, cells := 0, slots := 0, locals := 0 }
set_option maxRecDepth 20000 in
set_option maxHeartbeats 2000000 in
theorem t_X10_walked_0 {x : Ctx} (C : Cx x WM cX10_walked RX10 2 rm_X10_walked (some .int)) {res : Int32 × St}  (x1 : Int32) (S : St) (h : f_X10_walked_0  x1 S = some res) : V x WM 2 (QI x WM res) S 0 [(0, .ref (xq x 0)), (1, .int x1)] [] := by
  unfold f_X10_walked_0 at h
  refine v_aload_n C 0 dX10_walked_0 rfl rfl (n := 1) rfl ?_
  refine v_iconst (v := 0) C dX10_walked_1 (by decide) (n := 2) rfl ?_
  obtain ⟨S1, eS1, h⟩ := lt_e h
  refine p_X10_thrown C w_9_5 dX10_walked_2 (n := 5) rfl eS1 ?_
  refine v_aload_n C 0 dX10_walked_5 rfl rfl (n := 6) rfl ?_
  refine g_X10_isWalk C w_22_19 dX10_walked_6 (n := 9) rfl ?_
  refine v_if_eq C dX10_walked_9 (t := 21) (by decide) (n := 12) rfl (fun c2 => ?_) (fun c2 => ?_)
  · have h := ite_p c2 h
    refine v_iconst (v := (-1)) C dX10_walked_21 (by decide) (n := 22) rfl ?_
    refine v_goto C dX10_walked_22 (n := 31) (by decide) ?_
    obtain rfl := Option.some.inj h
    exact v_iret C dX10_walked_31
  · have h := ite_n c2 h
    refine v_iload_n C 1 dX10_walked_12 rfl rfl (n := 13) rfl ?_
    refine v_if_lt C dX10_walked_13 (t := 21) (by decide) (n := 16) rfl (fun c3 => ?_) (fun c3 => ?_)
    · have h := ite_p c3 h
      refine v_iconst (v := (-1)) C dX10_walked_21 (by decide) (n := 22) rfl ?_
      refine v_goto C dX10_walked_22 (n := 31) (by decide) ?_
      obtain rfl := Option.some.inj h
      exact v_iret C dX10_walked_31
    · have h := ite_n c3 h
      refine v_iload_n C 1 dX10_walked_16 rfl rfl (n := 17) rfl ?_
      refine v_iconst (v := 5) C dX10_walked_17 (by decide) (n := 18) rfl ?_
      refine v_icmp_le C dX10_walked_18 (t := 25) (by decide) (n := 21) rfl (fun c4 => ?_) (fun c4 => ?_)
      · have h := ite_p c4 h
        refine v_aload_n C 0 dX10_walked_25 rfl rfl (n := 26) rfl ?_
        refine g_X10_walkTold C w_8_4 dX10_walked_26 (n := 29) rfl ?_
        refine v_iload_n C 1 dX10_walked_29 rfl rfl (n := 30) rfl ?_
        obtain ⟨hi5, h⟩ := ck_e h
        refine v_ald C aM_20 hi5 dX10_walked_30 (n := 31) rfl ?_
        obtain rfl := Option.some.inj h
        exact v_iret C dX10_walked_31
      · have h := ite_n c4 h
        refine v_iconst (v := (-1)) C dX10_walked_21 (by decide) (n := 22) rfl ?_
        refine v_goto C dX10_walked_22 (n := 31) (by decide) ?_
        obtain rfl := Option.some.inj h
        exact v_iret C dX10_walked_31
theorem c_X10_walked {l : Launch} {D : va_G} {q : Nat → Nat} {ar : Ar} (a1 : Int32) (S : St) {res : Int32 × St} (h : m_X10_walked a1 S = some res) : MetI l D q ar WM yX10_walked cX10_walked 2 (some .int) rm_X10_walked [.ref (q 0), .int a1] S res := by
  refine metI_of adrM (by decide +kernel) (Nat.le_of_ble_eq_true rfl) (fun x e1 e2 e3 e4 C => ?_)
  subst e1; subst e2; subst e3; subst e4
  exact v_sub [0, 1] rfl (t_X10_walked_0 C a1 S h)
theorem mf_X10_walked : CalV yX10_walked cX10_walked 2 (some .int) RX10 1 := ⟨w_24_10, w_24_8, w_24_9, w_1_5, rfl, by decide +kernel, by decide +kernel, by decide +kernel⟩
/-! LabyrinthGardenModel.allOut -/
def f_X10_allOut_2 (k2 : Int32 → St → Option (Int32 × St)) (x1 : Int32) (S : St) : Option (Int32 × St) :=
  if (rd S 0 16) ≤ x1 then (
    some (1, S))
  else (
    bI (m_X10_walks x1 S) fun r3 S2 =>
    if r3 = 0 then (
      lt (x1 + 1 : Int32) fun y5 =>
      k2 y5 S2)
    else (
      some (0, S2)))
def g_X10_allOut_2  : Nat → Int32 → St → Option (Int32 × St)
  | 0 => fun _ _ => none
  | n + 1 => f_X10_allOut_2 (g_X10_allOut_2  n)
def f_X10_allOut_0   (S : St) : Option (Int32 × St) :=
  g_X10_allOut_2  fuel 0 S
def m_X10_allOut  (S : St) : Option (Int32 × St) := f_X10_allOut_0  S
def rm_X10_allOut : Room := { frames := 4, cells := 0, slots := 0, locals := 97 }
set_option maxRecDepth 20000 in
set_option maxHeartbeats 2000000 in
theorem t_X10_allOut_2 {x : Ctx} (C : Cx x WM cX10_allOut RX10 2 rm_X10_allOut (some .boolean)) {res : Int32 × St} {k2 : Int32 → St → Option (Int32 × St)} (hk2 : ∀ (x1 : Int32) (S : St), k2 x1 S = some res → V x WM 2 (QI x WM res) S 2 [(0, .ref (xq x 0)), (1, .int x1)] []) (x1 : Int32) (S : St) (h : f_X10_allOut_2 k2 x1 S = some res) : V x WM 2 (QI x WM res) S 2 [(0, .ref (xq x 0)), (1, .int x1)] [] := by
  unfold f_X10_allOut_2 at h
  refine v_iload_n C 1 dX10_allOut_2 rfl rfl (n := 3) rfl ?_
  refine v_aload_n C 0 dX10_allOut_3 rfl rfl (n := 4) rfl ?_
  refine g_X10_places C w_15_16 dX10_allOut_4 (n := 7) rfl ?_
  refine v_icmp_ge C dX10_allOut_7 (t := 26) (by decide) (n := 10) rfl (fun c1 => ?_) (fun c1 => ?_)
  · have h := ite_p c1 h
    refine v_iconst (v := 1) C dX10_allOut_26 (by decide) (n := 27) rfl ?_
    obtain rfl := Option.some.inj h
    exact v_zret C (Or.inr rfl) dX10_allOut_27
  · have h := ite_n c1 h
    refine v_aload_n C 0 dX10_allOut_10 rfl rfl (n := 11) rfl ?_
    refine v_iload_n C 1 dX10_allOut_11 rfl rfl (n := 12) rfl ?_
    obtain ⟨r3, S2, eS2, h⟩ := bI_e h
    refine v_callVI (As := [.int x1]) C (c_X10_walks x1 S eS2) mf_X10_walks w_23_5 (oX10 _ _ _) rfl ⟨rfl, rfl, by decide, by decide⟩ rfl rfl (Nat.le_of_ble_eq_true rfl) dX10_allOut_12 (n := 15) rfl ?_
    refine v_if_eq C dX10_allOut_15 (t := 20) (by decide) (n := 18) rfl (fun c4 => ?_) (fun c4 => ?_)
    · have h := ite_p c4 h
      obtain ⟨y5, ey5, h⟩ := lt_e h
      refine v_iinc (L' := [(1, .int y5), (0, .ref (xq x 0))]) C 1 dX10_allOut_20 rfl (by rw [ey5]; rfl) (by decide) rfl (n := 23) rfl ?_
      refine v_goto C dX10_allOut_23 (n := 2) (by decide) ?_
      refine v_sub [1, 0] rfl ?_
      exact hk2 y5 S2 h
    · have h := ite_n c4 h
      refine v_iconst (v := 0) C dX10_allOut_18 (by decide) (n := 19) rfl ?_
      obtain rfl := Option.some.inj h
      exact v_zret C (Or.inl rfl) dX10_allOut_19
theorem tg_X10_allOut_2 {x : Ctx} (C : Cx x WM cX10_allOut RX10 2 rm_X10_allOut (some .boolean)) {res : Int32 × St}  : ∀ (n : Nat) (x1 : Int32) (S : St), g_X10_allOut_2  n x1 S = some res → V x WM 2 (QI x WM res) S 2 [(0, .ref (xq x 0)), (1, .int x1)] [] := by
  intro n
  induction n with
  | zero => intro x1 S h; cases h
  | succ n ih => intro x1 S h; exact t_X10_allOut_2 C (fun x1 S h => ih x1 S h) x1 S h
set_option maxRecDepth 20000 in
set_option maxHeartbeats 2000000 in
theorem t_X10_allOut_0 {x : Ctx} (C : Cx x WM cX10_allOut RX10 2 rm_X10_allOut (some .boolean)) {res : Int32 × St}   (S : St) (h : f_X10_allOut_0   S = some res) : V x WM 2 (QI x WM res) S 0 [(0, .ref (xq x 0))] [] := by
  unfold f_X10_allOut_0 at h
  refine v_iconst (v := 0) C dX10_allOut_0 (by decide) (n := 1) rfl ?_
  refine v_istore_n (L' := [(1, .int 0), (0, .ref (xq x 0))]) C dX10_allOut_1 rfl (by decide) rfl (n := 2) rfl rfl ?_
  refine v_sub [1, 0] rfl ?_
  exact tg_X10_allOut_2 C  fuel 0 S h
theorem c_X10_allOut {l : Launch} {D : va_G} {q : Nat → Nat} {ar : Ar}  (S : St) {res : Int32 × St} (h : m_X10_allOut  S = some res) : MetI l D q ar WM yX10_allOut cX10_allOut 2 (some .boolean) rm_X10_allOut [.ref (q 0)] S res := by
  refine metI_of adrM (by decide +kernel) (Nat.le_of_ble_eq_true rfl) (fun x e1 e2 e3 e4 C => ?_)
  subst e1; subst e2; subst e3; subst e4
  exact v_sub [0] rfl (t_X10_allOut_0 C  S h)
theorem mf_X10_allOut : CalV yX10_allOut cX10_allOut 2 (some .boolean) RX10 0 := ⟨w_26_13, w_26_11, w_26_12, w_1_5, rfl, by decide +kernel, by decide +kernel, by decide +kernel⟩
/-! LabyrinthGardenModel.lost -/
def f_X10_lost_20 (k20 : Int64 → Int32 → St → Option (Int64 × St)) (x1 : Int64) (x3 : Int32) (S : St) : Option (Int64 × St) :=
  if (rd S 0 16) ≤ x3 then (
    some (x1, S))
  else (
    bI (m_X10_walks x3 S) fun r3 S2 =>
    if r3 = 0 then (
      lt ((x1 ||| 0) : Int64) fun y5 =>
      lt (x3 + 1 : Int32) fun y6 =>
      k20 y5 y6 S2)
    else (
      lt ((x1 ||| (lshl 1 x3)) : Int64) fun y7 =>
      lt (x3 + 1 : Int32) fun y8 =>
      k20 y7 y8 S2))
def g_X10_lost_20  : Nat → Int64 → Int32 → St → Option (Int64 × St)
  | 0 => fun _ _ _ => none
  | n + 1 => f_X10_lost_20 (g_X10_lost_20  n)
def f_X10_lost_0   (S : St) : Option (Int64 × St) :=
  lt (up S 0 2 0) fun S1 =>
  if (rd S1 0 5) = 0 then (
    some ((-1), S1))
  else (
    g_X10_lost_20  fuel 0 0 S1)
def m_X10_lost  (S : St) : Option (Int64 × St) := f_X10_lost_0  S
def rm_X10_lost : Room := { frames := 4, cells := 0, slots := 0, locals := 97 }
set_option maxRecDepth 20000 in
set_option maxHeartbeats 2000000 in
theorem t_X10_lost_20 {x : Ctx} (C : Cx x WM cX10_lost RX10 4 rm_X10_lost (some .long)) {res : Int64 × St} {k20 : Int64 → Int32 → St → Option (Int64 × St)} (hk20 : ∀ (x1 : Int64) (x3 : Int32) (S : St), k20 x1 x3 S = some res → V x WM 4 (QL x WM res) S 20 [(0, .ref (xq x 0)), (1, .long x1), (3, .int x3)] []) (x1 : Int64) (x3 : Int32) (S : St) (h : f_X10_lost_20 k20 x1 x3 S = some res) : V x WM 4 (QL x WM res) S 20 [(0, .ref (xq x 0)), (1, .long x1), (3, .int x3)] [] := by
  unfold f_X10_lost_20 at h
  refine v_iload_n C 2 dX10_lost_20 rfl rfl (n := 21) rfl ?_
  refine v_aload_n C 0 dX10_lost_21 rfl rfl (n := 22) rfl ?_
  refine g_X10_places C w_15_16 dX10_lost_22 (n := 25) rfl ?_
  refine v_icmp_ge C dX10_lost_25 (t := 52) (by decide) (n := 28) rfl (fun c1 => ?_) (fun c1 => ?_)
  · have h := ite_p c1 h
    refine v_lload_n C 1 dX10_lost_52 rfl rfl (n := 53) rfl ?_
    obtain rfl := Option.some.inj h
    exact v_lret C dX10_lost_53
  · have h := ite_n c1 h
    refine v_lload_n C 1 dX10_lost_28 rfl rfl (n := 29) rfl ?_
    refine v_aload_n C 0 dX10_lost_29 rfl rfl (n := 30) rfl ?_
    refine v_iload_n C 2 dX10_lost_30 rfl rfl (n := 31) rfl ?_
    obtain ⟨r3, S2, eS2, h⟩ := bI_e h
    refine v_callVI (As := [.int x3]) C (c_X10_walks x3 S eS2) mf_X10_walks w_23_5 (oX10 _ _ _) rfl ⟨rfl, rfl, by decide, by decide⟩ rfl rfl (Nat.le_of_ble_eq_true rfl) dX10_lost_31 (n := 34) rfl ?_
    refine v_if_eq C dX10_lost_34 (t := 43) (by decide) (n := 37) rfl (fun c4 => ?_) (fun c4 => ?_)
    · have h := ite_p c4 h
      refine v_lconst (v := 0) C dX10_lost_43 (by decide) (n := 44) rfl ?_
      refine v_lor C dX10_lost_44 (n := 45) rfl ?_
      obtain ⟨y5, ey5, h⟩ := lt_e h
      refine v_lstore_n (L' := [(1, .long y5), (0, .ref (xq x 0)), (3, .int x3)]) C dX10_lost_45 rfl (by decide) rfl (n := 46) rfl ey5 ?_
      obtain ⟨y6, ey6, h⟩ := lt_e h
      refine v_iinc (L' := [(3, .int y6), (1, .long y5), (0, .ref (xq x 0))]) C 2 dX10_lost_46 rfl (by rw [ey6]; rfl) (by decide) rfl (n := 49) rfl ?_
      refine v_goto C dX10_lost_49 (n := 20) (by decide) ?_
      refine v_sub [2, 1, 0] rfl ?_
      exact hk20 y5 y6 S2 h
    · have h := ite_n c4 h
      refine v_lconst (v := 1) C dX10_lost_37 (by decide) (n := 38) rfl ?_
      refine v_iload_n C 2 dX10_lost_38 rfl rfl (n := 39) rfl ?_
      refine v_lshl C dX10_lost_39 (n := 40) rfl ?_
      refine v_goto C dX10_lost_40 (n := 44) (by decide) ?_
      refine v_lor C dX10_lost_44 (n := 45) rfl ?_
      obtain ⟨y7, ey7, h⟩ := lt_e h
      refine v_lstore_n (L' := [(1, .long y7), (0, .ref (xq x 0)), (3, .int x3)]) C dX10_lost_45 rfl (by decide) rfl (n := 46) rfl ey7 ?_
      obtain ⟨y8, ey8, h⟩ := lt_e h
      refine v_iinc (L' := [(3, .int y8), (1, .long y7), (0, .ref (xq x 0))]) C 2 dX10_lost_46 rfl (by rw [ey8]; rfl) (by decide) rfl (n := 49) rfl ?_
      refine v_goto C dX10_lost_49 (n := 20) (by decide) ?_
      refine v_sub [2, 1, 0] rfl ?_
      exact hk20 y7 y8 S2 h
theorem tg_X10_lost_20 {x : Ctx} (C : Cx x WM cX10_lost RX10 4 rm_X10_lost (some .long)) {res : Int64 × St}  : ∀ (n : Nat) (x1 : Int64) (x3 : Int32) (S : St), g_X10_lost_20  n x1 x3 S = some res → V x WM 4 (QL x WM res) S 20 [(0, .ref (xq x 0)), (1, .long x1), (3, .int x3)] [] := by
  intro n
  induction n with
  | zero => intro x1 x3 S h; cases h
  | succ n ih => intro x1 x3 S h; exact t_X10_lost_20 C (fun x1 x3 S h => ih x1 x3 S h) x1 x3 S h
set_option maxRecDepth 20000 in
set_option maxHeartbeats 2000000 in
theorem t_X10_lost_0 {x : Ctx} (C : Cx x WM cX10_lost RX10 4 rm_X10_lost (some .long)) {res : Int64 × St}   (S : St) (h : f_X10_lost_0   S = some res) : V x WM 4 (QL x WM res) S 0 [(0, .ref (xq x 0))] [] := by
  unfold f_X10_lost_0 at h
  refine v_aload_n C 0 dX10_lost_0 rfl rfl (n := 1) rfl ?_
  refine v_iconst (v := 0) C dX10_lost_1 (by decide) (n := 2) rfl ?_
  obtain ⟨S1, eS1, h⟩ := lt_e h
  refine p_X10_thrown C w_9_5 dX10_lost_2 (n := 5) rfl eS1 ?_
  refine v_aload_n C 0 dX10_lost_5 rfl rfl (n := 6) rfl ?_
  refine g_X10_lines C w_12_20 dX10_lost_6 (n := 9) rfl ?_
  refine v_if_ne C dX10_lost_9 (t := 16) (by decide) (n := 12) rfl (fun c2 => ?_) (fun c2 => ?_)
  · have h := ite_n c2 h
    refine v_lconst (v := 0) C dX10_lost_16 (by decide) (n := 17) rfl ?_
    refine v_lstore_n (L' := [(1, .long 0), (0, .ref (xq x 0))]) C dX10_lost_17 rfl (by decide) rfl (n := 18) rfl rfl ?_
    refine v_iconst (v := 0) C dX10_lost_18 (by decide) (n := 19) rfl ?_
    refine v_istore_n (L' := [(3, .int 0), (1, .long 0), (0, .ref (xq x 0))]) C dX10_lost_19 rfl (by decide) rfl (n := 20) rfl rfl ?_
    refine v_sub [2, 1, 0] rfl ?_
    exact tg_X10_lost_20 C  fuel 0 0 S1 h
  · have h := ite_p c2 h
    refine v_ldc2 (v := (-1)) C w_24_21 dX10_lost_12 (n := 15) rfl ?_
    obtain rfl := Option.some.inj h
    exact v_lret C dX10_lost_15
theorem c_X10_lost {l : Launch} {D : va_G} {q : Nat → Nat} {ar : Ar}  (S : St) {res : Int64 × St} (h : m_X10_lost  S = some res) : MetL l D q ar WM yX10_lost cX10_lost 4 (some .long) rm_X10_lost [.ref (q 0)] S res := by
  refine metL_of adrM (by decide +kernel) (Nat.le_of_ble_eq_true rfl) (fun x e1 e2 e3 e4 C => ?_)
  subst e1; subst e2; subst e3; subst e4
  exact v_sub [0] rfl (t_X10_lost_0 C  S h)
theorem mf_X10_lost : CalV yX10_lost cX10_lost 4 (some .long) RX10 0 := ⟨w_24_20, w_24_18, w_24_19, w_1_5, rfl, by decide +kernel, by decide +kernel, by decide +kernel⟩
/-! LabyrinthGardenModel.isFree -/
def f_X10_isFree_0  (x1 : Int32) (x2 : Int32) (S : St) : Option (Int32 × St) :=
  if x1 = 0 then (
    if (rd S 0 8) ≤ x2 then (
      some (0, S))
    else (
      ck x2 8 <|
      if (rd S 4 x2.toNatClampNeg) = 0 then (
        some (1, S))
      else (
        some (0, S))))
  else (
    if (rd S 0 11) ≤ x2 then (
      some (0, S))
    else (
      ck x2 12 <|
      if (rd S 7 x2.toNatClampNeg) = 0 then (
        some (1, S))
      else (
        some (0, S))))
def m_X10_isFree (a1 : Int32) (a2 : Int32) (S : St) : Option (Int32 × St) := f_X10_isFree_0 a1 a2 S
def rm_X10_isFree : Room := { frames := 0, cells := 0, slots := 0, locals := 0 }
set_option maxRecDepth 20000 in
set_option maxHeartbeats 2000000 in
theorem t_X10_isFree_0 {x : Ctx} (C : Cx x WM cX10_isFree RX10 3 rm_X10_isFree (some .boolean)) {res : Int32 × St}  (x1 : Int32) (x2 : Int32) (S : St) (h : f_X10_isFree_0  x1 x2 S = some res) : V x WM 3 (QI x WM res) S 0 [(0, .ref (xq x 0)), (1, .int x1), (2, .int x2)] [] := by
  unfold f_X10_isFree_0 at h
  refine v_iload_n C 1 dX10_isFree_0 rfl rfl (n := 1) rfl ?_
  refine v_if_ne C dX10_isFree_1 (t := 29) (by decide) (n := 4) rfl (fun c1 => ?_) (fun c1 => ?_)
  · have h := ite_n c1 h
    refine v_iload_n C 2 dX10_isFree_29 rfl rfl (n := 30) rfl ?_
    refine v_aload_n C 0 dX10_isFree_30 rfl rfl (n := 31) rfl ?_
    refine g_X10_paths C w_15_11 dX10_isFree_31 (n := 34) rfl ?_
    refine v_icmp_ge C dX10_isFree_34 (t := 50) (by decide) (n := 37) rfl (fun c2 => ?_) (fun c2 => ?_)
    · have h := ite_p c2 h
      refine v_iconst (v := 0) C dX10_isFree_50 (by decide) (n := 51) rfl ?_
      obtain rfl := Option.some.inj h
      exact v_zret C (Or.inl rfl) dX10_isFree_51
    · have h := ite_n c2 h
      refine v_aload_n C 0 dX10_isFree_37 rfl rfl (n := 38) rfl ?_
      refine g_X10_isShut C w_7_13 dX10_isFree_38 (n := 41) rfl ?_
      refine v_iload_n C 2 dX10_isFree_41 rfl rfl (n := 42) rfl ?_
      obtain ⟨hi3, h⟩ := ck_e h
      refine v_zld C aM_7 hi3 dX10_isFree_42 (n := 43) rfl ?_
      refine v_if_ne C dX10_isFree_43 (t := 50) (by decide) (n := 46) rfl (fun c4 => ?_) (fun c4 => ?_)
      · have h := ite_n c4 h
        refine v_iconst (v := 0) C dX10_isFree_50 (by decide) (n := 51) rfl ?_
        obtain rfl := Option.some.inj h
        exact v_zret C (Or.inl rfl) dX10_isFree_51
      · have h := ite_p c4 h
        refine v_iconst (v := 1) C dX10_isFree_46 (by decide) (n := 47) rfl ?_
        refine v_goto C dX10_isFree_47 (n := 51) (by decide) ?_
        obtain rfl := Option.some.inj h
        exact v_zret C (Or.inr rfl) dX10_isFree_51
  · have h := ite_p c1 h
    refine v_iload_n C 2 dX10_isFree_4 rfl rfl (n := 5) rfl ?_
    refine v_aload_n C 0 dX10_isFree_5 rfl rfl (n := 6) rfl ?_
    refine g_X10_junctions C w_15_10 dX10_isFree_6 (n := 9) rfl ?_
    refine v_icmp_ge C dX10_isFree_9 (t := 25) (by decide) (n := 12) rfl (fun c5 => ?_) (fun c5 => ?_)
    · have h := ite_p c5 h
      refine v_iconst (v := 0) C dX10_isFree_25 (by decide) (n := 26) rfl ?_
      refine v_goto C dX10_isFree_26 (n := 51) (by decide) ?_
      obtain rfl := Option.some.inj h
      exact v_zret C (Or.inl rfl) dX10_isFree_51
    · have h := ite_n c5 h
      refine v_aload_n C 0 dX10_isFree_12 rfl rfl (n := 13) rfl ?_
      refine g_X10_marked C w_7_10 dX10_isFree_13 (n := 16) rfl ?_
      refine v_iload_n C 2 dX10_isFree_16 rfl rfl (n := 17) rfl ?_
      obtain ⟨hi6, h⟩ := ck_e h
      refine v_zld C aM_4 hi6 dX10_isFree_17 (n := 18) rfl ?_
      refine v_if_ne C dX10_isFree_18 (t := 25) (by decide) (n := 21) rfl (fun c7 => ?_) (fun c7 => ?_)
      · have h := ite_n c7 h
        refine v_iconst (v := 0) C dX10_isFree_25 (by decide) (n := 26) rfl ?_
        refine v_goto C dX10_isFree_26 (n := 51) (by decide) ?_
        obtain rfl := Option.some.inj h
        exact v_zret C (Or.inl rfl) dX10_isFree_51
      · have h := ite_p c7 h
        refine v_iconst (v := 1) C dX10_isFree_21 (by decide) (n := 22) rfl ?_
        refine v_goto C dX10_isFree_22 (n := 51) (by decide) ?_
        obtain rfl := Option.some.inj h
        exact v_zret C (Or.inr rfl) dX10_isFree_51
theorem c_X10_isFree {l : Launch} {D : va_G} {q : Nat → Nat} {ar : Ar} (a1 : Int32) (a2 : Int32) (S : St) {res : Int32 × St} (h : m_X10_isFree a1 a2 S = some res) : MetI l D q ar WM yX10_isFree cX10_isFree 3 (some .boolean) rm_X10_isFree [.ref (q 0), .int a1, .int a2] S res := by
  refine metI_of adrM (by decide +kernel) (Nat.le_of_ble_eq_true rfl) (fun x e1 e2 e3 e4 C => ?_)
  subst e1; subst e2; subst e3; subst e4
  exact v_sub [0, 1, 2] rfl (t_X10_isFree_0 C a1 a2 S h)
theorem mf_X10_isFree : CalV yX10_isFree cX10_isFree 3 (some .boolean) RX10 2 := ⟨w_26_17, w_26_15, w_26_16, w_1_5, rfl, by decide +kernel, by decide +kernel, by decide +kernel⟩
/-! LabyrinthGardenModel.put -/
def f_X10_put_0  (x1 : Int32) (x2 : Int32) (x3 : Int32) (S : St) : Option (St) :=
  if x1 = 0 then (
    ck x2 8 <|
    lt (up S 4 x2.toNatClampNeg (zb x3)) fun S5 =>
    some S5)
  else (
    ck x2 12 <|
    lt (up S 7 x2.toNatClampNeg (zb x3)) fun S3 =>
    some S3)
def m_X10_put (a1 : Int32) (a2 : Int32) (a3 : Int32) (S : St) : Option (St) := f_X10_put_0 a1 a2 a3 S
def rm_X10_put : Room := { frames := 0, cells := 0, slots := 0, locals := 0 }
set_option maxRecDepth 20000 in
set_option maxHeartbeats 2000000 in
theorem t_X10_put_0 {x : Ctx} (C : Cx x WM cX10_put RX10 4 rm_X10_put none) {res : St}  (x1 : Int32) (x2 : Int32) (x3 : Int32) (S : St) (h : f_X10_put_0  x1 x2 x3 S = some res) : V x WM 4 (QV x WM res) S 0 [(0, .ref (xq x 0)), (1, .int x1), (2, .int x2), (3, .int x3)] [] := by
  unfold f_X10_put_0 at h
  refine v_iload_n C 1 dX10_put_0 rfl rfl (n := 1) rfl ?_
  refine v_if_ne C dX10_put_1 (t := 14) (by decide) (n := 4) rfl (fun c1 => ?_) (fun c1 => ?_)
  · have h := ite_n c1 h
    refine v_aload_n C 0 dX10_put_14 rfl rfl (n := 15) rfl ?_
    refine g_X10_isShut C w_7_13 dX10_put_15 (n := 18) rfl ?_
    refine v_iload_n C 2 dX10_put_18 rfl rfl (n := 19) rfl ?_
    refine v_iload_n C 3 dX10_put_19 rfl rfl (n := 20) rfl ?_
    obtain ⟨hi2, h⟩ := ck_e h
    obtain ⟨S3, eS3, h⟩ := lt_e h
    refine v_zst C aM_7 hi2 dX10_put_20 (n := 21) rfl eS3 ?_
    obtain rfl := Option.some.inj h
    exact v_ret C dX10_put_21
  · have h := ite_p c1 h
    refine v_aload_n C 0 dX10_put_4 rfl rfl (n := 5) rfl ?_
    refine g_X10_marked C w_7_10 dX10_put_5 (n := 8) rfl ?_
    refine v_iload_n C 2 dX10_put_8 rfl rfl (n := 9) rfl ?_
    refine v_iload_n C 3 dX10_put_9 rfl rfl (n := 10) rfl ?_
    obtain ⟨hi4, h⟩ := ck_e h
    obtain ⟨S5, eS5, h⟩ := lt_e h
    refine v_zst C aM_4 hi4 dX10_put_10 (n := 11) rfl eS5 ?_
    refine v_goto C dX10_put_11 (n := 21) (by decide) ?_
    obtain rfl := Option.some.inj h
    exact v_ret C dX10_put_21
theorem c_X10_put {l : Launch} {D : va_G} {q : Nat → Nat} {ar : Ar} (a1 : Int32) (a2 : Int32) (a3 : Int32) (S : St) {res : St} (h : m_X10_put a1 a2 a3 S = some res) : MetV l D q ar WM yX10_put cX10_put 4 none rm_X10_put [.ref (q 0), .int a1, .int a2, .int a3] S res := by
  refine metV_of adrM (by decide +kernel) (Nat.le_of_ble_eq_true rfl) (fun x e1 e2 e3 e4 C => ?_)
  subst e1; subst e2; subst e3; subst e4
  exact v_sub [0, 1, 2, 3] rfl (t_X10_put_0 C a1 a2 a3 S h)
theorem mf_X10_put : CalV yX10_put cX10_put 4 none RX10 3 := ⟨w_26_21, w_26_19, w_26_20, w_1_5, rfl, by decide +kernel, by decide +kernel, by decide +kernel⟩
/-! LabyrinthGardenModel.helping -/
def f_X10_helping_79 (k69 : Int32 → Int32 → St → Option (Int32 × St)) (k79 : Int32 → Int32 → Int32 → St → Option (Int32 × St)) (x1 : Int32) (x2 : Int32) (x3 : Int32) (S : St) : Option (Int32 × St) :=
  if 12 ≤ x3 then (
    lt (x2 + 1 : Int32) fun y2 =>
    k69 x1 y2 S)
  else (
    bI (m_X10_isFree x1 x2 S) fun r4 S3 =>
    if r4 = 0 then (
      lt (x3 + 1 : Int32) fun y6 =>
      k79 x1 x2 y6 S3)
    else (
      bI (m_X10_isFree x1 x3 S3) fun r8 S7 =>
      if r8 = 0 then (
        lt (x3 + 1 : Int32) fun y20 =>
        k79 x1 x2 y20 S7)
      else (
        bV (m_X10_put x1 x2 1 S7) fun S10 =>
        bV (m_X10_put x1 x3 1 S10) fun S11 =>
        bI (m_X10_allOut  S11) fun r13 S12 =>
        bV (m_X10_put x1 x2 0 S12) fun S14 =>
        bV (m_X10_put x1 x3 0 S14) fun S15 =>
        lt (up S15 21 (0 : Int32).toNatClampNeg x2) fun S16 =>
        lt (up S16 21 (1 : Int32).toNatClampNeg x3) fun S17 =>
        if r13 = 0 then (
          lt (x3 + 1 : Int32) fun y19 =>
          k79 x1 x2 y19 S17)
        else (
          some (2, S17)))))
def g_X10_helping_79 (k69 : Int32 → Int32 → St → Option (Int32 × St)) : Nat → Int32 → Int32 → Int32 → St → Option (Int32 × St)
  | 0 => fun _ _ _ _ => none
  | n + 1 => f_X10_helping_79 k69 (g_X10_helping_79 k69 n)
def f_X10_helping_69 (k69 : Int32 → Int32 → St → Option (Int32 × St)) (x1 : Int32) (x2 : Int32) (S : St) : Option (Int32 × St) :=
  if 12 ≤ x2 then (
    some ((-1), S))
  else (
    lt ((x2 + 1) : Int32) fun y2 =>
    g_X10_helping_79 k69 fuel x1 x2 y2 S)
def g_X10_helping_69  : Nat → Int32 → Int32 → St → Option (Int32 × St)
  | 0 => fun _ _ _ => none
  | n + 1 => f_X10_helping_69 (g_X10_helping_69  n)
def f_X10_helping_11 (k11 : Int32 → Int32 → St → Option (Int32 × St)) (x1 : Int32) (x2 : Int32) (S : St) : Option (Int32 × St) :=
  if 12 ≤ x2 then (
    g_X10_helping_69  fuel x1 0 S)
  else (
    bI (m_X10_isFree x1 x2 S) fun r3 S2 =>
    if r3 = 0 then (
      lt (x2 + 1 : Int32) fun y12 =>
      k11 x1 y12 S2)
    else (
      bV (m_X10_put x1 x2 1 S2) fun S5 =>
      bI (m_X10_allOut  S5) fun r7 S6 =>
      bV (m_X10_put x1 x2 0 S6) fun S8 =>
      lt (up S8 21 (0 : Int32).toNatClampNeg x2) fun S9 =>
      if r7 = 0 then (
        lt (x2 + 1 : Int32) fun y11 =>
        k11 x1 y11 S9)
      else (
        some (1, S9))))
def g_X10_helping_11  : Nat → Int32 → Int32 → St → Option (Int32 × St)
  | 0 => fun _ _ _ => none
  | n + 1 => f_X10_helping_11 (g_X10_helping_11  n)
def f_X10_helping_0  (x1 : Int32) (S : St) : Option (Int32 × St) :=
  bI (m_X10_allOut  S) fun r2 S1 =>
  if r2 = 0 then (
    g_X10_helping_11  fuel x1 0 S1)
  else (
    some (0, S1))
def m_X10_helping (a1 : Int32) (S : St) : Option (Int32 × St) := f_X10_helping_0 a1 S
def rm_X10_helping : Room := { frames := 5, cells := 0, slots := 0, locals := 118 }
set_option maxRecDepth 20000 in
set_option maxHeartbeats 2000000 in
theorem t_X10_helping_79 {x : Ctx} (C : Cx x WM cX10_helping RX10 5 rm_X10_helping (some .int)) {res : Int32 × St} {k69 : Int32 → Int32 → St → Option (Int32 × St)} (hk69 : ∀ (x1 : Int32) (x2 : Int32) (S : St), k69 x1 x2 S = some res → V x WM 5 (QI x WM res) S 69 [(0, .ref (xq x 0)), (1, .int x1), (2, .int x2)] []) {k79 : Int32 → Int32 → Int32 → St → Option (Int32 × St)} (hk79 : ∀ (x1 : Int32) (x2 : Int32) (x3 : Int32) (S : St), k79 x1 x2 x3 S = some res → V x WM 5 (QI x WM res) S 79 [(0, .ref (xq x 0)), (1, .int x1), (2, .int x2), (3, .int x3)] []) (x1 : Int32) (x2 : Int32) (x3 : Int32) (S : St) (h : f_X10_helping_79 k69 k79 x1 x2 x3 S = some res) : V x WM 5 (QI x WM res) S 79 [(0, .ref (xq x 0)), (1, .int x1), (2, .int x2), (3, .int x3)] [] := by
  unfold f_X10_helping_79 at h
  refine v_iload_n C 3 dX10_helping_79 rfl rfl (n := 80) rfl ?_
  refine v_bipush (v := 12) C dX10_helping_80 (by decide) (n := 82) rfl ?_
  refine v_icmp_ge C dX10_helping_82 (t := 167) (by decide) (n := 85) rfl (fun c1 => ?_) (fun c1 => ?_)
  · have h := ite_p c1 h
    obtain ⟨y2, ey2, h⟩ := lt_e h
    refine v_iinc (L' := [(2, .int y2), (0, .ref (xq x 0)), (1, .int x1), (3, .int x3)]) C 2 dX10_helping_167 rfl (by rw [ey2]; rfl) (by decide) rfl (n := 170) rfl ?_
    refine v_goto C dX10_helping_170 (n := 69) (by decide) ?_
    refine v_sub [1, 2, 0] rfl ?_
    exact hk69 x1 y2 S h
  · have h := ite_n c1 h
    refine v_aload_n C 0 dX10_helping_85 rfl rfl (n := 86) rfl ?_
    refine v_iload_n C 1 dX10_helping_86 rfl rfl (n := 87) rfl ?_
    refine v_iload_n C 2 dX10_helping_87 rfl rfl (n := 88) rfl ?_
    obtain ⟨r4, S3, eS3, h⟩ := bI_e h
    refine v_callVI (As := [.int x1, .int x2]) C (c_X10_isFree x1 x2 S eS3) mf_X10_isFree w_26_14 (oX10 _ _ _) rfl ⟨rfl, rfl, by decide, by decide⟩ rfl rfl (Nat.le_of_ble_eq_true rfl) dX10_helping_88 (n := 91) rfl ?_
    refine v_if_eq C dX10_helping_91 (t := 161) (by decide) (n := 94) rfl (fun c5 => ?_) (fun c5 => ?_)
    · have h := ite_p c5 h
      obtain ⟨y6, ey6, h⟩ := lt_e h
      refine v_iinc (L' := [(3, .int y6), (0, .ref (xq x 0)), (1, .int x1), (2, .int x2)]) C 3 dX10_helping_161 rfl (by rw [ey6]; rfl) (by decide) rfl (n := 164) rfl ?_
      refine v_goto C dX10_helping_164 (n := 79) (by decide) ?_
      refine v_sub [1, 2, 3, 0] rfl ?_
      exact hk79 x1 x2 y6 S3 h
    · have h := ite_n c5 h
      refine v_aload_n C 0 dX10_helping_94 rfl rfl (n := 95) rfl ?_
      refine v_iload_n C 1 dX10_helping_95 rfl rfl (n := 96) rfl ?_
      refine v_iload_n C 3 dX10_helping_96 rfl rfl (n := 97) rfl ?_
      obtain ⟨r8, S7, eS7, h⟩ := bI_e h
      refine v_callVI (As := [.int x1, .int x3]) C (c_X10_isFree x1 x3 S3 eS7) mf_X10_isFree w_26_14 (oX10 _ _ _) rfl ⟨rfl, rfl, by decide, by decide⟩ rfl rfl (Nat.le_of_ble_eq_true rfl) dX10_helping_97 (n := 100) rfl ?_
      refine v_if_ne C dX10_helping_100 (t := 106) (by decide) (n := 103) rfl (fun c9 => ?_) (fun c9 => ?_)
      · have h := ite_n c9 h
        refine v_aload_n C 0 dX10_helping_106 rfl rfl (n := 107) rfl ?_
        refine v_iload_n C 1 dX10_helping_107 rfl rfl (n := 108) rfl ?_
        refine v_iload_n C 2 dX10_helping_108 rfl rfl (n := 109) rfl ?_
        refine v_iconst (v := 1) C dX10_helping_109 (by decide) (n := 110) rfl ?_
        obtain ⟨S10, eS10, h⟩ := bV_e h
        refine v_callVV (As := [.int x1, .int x2, .int 1]) C (c_X10_put x1 x2 1 S7 eS10) mf_X10_put w_26_18 (oX10 _ _ _) rfl ⟨rfl, rfl, by decide, by decide⟩ rfl rfl (Nat.le_of_ble_eq_true rfl) dX10_helping_110 (n := 113) rfl ?_
        refine v_aload_n C 0 dX10_helping_113 rfl rfl (n := 114) rfl ?_
        refine v_iload_n C 1 dX10_helping_114 rfl rfl (n := 115) rfl ?_
        refine v_iload_n C 3 dX10_helping_115 rfl rfl (n := 116) rfl ?_
        refine v_iconst (v := 1) C dX10_helping_116 (by decide) (n := 117) rfl ?_
        obtain ⟨S11, eS11, h⟩ := bV_e h
        refine v_callVV (As := [.int x1, .int x3, .int 1]) C (c_X10_put x1 x3 1 S10 eS11) mf_X10_put w_26_18 (oX10 _ _ _) rfl ⟨rfl, rfl, by decide, by decide⟩ rfl rfl (Nat.le_of_ble_eq_true rfl) dX10_helping_117 (n := 120) rfl ?_
        refine v_aload_n C 0 dX10_helping_120 rfl rfl (n := 121) rfl ?_
        obtain ⟨r13, S12, eS12, h⟩ := bI_e h
        refine v_callVI (As := []) C (c_X10_allOut  S11 eS12) mf_X10_allOut w_26_10 (oX10 _ _ _) rfl ⟨rfl, rfl, by decide, by decide⟩ rfl rfl (Nat.le_of_ble_eq_true rfl) dX10_helping_121 (n := 124) rfl ?_
        refine v_istore (L' := [(4, .int r13), (0, .ref (xq x 0)), (1, .int x1), (2, .int x2), (3, .int x3)]) C dX10_helping_124 (by decide) rfl (n := 126) rfl rfl ?_
        refine v_aload_n C 1 dX10_helping_126 rfl rfl (n := 127) rfl ?_
        refine v_iload_n C 2 dX10_helping_127 rfl rfl (n := 128) rfl ?_
        refine v_iload_n C 3 dX10_helping_128 rfl rfl (n := 129) rfl ?_
        refine v_iconst (v := 0) C dX10_helping_129 (by decide) (n := 130) rfl ?_
        obtain ⟨S14, eS14, h⟩ := bV_e h
        refine v_callVV (As := [.int x1, .int x2, .int 0]) C (c_X10_put x1 x2 0 S12 eS14) mf_X10_put w_26_18 (oX10 _ _ _) rfl ⟨rfl, rfl, by decide, by decide⟩ rfl rfl (Nat.le_of_ble_eq_true rfl) dX10_helping_130 (n := 133) rfl ?_
        refine v_aload_n C 1 dX10_helping_133 rfl rfl (n := 134) rfl ?_
        refine v_iload_n C 2 dX10_helping_134 rfl rfl (n := 135) rfl ?_
        refine v_iload_n C 4 dX10_helping_135 rfl rfl (n := 136) rfl ?_
        refine v_iconst (v := 0) C dX10_helping_136 (by decide) (n := 137) rfl ?_
        obtain ⟨S15, eS15, h⟩ := bV_e h
        refine v_callVV (As := [.int x1, .int x3, .int 0]) C (c_X10_put x1 x3 0 S14 eS15) mf_X10_put w_26_18 (oX10 _ _ _) rfl ⟨rfl, rfl, by decide, by decide⟩ rfl rfl (Nat.le_of_ble_eq_true rfl) dX10_helping_137 (n := 140) rfl ?_
        refine v_aload_n C 1 dX10_helping_140 rfl rfl (n := 141) rfl ?_
        refine g_X10_helps C w_8_5 dX10_helping_141 (n := 144) rfl ?_
        refine v_iconst (v := 0) C dX10_helping_144 (by decide) (n := 145) rfl ?_
        refine v_iload_n C 3 dX10_helping_145 rfl rfl (n := 146) rfl ?_
        obtain ⟨S16, eS16, h⟩ := lt_e h
        refine v_ast C aM_21 (show vp_in 0 2 by unfold vp_in; decide) dX10_helping_146 (n := 147) rfl eS16 ?_
        refine v_aload_n C 1 dX10_helping_147 rfl rfl (n := 148) rfl ?_
        refine g_X10_helps C w_8_5 dX10_helping_148 (n := 151) rfl ?_
        refine v_iconst (v := 1) C dX10_helping_151 (by decide) (n := 152) rfl ?_
        refine v_iload_n C 4 dX10_helping_152 rfl rfl (n := 153) rfl ?_
        obtain ⟨S17, eS17, h⟩ := lt_e h
        refine v_ast C aM_21 (show vp_in 1 2 by unfold vp_in; decide) dX10_helping_153 (n := 154) rfl eS17 ?_
        refine v_iload C 0 dX10_helping_154 rfl (n := 156) rfl ?_
        refine v_if_eq C dX10_helping_156 (t := 161) (by decide) (n := 159) rfl (fun c18 => ?_) (fun c18 => ?_)
        · have h := ite_p c18 h
          obtain ⟨y19, ey19, h⟩ := lt_e h
          refine v_iinc (L' := [(3, .int y19), (4, .int r13), (0, .ref (xq x 0)), (1, .int x1), (2, .int x2)]) C 4 dX10_helping_161 rfl (by rw [ey19]; rfl) (by decide) rfl (n := 164) rfl ?_
          refine v_goto C dX10_helping_164 (n := 79) (by decide) ?_
          refine v_sub [2, 3, 4, 0] rfl ?_
          exact hk79 x1 x2 y19 S17 h
        · have h := ite_n c18 h
          refine v_iconst (v := 2) C dX10_helping_159 (by decide) (n := 160) rfl ?_
          obtain rfl := Option.some.inj h
          exact v_iret C dX10_helping_160
      · have h := ite_p c9 h
        refine v_goto C dX10_helping_103 (n := 161) (by decide) ?_
        obtain ⟨y20, ey20, h⟩ := lt_e h
        refine v_iinc (L' := [(3, .int y20), (0, .ref (xq x 0)), (1, .int x1), (2, .int x2)]) C 3 dX10_helping_161 rfl (by rw [ey20]; rfl) (by decide) rfl (n := 164) rfl ?_
        refine v_goto C dX10_helping_164 (n := 79) (by decide) ?_
        refine v_sub [1, 2, 3, 0] rfl ?_
        exact hk79 x1 x2 y20 S7 h
theorem tg_X10_helping_79 {x : Ctx} (C : Cx x WM cX10_helping RX10 5 rm_X10_helping (some .int)) {res : Int32 × St} {k69 : Int32 → Int32 → St → Option (Int32 × St)} (hk69 : ∀ (x1 : Int32) (x2 : Int32) (S : St), k69 x1 x2 S = some res → V x WM 5 (QI x WM res) S 69 [(0, .ref (xq x 0)), (1, .int x1), (2, .int x2)] []) : ∀ (n : Nat) (x1 : Int32) (x2 : Int32) (x3 : Int32) (S : St), g_X10_helping_79 k69 n x1 x2 x3 S = some res → V x WM 5 (QI x WM res) S 79 [(0, .ref (xq x 0)), (1, .int x1), (2, .int x2), (3, .int x3)] [] := by
  intro n
  induction n with
  | zero => intro x1 x2 x3 S h; cases h
  | succ n ih => intro x1 x2 x3 S h; exact t_X10_helping_79 C hk69 (fun x1 x2 x3 S h => ih x1 x2 x3 S h) x1 x2 x3 S h
set_option maxRecDepth 20000 in
set_option maxHeartbeats 2000000 in
theorem t_X10_helping_69 {x : Ctx} (C : Cx x WM cX10_helping RX10 5 rm_X10_helping (some .int)) {res : Int32 × St} {k69 : Int32 → Int32 → St → Option (Int32 × St)} (hk69 : ∀ (x1 : Int32) (x2 : Int32) (S : St), k69 x1 x2 S = some res → V x WM 5 (QI x WM res) S 69 [(0, .ref (xq x 0)), (1, .int x1), (2, .int x2)] []) (x1 : Int32) (x2 : Int32) (S : St) (h : f_X10_helping_69 k69 x1 x2 S = some res) : V x WM 5 (QI x WM res) S 69 [(0, .ref (xq x 0)), (1, .int x1), (2, .int x2)] [] := by
  unfold f_X10_helping_69 at h
  refine v_iload_n C 2 dX10_helping_69 rfl rfl (n := 70) rfl ?_
  refine v_bipush (v := 12) C dX10_helping_70 (by decide) (n := 72) rfl ?_
  refine v_icmp_ge C dX10_helping_72 (t := 173) (by decide) (n := 75) rfl (fun c1 => ?_) (fun c1 => ?_)
  · have h := ite_p c1 h
    refine v_iconst (v := (-1)) C dX10_helping_173 (by decide) (n := 174) rfl ?_
    obtain rfl := Option.some.inj h
    exact v_iret C dX10_helping_174
  · have h := ite_n c1 h
    refine v_iload_n C 2 dX10_helping_75 rfl rfl (n := 76) rfl ?_
    refine v_iconst (v := 1) C dX10_helping_76 (by decide) (n := 77) rfl ?_
    refine v_iadd C dX10_helping_77 (n := 78) rfl ?_
    obtain ⟨y2, ey2, h⟩ := lt_e h
    refine v_istore_n (L' := [(3, .int y2), (0, .ref (xq x 0)), (1, .int x1), (2, .int x2)]) C dX10_helping_78 rfl (by decide) rfl (n := 79) rfl ey2 ?_
    refine v_sub [1, 2, 3, 0] rfl ?_
    exact tg_X10_helping_79 C hk69 fuel x1 x2 y2 S h
theorem tg_X10_helping_69 {x : Ctx} (C : Cx x WM cX10_helping RX10 5 rm_X10_helping (some .int)) {res : Int32 × St}  : ∀ (n : Nat) (x1 : Int32) (x2 : Int32) (S : St), g_X10_helping_69  n x1 x2 S = some res → V x WM 5 (QI x WM res) S 69 [(0, .ref (xq x 0)), (1, .int x1), (2, .int x2)] [] := by
  intro n
  induction n with
  | zero => intro x1 x2 S h; cases h
  | succ n ih => intro x1 x2 S h; exact t_X10_helping_69 C (fun x1 x2 S h => ih x1 x2 S h) x1 x2 S h
set_option maxRecDepth 20000 in
set_option maxHeartbeats 2000000 in
theorem t_X10_helping_11 {x : Ctx} (C : Cx x WM cX10_helping RX10 5 rm_X10_helping (some .int)) {res : Int32 × St} {k11 : Int32 → Int32 → St → Option (Int32 × St)} (hk11 : ∀ (x1 : Int32) (x2 : Int32) (S : St), k11 x1 x2 S = some res → V x WM 5 (QI x WM res) S 11 [(0, .ref (xq x 0)), (1, .int x1), (2, .int x2)] []) (x1 : Int32) (x2 : Int32) (S : St) (h : f_X10_helping_11 k11 x1 x2 S = some res) : V x WM 5 (QI x WM res) S 11 [(0, .ref (xq x 0)), (1, .int x1), (2, .int x2)] [] := by
  unfold f_X10_helping_11 at h
  refine v_iload_n C 2 dX10_helping_11 rfl rfl (n := 12) rfl ?_
  refine v_bipush (v := 12) C dX10_helping_12 (by decide) (n := 14) rfl ?_
  refine v_icmp_ge C dX10_helping_14 (t := 67) (by decide) (n := 17) rfl (fun c1 => ?_) (fun c1 => ?_)
  · have h := ite_p c1 h
    refine v_iconst (v := 0) C dX10_helping_67 (by decide) (n := 68) rfl ?_
    refine v_istore_n (L' := [(2, .int 0), (0, .ref (xq x 0)), (1, .int x1)]) C dX10_helping_68 rfl (by decide) rfl (n := 69) rfl rfl ?_
    refine v_sub [1, 2, 0] rfl ?_
    exact tg_X10_helping_69 C  fuel x1 0 S h
  · have h := ite_n c1 h
    refine v_aload_n C 0 dX10_helping_17 rfl rfl (n := 18) rfl ?_
    refine v_iload_n C 1 dX10_helping_18 rfl rfl (n := 19) rfl ?_
    refine v_iload_n C 2 dX10_helping_19 rfl rfl (n := 20) rfl ?_
    obtain ⟨r3, S2, eS2, h⟩ := bI_e h
    refine v_callVI (As := [.int x1, .int x2]) C (c_X10_isFree x1 x2 S eS2) mf_X10_isFree w_26_14 (oX10 _ _ _) rfl ⟨rfl, rfl, by decide, by decide⟩ rfl rfl (Nat.le_of_ble_eq_true rfl) dX10_helping_20 (n := 23) rfl ?_
    refine v_if_ne C dX10_helping_23 (t := 29) (by decide) (n := 26) rfl (fun c4 => ?_) (fun c4 => ?_)
    · have h := ite_n c4 h
      refine v_aload_n C 0 dX10_helping_29 rfl rfl (n := 30) rfl ?_
      refine v_iload_n C 1 dX10_helping_30 rfl rfl (n := 31) rfl ?_
      refine v_iload_n C 2 dX10_helping_31 rfl rfl (n := 32) rfl ?_
      refine v_iconst (v := 1) C dX10_helping_32 (by decide) (n := 33) rfl ?_
      obtain ⟨S5, eS5, h⟩ := bV_e h
      refine v_callVV (As := [.int x1, .int x2, .int 1]) C (c_X10_put x1 x2 1 S2 eS5) mf_X10_put w_26_18 (oX10 _ _ _) rfl ⟨rfl, rfl, by decide, by decide⟩ rfl rfl (Nat.le_of_ble_eq_true rfl) dX10_helping_33 (n := 36) rfl ?_
      refine v_aload_n C 0 dX10_helping_36 rfl rfl (n := 37) rfl ?_
      obtain ⟨r7, S6, eS6, h⟩ := bI_e h
      refine v_callVI (As := []) C (c_X10_allOut  S5 eS6) mf_X10_allOut w_26_10 (oX10 _ _ _) rfl ⟨rfl, rfl, by decide, by decide⟩ rfl rfl (Nat.le_of_ble_eq_true rfl) dX10_helping_37 (n := 40) rfl ?_
      refine v_istore_n (L' := [(3, .int r7), (0, .ref (xq x 0)), (1, .int x1), (2, .int x2)]) C dX10_helping_40 rfl (by decide) rfl (n := 41) rfl rfl ?_
      refine v_aload_n C 1 dX10_helping_41 rfl rfl (n := 42) rfl ?_
      refine v_iload_n C 2 dX10_helping_42 rfl rfl (n := 43) rfl ?_
      refine v_iload_n C 3 dX10_helping_43 rfl rfl (n := 44) rfl ?_
      refine v_iconst (v := 0) C dX10_helping_44 (by decide) (n := 45) rfl ?_
      obtain ⟨S8, eS8, h⟩ := bV_e h
      refine v_callVV (As := [.int x1, .int x2, .int 0]) C (c_X10_put x1 x2 0 S6 eS8) mf_X10_put w_26_18 (oX10 _ _ _) rfl ⟨rfl, rfl, by decide, by decide⟩ rfl rfl (Nat.le_of_ble_eq_true rfl) dX10_helping_45 (n := 48) rfl ?_
      refine v_aload_n C 1 dX10_helping_48 rfl rfl (n := 49) rfl ?_
      refine g_X10_helps C w_8_5 dX10_helping_49 (n := 52) rfl ?_
      refine v_iconst (v := 0) C dX10_helping_52 (by decide) (n := 53) rfl ?_
      refine v_iload_n C 3 dX10_helping_53 rfl rfl (n := 54) rfl ?_
      obtain ⟨S9, eS9, h⟩ := lt_e h
      refine v_ast C aM_21 (show vp_in 0 2 by unfold vp_in; decide) dX10_helping_54 (n := 55) rfl eS9 ?_
      refine v_iload_n C 0 dX10_helping_55 rfl rfl (n := 56) rfl ?_
      refine v_if_eq C dX10_helping_56 (t := 61) (by decide) (n := 59) rfl (fun c10 => ?_) (fun c10 => ?_)
      · have h := ite_p c10 h
        obtain ⟨y11, ey11, h⟩ := lt_e h
        refine v_iinc (L' := [(2, .int y11), (3, .int r7), (0, .ref (xq x 0)), (1, .int x1)]) C 3 dX10_helping_61 rfl (by rw [ey11]; rfl) (by decide) rfl (n := 64) rfl ?_
        refine v_goto C dX10_helping_64 (n := 11) (by decide) ?_
        refine v_sub [2, 3, 0] rfl ?_
        exact hk11 x1 y11 S9 h
      · have h := ite_n c10 h
        refine v_iconst (v := 1) C dX10_helping_59 (by decide) (n := 60) rfl ?_
        obtain rfl := Option.some.inj h
        exact v_iret C dX10_helping_60
    · have h := ite_p c4 h
      refine v_goto C dX10_helping_26 (n := 61) (by decide) ?_
      obtain ⟨y12, ey12, h⟩ := lt_e h
      refine v_iinc (L' := [(2, .int y12), (0, .ref (xq x 0)), (1, .int x1)]) C 2 dX10_helping_61 rfl (by rw [ey12]; rfl) (by decide) rfl (n := 64) rfl ?_
      refine v_goto C dX10_helping_64 (n := 11) (by decide) ?_
      refine v_sub [1, 2, 0] rfl ?_
      exact hk11 x1 y12 S2 h
theorem tg_X10_helping_11 {x : Ctx} (C : Cx x WM cX10_helping RX10 5 rm_X10_helping (some .int)) {res : Int32 × St}  : ∀ (n : Nat) (x1 : Int32) (x2 : Int32) (S : St), g_X10_helping_11  n x1 x2 S = some res → V x WM 5 (QI x WM res) S 11 [(0, .ref (xq x 0)), (1, .int x1), (2, .int x2)] [] := by
  intro n
  induction n with
  | zero => intro x1 x2 S h; cases h
  | succ n ih => intro x1 x2 S h; exact t_X10_helping_11 C (fun x1 x2 S h => ih x1 x2 S h) x1 x2 S h
set_option maxRecDepth 20000 in
set_option maxHeartbeats 2000000 in
theorem t_X10_helping_0 {x : Ctx} (C : Cx x WM cX10_helping RX10 5 rm_X10_helping (some .int)) {res : Int32 × St}  (x1 : Int32) (S : St) (h : f_X10_helping_0  x1 S = some res) : V x WM 5 (QI x WM res) S 0 [(0, .ref (xq x 0)), (1, .int x1)] [] := by
  unfold f_X10_helping_0 at h
  refine v_aload_n C 0 dX10_helping_0 rfl rfl (n := 1) rfl ?_
  obtain ⟨r2, S1, eS1, h⟩ := bI_e h
  refine v_callVI (As := []) C (c_X10_allOut  S eS1) mf_X10_allOut w_26_10 (oX10 _ _ _) rfl ⟨rfl, rfl, by decide, by decide⟩ rfl rfl (Nat.le_of_ble_eq_true rfl) dX10_helping_1 (n := 4) rfl ?_
  refine v_if_eq C dX10_helping_4 (t := 9) (by decide) (n := 7) rfl (fun c3 => ?_) (fun c3 => ?_)
  · have h := ite_p c3 h
    refine v_iconst (v := 0) C dX10_helping_9 (by decide) (n := 10) rfl ?_
    refine v_istore_n (L' := [(2, .int 0), (0, .ref (xq x 0)), (1, .int x1)]) C dX10_helping_10 rfl (by decide) rfl (n := 11) rfl rfl ?_
    refine v_sub [1, 2, 0] rfl ?_
    exact tg_X10_helping_11 C  fuel x1 0 S1 h
  · have h := ite_n c3 h
    refine v_iconst (v := 0) C dX10_helping_7 (by decide) (n := 8) rfl ?_
    obtain rfl := Option.some.inj h
    exact v_iret C dX10_helping_8
theorem c_X10_helping {l : Launch} {D : va_G} {q : Nat → Nat} {ar : Ar} (a1 : Int32) (S : St) {res : Int32 × St} (h : m_X10_helping a1 S = some res) : MetI l D q ar WM yX10_helping cX10_helping 5 (some .int) rm_X10_helping [.ref (q 0), .int a1] S res := by
  refine metI_of adrM (by decide +kernel) (Nat.le_of_ble_eq_true rfl) (fun x e1 e2 e3 e4 C => ?_)
  subst e1; subst e2; subst e3; subst e4
  exact v_sub [0, 1] rfl (t_X10_helping_0 C a1 S h)
theorem mf_X10_helping : CalV yX10_helping cX10_helping 5 (some .int) RX10 1 := ⟨w_26_9, w_26_7, w_26_8, w_1_5, rfl, by decide +kernel, by decide +kernel, by decide +kernel⟩
/-! LabyrinthGardenModel.help -/
def f_X10_help_42 (k42 : Int32 → Int32 → St → Option (Int32 × St)) (x2 : Int32) (x3 : Int32) (S : St) : Option (Int32 × St) :=
  if 2 ≤ x3 then (
    some (x2, S))
  else (
    ck x3 2 <|
    lt (up S 22 x3.toNatClampNeg (rd S 21 x3.toNatClampNeg)) fun S3 =>
    lt (x3 + 1 : Int32) fun y4 =>
    k42 x2 y4 S3)
def g_X10_help_42  : Nat → Int32 → Int32 → St → Option (Int32 × St)
  | 0 => fun _ _ _ => none
  | n + 1 => f_X10_help_42 (g_X10_help_42  n)
def f_X10_help_0  (x1 : Int32) (S : St) : Option (Int32 × St) :=
  lt (up S 0 2 0) fun S1 =>
  if (rd S1 0 5) = 0 then (
    some ((-1), S1))
  else (
    if x1 < 0 then (
      some ((-1), S1))
    else (
      if x1 ≤ 1 then (
        bI (m_X10_helping x1 S1) fun r6 S5 =>
        if 0 ≤ r6 then (
          lt (up S5 0 45 r6) fun S8 =>
          g_X10_help_42  fuel r6 0 S8)
        else (
          some ((-1), S5)))
      else (
        some ((-1), S1))))
def m_X10_help (a1 : Int32) (S : St) : Option (Int32 × St) := f_X10_help_0 a1 S
def rm_X10_help : Room := { frames := 6, cells := 0, slots := 0, locals := 142 }
set_option maxRecDepth 20000 in
set_option maxHeartbeats 2000000 in
theorem t_X10_help_42 {x : Ctx} (C : Cx x WM cX10_help RX10 4 rm_X10_help (some .int)) {res : Int32 × St} {k42 : Int32 → Int32 → St → Option (Int32 × St)} (hk42 : ∀ (x2 : Int32) (x3 : Int32) (S : St), k42 x2 x3 S = some res → V x WM 4 (QI x WM res) S 42 [(0, .ref (xq x 0)), (2, .int x2), (3, .int x3)] []) (x2 : Int32) (x3 : Int32) (S : St) (h : f_X10_help_42 k42 x2 x3 S = some res) : V x WM 4 (QI x WM res) S 42 [(0, .ref (xq x 0)), (2, .int x2), (3, .int x3)] [] := by
  unfold f_X10_help_42 at h
  refine v_iload_n C 2 dX10_help_42 rfl rfl (n := 43) rfl ?_
  refine v_iconst (v := 2) C dX10_help_43 (by decide) (n := 44) rfl ?_
  refine v_icmp_ge C dX10_help_44 (t := 65) (by decide) (n := 47) rfl (fun c1 => ?_) (fun c1 => ?_)
  · have h := ite_p c1 h
    refine v_iload_n C 1 dX10_help_65 rfl rfl (n := 66) rfl ?_
    obtain rfl := Option.some.inj h
    exact v_iret C dX10_help_66
  · have h := ite_n c1 h
    refine v_aload_n C 0 dX10_help_47 rfl rfl (n := 48) rfl ?_
    refine g_X10_helpTold C w_8_6 dX10_help_48 (n := 51) rfl ?_
    refine v_iload_n C 2 dX10_help_51 rfl rfl (n := 52) rfl ?_
    refine v_aload_n C 0 dX10_help_52 rfl rfl (n := 53) rfl ?_
    refine g_X10_helps C w_8_5 dX10_help_53 (n := 56) rfl ?_
    refine v_iload_n C 2 dX10_help_56 rfl rfl (n := 57) rfl ?_
    obtain ⟨hi2, h⟩ := ck_e h
    refine v_ald C aM_21 hi2 dX10_help_57 (n := 58) rfl ?_
    obtain ⟨S3, eS3, h⟩ := lt_e h
    refine v_ast C aM_22 hi2 dX10_help_58 (n := 59) rfl eS3 ?_
    obtain ⟨y4, ey4, h⟩ := lt_e h
    refine v_iinc (L' := [(3, .int y4), (0, .ref (xq x 0)), (2, .int x2)]) C 2 dX10_help_59 rfl (by rw [ey4]; rfl) (by decide) rfl (n := 62) rfl ?_
    refine v_goto C dX10_help_62 (n := 42) (by decide) ?_
    refine v_sub [1, 2, 0] rfl ?_
    exact hk42 x2 y4 S3 h
theorem tg_X10_help_42 {x : Ctx} (C : Cx x WM cX10_help RX10 4 rm_X10_help (some .int)) {res : Int32 × St}  : ∀ (n : Nat) (x2 : Int32) (x3 : Int32) (S : St), g_X10_help_42  n x2 x3 S = some res → V x WM 4 (QI x WM res) S 42 [(0, .ref (xq x 0)), (2, .int x2), (3, .int x3)] [] := by
  intro n
  induction n with
  | zero => intro x2 x3 S h; cases h
  | succ n ih => intro x2 x3 S h; exact t_X10_help_42 C (fun x2 x3 S h => ih x2 x3 S h) x2 x3 S h
set_option maxRecDepth 20000 in
set_option maxHeartbeats 2000000 in
theorem t_X10_help_0 {x : Ctx} (C : Cx x WM cX10_help RX10 4 rm_X10_help (some .int)) {res : Int32 × St}  (x1 : Int32) (S : St) (h : f_X10_help_0  x1 S = some res) : V x WM 4 (QI x WM res) S 0 [(0, .ref (xq x 0)), (1, .int x1)] [] := by
  unfold f_X10_help_0 at h
  refine v_aload_n C 0 dX10_help_0 rfl rfl (n := 1) rfl ?_
  refine v_iconst (v := 0) C dX10_help_1 (by decide) (n := 2) rfl ?_
  obtain ⟨S1, eS1, h⟩ := lt_e h
  refine p_X10_thrown C w_9_5 dX10_help_2 (n := 5) rfl eS1 ?_
  refine v_aload_n C 0 dX10_help_5 rfl rfl (n := 6) rfl ?_
  refine g_X10_lines C w_12_20 dX10_help_6 (n := 9) rfl ?_
  refine v_if_eq C dX10_help_9 (t := 21) (by decide) (n := 12) rfl (fun c2 => ?_) (fun c2 => ?_)
  · have h := ite_p c2 h
    refine v_iconst (v := (-1)) C dX10_help_21 (by decide) (n := 22) rfl ?_
    obtain rfl := Option.some.inj h
    exact v_iret C dX10_help_22
  · have h := ite_n c2 h
    refine v_iload_n C 1 dX10_help_12 rfl rfl (n := 13) rfl ?_
    refine v_if_lt C dX10_help_13 (t := 21) (by decide) (n := 16) rfl (fun c3 => ?_) (fun c3 => ?_)
    · have h := ite_p c3 h
      refine v_iconst (v := (-1)) C dX10_help_21 (by decide) (n := 22) rfl ?_
      obtain rfl := Option.some.inj h
      exact v_iret C dX10_help_22
    · have h := ite_n c3 h
      refine v_iload_n C 1 dX10_help_16 rfl rfl (n := 17) rfl ?_
      refine v_iconst (v := 1) C dX10_help_17 (by decide) (n := 18) rfl ?_
      refine v_icmp_le C dX10_help_18 (t := 23) (by decide) (n := 21) rfl (fun c4 => ?_) (fun c4 => ?_)
      · have h := ite_p c4 h
        refine v_aload_n C 0 dX10_help_23 rfl rfl (n := 24) rfl ?_
        refine v_iload_n C 1 dX10_help_24 rfl rfl (n := 25) rfl ?_
        obtain ⟨r6, S5, eS5, h⟩ := bI_e h
        refine v_callVI (As := [.int x1]) C (c_X10_helping x1 S1 eS5) mf_X10_helping w_26_6 (oX10 _ _ _) rfl ⟨rfl, rfl, by decide, by decide⟩ rfl rfl (Nat.le_of_ble_eq_true rfl) dX10_help_25 (n := 28) rfl ?_
        refine v_istore_n (L' := [(2, .int r6), (0, .ref (xq x 0)), (1, .int x1)]) C dX10_help_28 rfl (by decide) rfl (n := 29) rfl rfl ?_
        refine v_iload_n C 0 dX10_help_29 rfl rfl (n := 30) rfl ?_
        refine v_if_ge C dX10_help_30 (t := 35) (by decide) (n := 33) rfl (fun c7 => ?_) (fun c7 => ?_)
        · have h := ite_p c7 h
          refine v_aload_n C 1 dX10_help_35 rfl rfl (n := 36) rfl ?_
          refine v_iload_n C 0 dX10_help_36 rfl rfl (n := 37) rfl ?_
          obtain ⟨S8, eS8, h⟩ := lt_e h
          refine p_X10_helpMany C w_26_5 dX10_help_37 (n := 40) rfl eS8 ?_
          refine v_iconst (v := 0) C dX10_help_40 (by decide) (n := 41) rfl ?_
          refine v_istore_n (L' := [(3, .int 0), (2, .int r6), (0, .ref (xq x 0)), (1, .int x1)]) C dX10_help_41 rfl (by decide) rfl (n := 42) rfl rfl ?_
          refine v_sub [2, 1, 0] rfl ?_
          exact tg_X10_help_42 C  fuel r6 0 S8 h
        · have h := ite_n c7 h
          refine v_iconst (v := (-1)) C dX10_help_33 (by decide) (n := 34) rfl ?_
          obtain rfl := Option.some.inj h
          exact v_iret C dX10_help_34
      · have h := ite_n c4 h
        refine v_iconst (v := (-1)) C dX10_help_21 (by decide) (n := 22) rfl ?_
        obtain rfl := Option.some.inj h
        exact v_iret C dX10_help_22
theorem c_X10_help {l : Launch} {D : va_G} {q : Nat → Nat} {ar : Ar} (a1 : Int32) (S : St) {res : Int32 × St} (h : m_X10_help a1 S = some res) : MetI l D q ar WM yX10_help cX10_help 4 (some .int) rm_X10_help [.ref (q 0), .int a1] S res := by
  refine metI_of adrM (by decide +kernel) (Nat.le_of_ble_eq_true rfl) (fun x e1 e2 e3 e4 C => ?_)
  subst e1; subst e2; subst e3; subst e4
  exact v_sub [0, 1] rfl (t_X10_help_0 C a1 S h)
theorem mf_X10_help : CalV yX10_help cX10_help 4 (some .int) RX10 1 := ⟨w_26_4, w_26_2, w_26_3, w_1_5, rfl, by decide +kernel, by decide +kernel, by decide +kernel⟩
/-! LabyrinthGardenModel.helped -/
def f_X10_helped_0  (x1 : Int32) (S : St) : Option (Int32 × St) :=
  lt (up S 0 2 0) fun S1 =>
  if x1 < 0 then (
    some ((-1), S1))
  else (
    if x1 < (rd S1 0 45) then (
      ck x1 2 <|
      some ((rd S1 22 x1.toNatClampNeg), S1))
    else (
      some ((-1), S1)))
def m_X10_helped (a1 : Int32) (S : St) : Option (Int32 × St) := f_X10_helped_0 a1 S
def rm_X10_helped : Room := { frames := 0, cells := 0, slots := 0, locals := 0 }
set_option maxRecDepth 20000 in
set_option maxHeartbeats 2000000 in
theorem t_X10_helped_0 {x : Ctx} (C : Cx x WM cX10_helped RX10 2 rm_X10_helped (some .int)) {res : Int32 × St}  (x1 : Int32) (S : St) (h : f_X10_helped_0  x1 S = some res) : V x WM 2 (QI x WM res) S 0 [(0, .ref (xq x 0)), (1, .int x1)] [] := by
  unfold f_X10_helped_0 at h
  refine v_aload_n C 0 dX10_helped_0 rfl rfl (n := 1) rfl ?_
  refine v_iconst (v := 0) C dX10_helped_1 (by decide) (n := 2) rfl ?_
  obtain ⟨S1, eS1, h⟩ := lt_e h
  refine p_X10_thrown C w_9_5 dX10_helped_2 (n := 5) rfl eS1 ?_
  refine v_iload_n C 1 dX10_helped_5 rfl rfl (n := 6) rfl ?_
  refine v_if_lt C dX10_helped_6 (t := 17) (by decide) (n := 9) rfl (fun c2 => ?_) (fun c2 => ?_)
  · have h := ite_p c2 h
    refine v_iconst (v := (-1)) C dX10_helped_17 (by decide) (n := 18) rfl ?_
    refine v_goto C dX10_helped_18 (n := 27) (by decide) ?_
    obtain rfl := Option.some.inj h
    exact v_iret C dX10_helped_27
  · have h := ite_n c2 h
    refine v_iload_n C 1 dX10_helped_9 rfl rfl (n := 10) rfl ?_
    refine v_aload_n C 0 dX10_helped_10 rfl rfl (n := 11) rfl ?_
    refine g_X10_helpMany C w_26_5 dX10_helped_11 (n := 14) rfl ?_
    refine v_icmp_lt C dX10_helped_14 (t := 21) (by decide) (n := 17) rfl (fun c3 => ?_) (fun c3 => ?_)
    · have h := ite_p c3 h
      refine v_aload_n C 0 dX10_helped_21 rfl rfl (n := 22) rfl ?_
      refine g_X10_helpTold C w_8_6 dX10_helped_22 (n := 25) rfl ?_
      refine v_iload_n C 1 dX10_helped_25 rfl rfl (n := 26) rfl ?_
      obtain ⟨hi4, h⟩ := ck_e h
      refine v_ald C aM_22 hi4 dX10_helped_26 (n := 27) rfl ?_
      obtain rfl := Option.some.inj h
      exact v_iret C dX10_helped_27
    · have h := ite_n c3 h
      refine v_iconst (v := (-1)) C dX10_helped_17 (by decide) (n := 18) rfl ?_
      refine v_goto C dX10_helped_18 (n := 27) (by decide) ?_
      obtain rfl := Option.some.inj h
      exact v_iret C dX10_helped_27
theorem c_X10_helped {l : Launch} {D : va_G} {q : Nat → Nat} {ar : Ar} (a1 : Int32) (S : St) {res : Int32 × St} (h : m_X10_helped a1 S = some res) : MetI l D q ar WM yX10_helped cX10_helped 2 (some .int) rm_X10_helped [.ref (q 0), .int a1] S res := by
  refine metI_of adrM (by decide +kernel) (Nat.le_of_ble_eq_true rfl) (fun x e1 e2 e3 e4 C => ?_)
  subst e1; subst e2; subst e3; subst e4
  exact v_sub [0, 1] rfl (t_X10_helped_0 C a1 S h)
theorem mf_X10_helped : CalV yX10_helped cX10_helped 2 (some .int) RX10 1 := ⟨w_27_7, w_27_5, w_27_6, w_1_5, rfl, by decide +kernel, by decide +kernel, by decide +kernel⟩
/-! LabyrinthGardenModel.seeing -/
def f_X10_seeing_5 (k5 : Int32 → Int64 → Int32 → St → Option (Int64 × St)) (x1 : Int32) (x2 : Int64) (x4 : Int32) (S : St) : Option (Int64 × St) :=
  if (rd S 0 16) ≤ x4 then (
    some (x2, S))
  else (
    ck x4 24 <|
    ck (rd S 8 x4.toNatClampNeg) 8 <|
    if (rd S 11 (rd S 8 x4.toNatClampNeg).toNatClampNeg) = x1 then (
      lt ((x2 ||| (lshl 1 x4)) : Int64) fun y7 =>
      lt (x4 + 1 : Int32) fun y8 =>
      k5 x1 y7 y8 S)
    else (
      lt ((x2 ||| 0) : Int64) fun y5 =>
      lt (x4 + 1 : Int32) fun y6 =>
      k5 x1 y5 y6 S))
def g_X10_seeing_5  : Nat → Int32 → Int64 → Int32 → St → Option (Int64 × St)
  | 0 => fun _ _ _ _ => none
  | n + 1 => f_X10_seeing_5 (g_X10_seeing_5  n)
def f_X10_seeing_0  (x1 : Int32) (S : St) : Option (Int64 × St) :=
  g_X10_seeing_5  fuel x1 0 0 S
def m_X10_seeing (a1 : Int32) (S : St) : Option (Int64 × St) := f_X10_seeing_0 a1 S
def rm_X10_seeing : Room := { frames := 0, cells := 0, slots := 0, locals := 0 }
set_option maxRecDepth 20000 in
set_option maxHeartbeats 2000000 in
theorem t_X10_seeing_5 {x : Ctx} (C : Cx x WM cX10_seeing RX10 5 rm_X10_seeing (some .long)) {res : Int64 × St} {k5 : Int32 → Int64 → Int32 → St → Option (Int64 × St)} (hk5 : ∀ (x1 : Int32) (x2 : Int64) (x4 : Int32) (S : St), k5 x1 x2 x4 S = some res → V x WM 5 (QL x WM res) S 5 [(0, .ref (xq x 0)), (1, .int x1), (2, .long x2), (4, .int x4)] []) (x1 : Int32) (x2 : Int64) (x4 : Int32) (S : St) (h : f_X10_seeing_5 k5 x1 x2 x4 S = some res) : V x WM 5 (QL x WM res) S 5 [(0, .ref (xq x 0)), (1, .int x1), (2, .long x2), (4, .int x4)] [] := by
  unfold f_X10_seeing_5 at h
  refine v_iload C 3 dX10_seeing_5 rfl (n := 7) rfl ?_
  refine v_aload_n C 0 dX10_seeing_7 rfl rfl (n := 8) rfl ?_
  refine g_X10_places C w_15_16 dX10_seeing_8 (n := 11) rfl ?_
  refine v_icmp_ge C dX10_seeing_11 (t := 47) (by decide) (n := 14) rfl (fun c1 => ?_) (fun c1 => ?_)
  · have h := ite_p c1 h
    refine v_lload_n C 2 dX10_seeing_47 rfl rfl (n := 48) rfl ?_
    obtain rfl := Option.some.inj h
    exact v_lret C dX10_seeing_48
  · have h := ite_n c1 h
    refine v_lload_n C 2 dX10_seeing_14 rfl rfl (n := 15) rfl ?_
    refine v_aload_n C 0 dX10_seeing_15 rfl rfl (n := 16) rfl ?_
    refine g_X10_size C w_7_18 dX10_seeing_16 (n := 19) rfl ?_
    refine v_aload_n C 0 dX10_seeing_19 rfl rfl (n := 20) rfl ?_
    refine g_X10_at C w_7_15 dX10_seeing_20 (n := 23) rfl ?_
    refine v_iload C 3 dX10_seeing_23 rfl (n := 25) rfl ?_
    obtain ⟨hi2, h⟩ := ck_e h
    refine v_ald C aM_8 hi2 dX10_seeing_25 (n := 26) rfl ?_
    obtain ⟨hi3, h⟩ := ck_e h
    refine v_ald C aM_11 hi3 dX10_seeing_26 (n := 27) rfl ?_
    refine v_iload_n C 1 dX10_seeing_27 rfl rfl (n := 28) rfl ?_
    refine v_icmp_ne C dX10_seeing_28 (t := 38) (by decide) (n := 31) rfl (fun c4 => ?_) (fun c4 => ?_)
    · have h := ite_n c4 h
      refine v_lconst (v := 0) C dX10_seeing_38 (by decide) (n := 39) rfl ?_
      refine v_lor C dX10_seeing_39 (n := 40) rfl ?_
      obtain ⟨y5, ey5, h⟩ := lt_e h
      refine v_lstore_n (L' := [(2, .long y5), (0, .ref (xq x 0)), (1, .int x1), (4, .int x4)]) C dX10_seeing_40 rfl (by decide) rfl (n := 41) rfl ey5 ?_
      obtain ⟨y6, ey6, h⟩ := lt_e h
      refine v_iinc (L' := [(4, .int y6), (2, .long y5), (0, .ref (xq x 0)), (1, .int x1)]) C 3 dX10_seeing_41 rfl (by rw [ey6]; rfl) (by decide) rfl (n := 44) rfl ?_
      refine v_goto C dX10_seeing_44 (n := 5) (by decide) ?_
      refine v_sub [2, 3, 1, 0] rfl ?_
      exact hk5 x1 y5 y6 S h
    · have h := ite_p c4 h
      refine v_lconst (v := 1) C dX10_seeing_31 (by decide) (n := 32) rfl ?_
      refine v_iload C 3 dX10_seeing_32 rfl (n := 34) rfl ?_
      refine v_lshl C dX10_seeing_34 (n := 35) rfl ?_
      refine v_goto C dX10_seeing_35 (n := 39) (by decide) ?_
      refine v_lor C dX10_seeing_39 (n := 40) rfl ?_
      obtain ⟨y7, ey7, h⟩ := lt_e h
      refine v_lstore_n (L' := [(2, .long y7), (0, .ref (xq x 0)), (1, .int x1), (4, .int x4)]) C dX10_seeing_40 rfl (by decide) rfl (n := 41) rfl ey7 ?_
      obtain ⟨y8, ey8, h⟩ := lt_e h
      refine v_iinc (L' := [(4, .int y8), (2, .long y7), (0, .ref (xq x 0)), (1, .int x1)]) C 3 dX10_seeing_41 rfl (by rw [ey8]; rfl) (by decide) rfl (n := 44) rfl ?_
      refine v_goto C dX10_seeing_44 (n := 5) (by decide) ?_
      refine v_sub [2, 3, 1, 0] rfl ?_
      exact hk5 x1 y7 y8 S h
theorem tg_X10_seeing_5 {x : Ctx} (C : Cx x WM cX10_seeing RX10 5 rm_X10_seeing (some .long)) {res : Int64 × St}  : ∀ (n : Nat) (x1 : Int32) (x2 : Int64) (x4 : Int32) (S : St), g_X10_seeing_5  n x1 x2 x4 S = some res → V x WM 5 (QL x WM res) S 5 [(0, .ref (xq x 0)), (1, .int x1), (2, .long x2), (4, .int x4)] [] := by
  intro n
  induction n with
  | zero => intro x1 x2 x4 S h; cases h
  | succ n ih => intro x1 x2 x4 S h; exact t_X10_seeing_5 C (fun x1 x2 x4 S h => ih x1 x2 x4 S h) x1 x2 x4 S h
set_option maxRecDepth 20000 in
set_option maxHeartbeats 2000000 in
theorem t_X10_seeing_0 {x : Ctx} (C : Cx x WM cX10_seeing RX10 5 rm_X10_seeing (some .long)) {res : Int64 × St}  (x1 : Int32) (S : St) (h : f_X10_seeing_0  x1 S = some res) : V x WM 5 (QL x WM res) S 0 [(0, .ref (xq x 0)), (1, .int x1)] [] := by
  unfold f_X10_seeing_0 at h
  refine v_lconst (v := 0) C dX10_seeing_0 (by decide) (n := 1) rfl ?_
  refine v_lstore_n (L' := [(2, .long 0), (0, .ref (xq x 0)), (1, .int x1)]) C dX10_seeing_1 rfl (by decide) rfl (n := 2) rfl rfl ?_
  refine v_iconst (v := 0) C dX10_seeing_2 (by decide) (n := 3) rfl ?_
  refine v_istore (L' := [(4, .int 0), (2, .long 0), (0, .ref (xq x 0)), (1, .int x1)]) C dX10_seeing_3 (by decide) rfl (n := 5) rfl rfl ?_
  refine v_sub [2, 3, 1, 0] rfl ?_
  exact tg_X10_seeing_5 C  fuel x1 0 0 S h
theorem c_X10_seeing {l : Launch} {D : va_G} {q : Nat → Nat} {ar : Ar} (a1 : Int32) (S : St) {res : Int64 × St} (h : m_X10_seeing a1 S = some res) : MetL l D q ar WM yX10_seeing cX10_seeing 5 (some .long) rm_X10_seeing [.ref (q 0), .int a1] S res := by
  refine metL_of adrM (by decide +kernel) (Nat.le_of_ble_eq_true rfl) (fun x e1 e2 e3 e4 C => ?_)
  subst e1; subst e2; subst e3; subst e4
  exact v_sub [0, 1] rfl (t_X10_seeing_0 C a1 S h)
theorem mf_X10_seeing : CalV yX10_seeing cX10_seeing 5 (some .long) RX10 1 := ⟨w_28_12, w_28_10, w_28_11, w_1_5, rfl, by decide +kernel, by decide +kernel, by decide +kernel⟩
/-! LabyrinthGardenModel.led -/
def f_X10_led_0  (x1 : Int32) (x2 : Int32) (S : St) : Option (Int32 × St) :=
  ck x1 24 <|
  lt ((rd S 8 x1.toNatClampNeg) : Int32) fun y2 =>
  ck y2 8 <|
  ckn (rd S 11 y2.toNatClampNeg) <|
  ck ((rd S 12 y2.toNatClampNeg) + (irem ((x1 - (rd S 12 y2.toNatClampNeg)) + x2) (rd S 11 y2.toNatClampNeg))) 24 <|
  ck ((rd S 9 ((rd S 12 y2.toNatClampNeg) + (irem ((x1 - (rd S 12 y2.toNatClampNeg)) + x2) (rd S 11 y2.toNatClampNeg))).toNatClampNeg) ^^^ 1) 24 <|
  some ((rd S 10 ((rd S 9 ((rd S 12 y2.toNatClampNeg) + (irem ((x1 - (rd S 12 y2.toNatClampNeg)) + x2) (rd S 11 y2.toNatClampNeg))).toNatClampNeg) ^^^ 1).toNatClampNeg), S)
def m_X10_led (a1 : Int32) (a2 : Int32) (S : St) : Option (Int32 × St) := f_X10_led_0 a1 a2 S
def rm_X10_led : Room := { frames := 0, cells := 0, slots := 0, locals := 0 }
set_option maxRecDepth 20000 in
set_option maxHeartbeats 2000000 in
theorem t_X10_led_0 {x : Ctx} (C : Cx x WM cX10_led RX10 4 rm_X10_led (some .int)) {res : Int32 × St}  (x1 : Int32) (x2 : Int32) (S : St) (h : f_X10_led_0  x1 x2 S = some res) : V x WM 4 (QI x WM res) S 0 [(0, .ref (xq x 0)), (1, .int x1), (2, .int x2)] [] := by
  unfold f_X10_led_0 at h
  refine v_aload_n C 0 dX10_led_0 rfl rfl (n := 1) rfl ?_
  refine g_X10_at C w_7_15 dX10_led_1 (n := 4) rfl ?_
  refine v_iload_n C 1 dX10_led_4 rfl rfl (n := 5) rfl ?_
  obtain ⟨hi1, h⟩ := ck_e h
  refine v_ald C aM_8 hi1 dX10_led_5 (n := 6) rfl ?_
  obtain ⟨y2, ey2, h⟩ := lt_e h
  refine v_istore_n (L' := [(3, .int y2), (0, .ref (xq x 0)), (1, .int x1), (2, .int x2)]) C dX10_led_6 rfl (by decide) rfl (n := 7) rfl ey2 ?_
  refine v_aload_n C 1 dX10_led_7 rfl rfl (n := 8) rfl ?_
  refine g_X10_placeOf C w_7_17 dX10_led_8 (n := 11) rfl ?_
  refine v_aload_n C 1 dX10_led_11 rfl rfl (n := 12) rfl ?_
  refine g_X10_ends C w_7_16 dX10_led_12 (n := 15) rfl ?_
  refine v_aload_n C 1 dX10_led_15 rfl rfl (n := 16) rfl ?_
  refine g_X10_base C w_7_19 dX10_led_16 (n := 19) rfl ?_
  refine v_iload_n C 0 dX10_led_19 rfl rfl (n := 20) rfl ?_
  obtain ⟨hi3, h⟩ := ck_e h
  refine v_ald C aM_12 hi3 dX10_led_20 (n := 21) rfl ?_
  refine v_iload_n C 2 dX10_led_21 rfl rfl (n := 22) rfl ?_
  refine v_aload_n C 1 dX10_led_22 rfl rfl (n := 23) rfl ?_
  refine g_X10_base C w_7_19 dX10_led_23 (n := 26) rfl ?_
  refine v_iload_n C 0 dX10_led_26 rfl rfl (n := 27) rfl ?_
  refine v_ald C aM_12 hi3 dX10_led_27 (n := 28) rfl ?_
  refine v_isub C dX10_led_28 (n := 29) rfl ?_
  refine v_iload_n C 3 dX10_led_29 rfl rfl (n := 30) rfl ?_
  refine v_iadd C dX10_led_30 (n := 31) rfl ?_
  refine v_aload_n C 1 dX10_led_31 rfl rfl (n := 32) rfl ?_
  refine g_X10_size C w_7_18 dX10_led_32 (n := 35) rfl ?_
  refine v_iload_n C 0 dX10_led_35 rfl rfl (n := 36) rfl ?_
  refine v_ald C aM_11 hi3 dX10_led_36 (n := 37) rfl ?_
  obtain ⟨hz4, h⟩ := ckn_e h
  refine v_irem C dX10_led_37 hz4 (n := 38) rfl ?_
  refine v_iadd C dX10_led_38 (n := 39) rfl ?_
  obtain ⟨hi5, h⟩ := ck_e h
  refine v_ald C aM_9 hi5 dX10_led_39 (n := 40) rfl ?_
  refine v_iconst (v := 1) C dX10_led_40 (by decide) (n := 41) rfl ?_
  refine v_ixor C dX10_led_41 (n := 42) rfl ?_
  obtain ⟨hi6, h⟩ := ck_e h
  refine v_ald C aM_10 hi6 dX10_led_42 (n := 43) rfl ?_
  obtain rfl := Option.some.inj h
  exact v_iret C dX10_led_43
theorem c_X10_led {l : Launch} {D : va_G} {q : Nat → Nat} {ar : Ar} (a1 : Int32) (a2 : Int32) (S : St) {res : Int32 × St} (h : m_X10_led a1 a2 S = some res) : MetI l D q ar WM yX10_led cX10_led 4 (some .int) rm_X10_led [.ref (q 0), .int a1, .int a2] S res := by
  refine metI_of adrM (by decide +kernel) (Nat.le_of_ble_eq_true rfl) (fun x e1 e2 e3 e4 C => ?_)
  subst e1; subst e2; subst e3; subst e4
  exact v_sub [0, 1, 2] rfl (t_X10_led_0 C a1 a2 S h)
theorem mf_X10_led : CalV yX10_led cX10_led 4 (some .int) RX10 2 := ⟨w_29_13, w_29_11, w_29_12, w_1_5, rfl, by decide +kernel, by decide +kernel, by decide +kernel⟩
/-! LabyrinthGardenModel.tale -/
def f_X10_tale_0  (x1 : Int32) (S : St) : Option (Int64 × St) :=
  lt (up S 0 2 0) fun S1 =>
  if x1 < 0 then (
    some ((-1), S1))
  else (
    if x1 ≤ 6 then (
      lt (up S1 0 48 0) fun S4 =>
      bL (m_X10_seeing x1 S4) fun r6 S5 =>
      lt (upL S5 r6) fun S7 =>
      some ((rdL S7), S7))
    else (
      some ((-1), S1)))
def m_X10_tale (a1 : Int32) (S : St) : Option (Int64 × St) := f_X10_tale_0 a1 S
def rm_X10_tale : Room := { frames := 1, cells := 0, slots := 0, locals := 24 }
set_option maxRecDepth 20000 in
set_option maxHeartbeats 2000000 in
theorem t_X10_tale_0 {x : Ctx} (C : Cx x WM cX10_tale RX10 2 rm_X10_tale (some .long)) {res : Int64 × St}  (x1 : Int32) (S : St) (h : f_X10_tale_0  x1 S = some res) : V x WM 2 (QL x WM res) S 0 [(0, .ref (xq x 0)), (1, .int x1)] [] := by
  unfold f_X10_tale_0 at h
  refine v_aload_n C 0 dX10_tale_0 rfl rfl (n := 1) rfl ?_
  refine v_iconst (v := 0) C dX10_tale_1 (by decide) (n := 2) rfl ?_
  obtain ⟨S1, eS1, h⟩ := lt_e h
  refine p_X10_thrown C w_9_5 dX10_tale_2 (n := 5) rfl eS1 ?_
  refine v_iload_n C 1 dX10_tale_5 rfl rfl (n := 6) rfl ?_
  refine v_if_lt C dX10_tale_6 (t := 15) (by decide) (n := 9) rfl (fun c2 => ?_) (fun c2 => ?_)
  · have h := ite_p c2 h
    refine v_ldc2 (v := (-1)) C w_24_21 dX10_tale_15 (n := 18) rfl ?_
    obtain rfl := Option.some.inj h
    exact v_lret C dX10_tale_18
  · have h := ite_n c2 h
    refine v_iload_n C 1 dX10_tale_9 rfl rfl (n := 10) rfl ?_
    refine v_bipush (v := 6) C dX10_tale_10 (by decide) (n := 12) rfl ?_
    refine v_icmp_le C dX10_tale_12 (t := 19) (by decide) (n := 15) rfl (fun c3 => ?_) (fun c3 => ?_)
    · have h := ite_p c3 h
      refine v_aload_n C 0 dX10_tale_19 rfl rfl (n := 20) rfl ?_
      refine v_iconst (v := 0) C dX10_tale_20 (by decide) (n := 21) rfl ?_
      obtain ⟨S4, eS4, h⟩ := lt_e h
      refine p_X10_taleMany C w_8_7 dX10_tale_21 (n := 24) rfl eS4 ?_
      refine v_aload_n C 0 dX10_tale_24 rfl rfl (n := 25) rfl ?_
      refine v_aload_n C 0 dX10_tale_25 rfl rfl (n := 26) rfl ?_
      refine v_iload_n C 1 dX10_tale_26 rfl rfl (n := 27) rfl ?_
      obtain ⟨r6, S5, eS5, h⟩ := bL_e h
      refine v_callVL (As := [.int x1]) C (c_X10_seeing x1 S4 eS5) mf_X10_seeing w_28_9 (oX10 _ _ _) rfl ⟨rfl, rfl, by decide, by decide⟩ rfl rfl (Nat.le_of_ble_eq_true rfl) dX10_tale_27 (n := 30) rfl ?_
      obtain ⟨S7, eS7, h⟩ := lt_e h
      refine p_X10_here C w_28_8 dX10_tale_30 (n := 33) rfl eS7 ?_
      refine v_aload_n C 0 dX10_tale_33 rfl rfl (n := 34) rfl ?_
      refine g_X10_here C w_28_8 dX10_tale_34 (n := 37) rfl ?_
      obtain rfl := Option.some.inj h
      exact v_lret C dX10_tale_37
    · have h := ite_n c3 h
      refine v_ldc2 (v := (-1)) C w_24_21 dX10_tale_15 (n := 18) rfl ?_
      obtain rfl := Option.some.inj h
      exact v_lret C dX10_tale_18
theorem c_X10_tale {l : Launch} {D : va_G} {q : Nat → Nat} {ar : Ar} (a1 : Int32) (S : St) {res : Int64 × St} (h : m_X10_tale a1 S = some res) : MetL l D q ar WM yX10_tale cX10_tale 2 (some .long) rm_X10_tale [.ref (q 0), .int a1] S res := by
  refine metL_of adrM (by decide +kernel) (Nat.le_of_ble_eq_true rfl) (fun x e1 e2 e3 e4 C => ?_)
  subst e1; subst e2; subst e3; subst e4
  exact v_sub [0, 1] rfl (t_X10_tale_0 C a1 S h)
theorem mf_X10_tale : CalV yX10_tale cX10_tale 2 (some .long) RX10 1 := ⟨w_28_7, w_28_5, w_28_6, w_1_5, rfl, by decide +kernel, by decide +kernel, by decide +kernel⟩
/-! LabyrinthGardenModel.turn -/
def f_X10_turn_50 (k50 : Int32 → Int32 → Int64 → Int32 → St → Option (Int64 × St)) (x1 : Int32) (x2 : Int32) (x3 : Int64) (x5 : Int32) (S : St) : Option (Int64 × St) :=
  if (rd S 0 16) ≤ x5 then (
    bL (m_X10_seeing x2 S) fun r3 S2 =>
    lt (upL S2 (x3 &&& r3)) fun S4 =>
    lt (up S4 0 48 ((rd S4 0 48) + 1)) fun S5 =>
    some ((rdL S5), S5))
  else (
    if (lg_cmp ((lsshr (rdL S) x5) &&& 1) 1) = 0 then (
      bI (m_X10_led x5 x1 S) fun r9 S8 =>
      lt ((x3 ||| (lshl 1 r9)) : Int64) fun y10 =>
      lt (x5 + 1 : Int32) fun y11 =>
      k50 x1 x2 y10 y11 S8)
    else (
      lt (x5 + 1 : Int32) fun y7 =>
      k50 x1 x2 x3 y7 S))
def g_X10_turn_50  : Nat → Int32 → Int32 → Int64 → Int32 → St → Option (Int64 × St)
  | 0 => fun _ _ _ _ _ => none
  | n + 1 => f_X10_turn_50 (g_X10_turn_50  n)
def f_X10_turn_0  (x1 : Int32) (x2 : Int32) (S : St) : Option (Int64 × St) :=
  lt (up S 0 2 0) fun S1 =>
  if (rd S1 0 48) < 0 then (
    some ((-1), S1))
  else (
    if (rd S1 0 48) = 8 then (
      some ((-1), S1))
    else (
      if x1 < 0 then (
        some ((-1), S1))
      else (
        if 9 < x1 then (
          some ((-1), S1))
        else (
          if x2 < 0 then (
            some ((-1), S1))
          else (
            if x2 ≤ 6 then (
              g_X10_turn_50  fuel x1 x2 0 0 S1)
            else (
              some ((-1), S1)))))))
def m_X10_turn (a1 : Int32) (a2 : Int32) (S : St) : Option (Int64 × St) := f_X10_turn_0 a1 a2 S
def rm_X10_turn : Room := { frames := 1, cells := 0, slots := 0, locals := 24 }
set_option maxRecDepth 20000 in
set_option maxHeartbeats 2000000 in
theorem t_X10_turn_50 {x : Ctx} (C : Cx x WM cX10_turn RX10 6 rm_X10_turn (some .long)) {res : Int64 × St} {k50 : Int32 → Int32 → Int64 → Int32 → St → Option (Int64 × St)} (hk50 : ∀ (x1 : Int32) (x2 : Int32) (x3 : Int64) (x5 : Int32) (S : St), k50 x1 x2 x3 x5 S = some res → V x WM 6 (QL x WM res) S 50 [(0, .ref (xq x 0)), (1, .int x1), (2, .int x2), (3, .long x3), (5, .int x5)] []) (x1 : Int32) (x2 : Int32) (x3 : Int64) (x5 : Int32) (S : St) (h : f_X10_turn_50 k50 x1 x2 x3 x5 S = some res) : V x WM 6 (QL x WM res) S 50 [(0, .ref (xq x 0)), (1, .int x1), (2, .int x2), (3, .long x3), (5, .int x5)] [] := by
  unfold f_X10_turn_50 at h
  refine v_iload C 4 dX10_turn_50 rfl (n := 52) rfl ?_
  refine v_aload_n C 0 dX10_turn_52 rfl rfl (n := 53) rfl ?_
  refine g_X10_places C w_15_16 dX10_turn_53 (n := 56) rfl ?_
  refine v_icmp_ge C dX10_turn_56 (t := 91) (by decide) (n := 59) rfl (fun c1 => ?_) (fun c1 => ?_)
  · have h := ite_p c1 h
    refine v_aload_n C 0 dX10_turn_91 rfl rfl (n := 92) rfl ?_
    refine v_lload_n C 3 dX10_turn_92 rfl rfl (n := 93) rfl ?_
    refine v_aload_n C 0 dX10_turn_93 rfl rfl (n := 94) rfl ?_
    refine v_iload_n C 2 dX10_turn_94 rfl rfl (n := 95) rfl ?_
    obtain ⟨r3, S2, eS2, h⟩ := bL_e h
    refine v_callVL (As := [.int x2]) C (c_X10_seeing x2 S eS2) mf_X10_seeing w_28_9 (oX10 _ _ _) rfl ⟨rfl, rfl, by decide, by decide⟩ rfl rfl (Nat.le_of_ble_eq_true rfl) dX10_turn_95 (n := 98) rfl ?_
    refine v_land C dX10_turn_98 (n := 99) rfl ?_
    obtain ⟨S4, eS4, h⟩ := lt_e h
    refine p_X10_here C w_28_8 dX10_turn_99 (n := 102) rfl eS4 ?_
    refine v_aload_n C 0 dX10_turn_102 rfl rfl (n := 103) rfl ?_
    refine v_dup C dX10_turn_103 rfl (n := 104) rfl ?_
    refine g_X10_taleMany C w_8_7 dX10_turn_104 (n := 107) rfl ?_
    refine v_iconst (v := 1) C dX10_turn_107 (by decide) (n := 108) rfl ?_
    refine v_iadd C dX10_turn_108 (n := 109) rfl ?_
    obtain ⟨S5, eS5, h⟩ := lt_e h
    refine p_X10_taleMany C w_8_7 dX10_turn_109 (n := 112) rfl eS5 ?_
    refine v_aload_n C 0 dX10_turn_112 rfl rfl (n := 113) rfl ?_
    refine g_X10_here C w_28_8 dX10_turn_113 (n := 116) rfl ?_
    obtain rfl := Option.some.inj h
    exact v_lret C dX10_turn_116
  · have h := ite_n c1 h
    refine v_aload_n C 0 dX10_turn_59 rfl rfl (n := 60) rfl ?_
    refine g_X10_here C w_28_8 dX10_turn_60 (n := 63) rfl ?_
    refine v_iload C 4 dX10_turn_63 rfl (n := 65) rfl ?_
    refine v_lshr C dX10_turn_65 (n := 66) rfl ?_
    refine v_lconst (v := 1) C dX10_turn_66 (by decide) (n := 67) rfl ?_
    refine v_land C dX10_turn_67 (n := 68) rfl ?_
    refine v_lconst (v := 1) C dX10_turn_68 (by decide) (n := 69) rfl ?_
    refine v_lcmp C dX10_turn_69 (n := 70) rfl ?_
    refine v_if_ne C dX10_turn_70 (t := 85) (by decide) (n := 73) rfl (fun c6 => ?_) (fun c6 => ?_)
    · have h := ite_n c6 h
      obtain ⟨y7, ey7, h⟩ := lt_e h
      refine v_iinc (L' := [(5, .int y7), (0, .ref (xq x 0)), (1, .int x1), (2, .int x2), (3, .long x3)]) C 4 dX10_turn_85 rfl (by rw [ey7]; rfl) (by decide) rfl (n := 88) rfl ?_
      refine v_goto C dX10_turn_88 (n := 50) (by decide) ?_
      refine v_sub [1, 2, 3, 4, 0] rfl ?_
      exact hk50 x1 x2 x3 y7 S h
    · have h := ite_p c6 h
      refine v_lload_n C 3 dX10_turn_73 rfl rfl (n := 74) rfl ?_
      refine v_lconst (v := 1) C dX10_turn_74 (by decide) (n := 75) rfl ?_
      refine v_aload_n C 0 dX10_turn_75 rfl rfl (n := 76) rfl ?_
      refine v_iload C 4 dX10_turn_76 rfl (n := 78) rfl ?_
      refine v_iload_n C 1 dX10_turn_78 rfl rfl (n := 79) rfl ?_
      obtain ⟨r9, S8, eS8, h⟩ := bI_e h
      refine v_callVI (As := [.int x5, .int x1]) C (c_X10_led x5 x1 S eS8) mf_X10_led w_29_10 (oX10 _ _ _) rfl ⟨rfl, rfl, by decide, by decide⟩ rfl rfl (Nat.le_of_ble_eq_true rfl) dX10_turn_79 (n := 82) rfl ?_
      refine v_lshl C dX10_turn_82 (n := 83) rfl ?_
      refine v_lor C dX10_turn_83 (n := 84) rfl ?_
      obtain ⟨y10, ey10, h⟩ := lt_e h
      refine v_lstore_n (L' := [(3, .long y10), (0, .ref (xq x 0)), (1, .int x1), (2, .int x2), (5, .int x5)]) C dX10_turn_84 rfl (by decide) rfl (n := 85) rfl ey10 ?_
      obtain ⟨y11, ey11, h⟩ := lt_e h
      refine v_iinc (L' := [(5, .int y11), (3, .long y10), (0, .ref (xq x 0)), (1, .int x1), (2, .int x2)]) C 4 dX10_turn_85 rfl (by rw [ey11]; rfl) (by decide) rfl (n := 88) rfl ?_
      refine v_goto C dX10_turn_88 (n := 50) (by decide) ?_
      refine v_sub [2, 3, 4, 1, 0] rfl ?_
      exact hk50 x1 x2 y10 y11 S8 h
theorem tg_X10_turn_50 {x : Ctx} (C : Cx x WM cX10_turn RX10 6 rm_X10_turn (some .long)) {res : Int64 × St}  : ∀ (n : Nat) (x1 : Int32) (x2 : Int32) (x3 : Int64) (x5 : Int32) (S : St), g_X10_turn_50  n x1 x2 x3 x5 S = some res → V x WM 6 (QL x WM res) S 50 [(0, .ref (xq x 0)), (1, .int x1), (2, .int x2), (3, .long x3), (5, .int x5)] [] := by
  intro n
  induction n with
  | zero => intro x1 x2 x3 x5 S h; cases h
  | succ n ih => intro x1 x2 x3 x5 S h; exact t_X10_turn_50 C (fun x1 x2 x3 x5 S h => ih x1 x2 x3 x5 S h) x1 x2 x3 x5 S h
set_option maxRecDepth 20000 in
set_option maxHeartbeats 2000000 in
theorem t_X10_turn_0 {x : Ctx} (C : Cx x WM cX10_turn RX10 6 rm_X10_turn (some .long)) {res : Int64 × St}  (x1 : Int32) (x2 : Int32) (S : St) (h : f_X10_turn_0  x1 x2 S = some res) : V x WM 6 (QL x WM res) S 0 [(0, .ref (xq x 0)), (1, .int x1), (2, .int x2)] [] := by
  unfold f_X10_turn_0 at h
  refine v_aload_n C 0 dX10_turn_0 rfl rfl (n := 1) rfl ?_
  refine v_iconst (v := 0) C dX10_turn_1 (by decide) (n := 2) rfl ?_
  obtain ⟨S1, eS1, h⟩ := lt_e h
  refine p_X10_thrown C w_9_5 dX10_turn_2 (n := 5) rfl eS1 ?_
  refine v_aload_n C 0 dX10_turn_5 rfl rfl (n := 6) rfl ?_
  refine g_X10_taleMany C w_8_7 dX10_turn_6 (n := 9) rfl ?_
  refine v_if_lt C dX10_turn_9 (t := 41) (by decide) (n := 12) rfl (fun c2 => ?_) (fun c2 => ?_)
  · have h := ite_p c2 h
    refine v_ldc2 (v := (-1)) C w_24_21 dX10_turn_41 (n := 44) rfl ?_
    obtain rfl := Option.some.inj h
    exact v_lret C dX10_turn_44
  · have h := ite_n c2 h
    refine v_aload_n C 0 dX10_turn_12 rfl rfl (n := 13) rfl ?_
    refine g_X10_taleMany C w_8_7 dX10_turn_13 (n := 16) rfl ?_
    refine v_bipush (v := 8) C dX10_turn_16 (by decide) (n := 18) rfl ?_
    refine v_icmp_eq C dX10_turn_18 (t := 41) (by decide) (n := 21) rfl (fun c3 => ?_) (fun c3 => ?_)
    · have h := ite_p c3 h
      refine v_ldc2 (v := (-1)) C w_24_21 dX10_turn_41 (n := 44) rfl ?_
      obtain rfl := Option.some.inj h
      exact v_lret C dX10_turn_44
    · have h := ite_n c3 h
      refine v_iload_n C 1 dX10_turn_21 rfl rfl (n := 22) rfl ?_
      refine v_if_lt C dX10_turn_22 (t := 41) (by decide) (n := 25) rfl (fun c4 => ?_) (fun c4 => ?_)
      · have h := ite_p c4 h
        refine v_ldc2 (v := (-1)) C w_24_21 dX10_turn_41 (n := 44) rfl ?_
        obtain rfl := Option.some.inj h
        exact v_lret C dX10_turn_44
      · have h := ite_n c4 h
        refine v_iload_n C 1 dX10_turn_25 rfl rfl (n := 26) rfl ?_
        refine v_bipush (v := 9) C dX10_turn_26 (by decide) (n := 28) rfl ?_
        refine v_icmp_gt C dX10_turn_28 (t := 41) (by decide) (n := 31) rfl (fun c5 => ?_) (fun c5 => ?_)
        · have h := ite_p c5 h
          refine v_ldc2 (v := (-1)) C w_24_21 dX10_turn_41 (n := 44) rfl ?_
          obtain rfl := Option.some.inj h
          exact v_lret C dX10_turn_44
        · have h := ite_n c5 h
          refine v_iload_n C 2 dX10_turn_31 rfl rfl (n := 32) rfl ?_
          refine v_if_lt C dX10_turn_32 (t := 41) (by decide) (n := 35) rfl (fun c6 => ?_) (fun c6 => ?_)
          · have h := ite_p c6 h
            refine v_ldc2 (v := (-1)) C w_24_21 dX10_turn_41 (n := 44) rfl ?_
            obtain rfl := Option.some.inj h
            exact v_lret C dX10_turn_44
          · have h := ite_n c6 h
            refine v_iload_n C 2 dX10_turn_35 rfl rfl (n := 36) rfl ?_
            refine v_bipush (v := 6) C dX10_turn_36 (by decide) (n := 38) rfl ?_
            refine v_icmp_le C dX10_turn_38 (t := 45) (by decide) (n := 41) rfl (fun c7 => ?_) (fun c7 => ?_)
            · have h := ite_p c7 h
              refine v_lconst (v := 0) C dX10_turn_45 (by decide) (n := 46) rfl ?_
              refine v_lstore_n (L' := [(3, .long 0), (0, .ref (xq x 0)), (1, .int x1), (2, .int x2)]) C dX10_turn_46 rfl (by decide) rfl (n := 47) rfl rfl ?_
              refine v_iconst (v := 0) C dX10_turn_47 (by decide) (n := 48) rfl ?_
              refine v_istore (L' := [(5, .int 0), (3, .long 0), (0, .ref (xq x 0)), (1, .int x1), (2, .int x2)]) C dX10_turn_48 (by decide) rfl (n := 50) rfl rfl ?_
              refine v_sub [2, 3, 4, 1, 0] rfl ?_
              exact tg_X10_turn_50 C  fuel x1 x2 0 0 S1 h
            · have h := ite_n c7 h
              refine v_ldc2 (v := (-1)) C w_24_21 dX10_turn_41 (n := 44) rfl ?_
              obtain rfl := Option.some.inj h
              exact v_lret C dX10_turn_44
theorem c_X10_turn {l : Launch} {D : va_G} {q : Nat → Nat} {ar : Ar} (a1 : Int32) (a2 : Int32) (S : St) {res : Int64 × St} (h : m_X10_turn a1 a2 S = some res) : MetL l D q ar WM yX10_turn cX10_turn 6 (some .long) rm_X10_turn [.ref (q 0), .int a1, .int a2] S res := by
  refine metL_of adrM (by decide +kernel) (Nat.le_of_ble_eq_true rfl) (fun x e1 e2 e3 e4 C => ?_)
  subst e1; subst e2; subst e3; subst e4
  exact v_sub [0, 1, 2] rfl (t_X10_turn_0 C a1 a2 S h)
theorem mf_X10_turn : CalV yX10_turn cX10_turn 6 (some .long) RX10 2 := ⟨w_29_9, w_29_7, w_29_8, w_1_5, rfl, by decide +kernel, by decide +kernel, by decide +kernel⟩
/-! LabyrinthGardenModel.tells -/
def f_X10_tells_49 (k42 : Int32 → Int32 → St → Option (Int32 × St)) (k49 : Int32 → Int32 → Int32 → St → Option (Int32 × St)) (x1 : Int32) (x2 : Int32) (x3 : Int32) (S : St) : Option (Int32 × St) :=
  if (rd S 0 16) ≤ x3 then (
    lt (x2 + 1 : Int32) fun y2 =>
    k42 x1 y2 S)
  else (
    ck x3 24 <|
    ck x2 5 <|
    bI (m_X10_led (rd S 25 x3.toNatClampNeg) (rd S 24 x2.toNatClampNeg) S) fun r6 S5 =>
    lt (up S5 25 x3.toNatClampNeg r6) fun S7 =>
    ck (rd S7 25 x3.toNatClampNeg) 24 <|
    ck (rd S7 8 (rd S7 25 x3.toNatClampNeg).toNatClampNeg) 8 <|
    lt (up S7 26 x3.toNatClampNeg ((7 * (rd S7 26 x3.toNatClampNeg)) + (rd S7 11 (rd S7 8 (rd S7 25 x3.toNatClampNeg).toNatClampNeg).toNatClampNeg))) fun S10 =>
    lt (x3 + 1 : Int32) fun y11 =>
    k49 x1 x2 y11 S10)
def g_X10_tells_49 (k42 : Int32 → Int32 → St → Option (Int32 × St)) : Nat → Int32 → Int32 → Int32 → St → Option (Int32 × St)
  | 0 => fun _ _ _ _ => none
  | n + 1 => f_X10_tells_49 k42 (g_X10_tells_49 k42 n)
def f_X10_tells_135 (k125 : Int32 → St → Option (Int32 × St)) (k135 : Int32 → Int32 → St → Option (Int32 × St)) (x2 : Int32) (x3 : Int32) (S : St) : Option (Int32 × St) :=
  if x2 ≤ x3 then (
    lt (x2 + 1 : Int32) fun y2 =>
    k125 y2 S)
  else (
    ck x2 24 <|
    ck x3 24 <|
    if (rd S 26 x2.toNatClampNeg) = (rd S 26 x3.toNatClampNeg) then (
      if (rd S 25 x2.toNatClampNeg) = (rd S 25 x3.toNatClampNeg) then (
        lt (x3 + 1 : Int32) fun y8 =>
        k135 x2 y8 S)
      else (
        some (0, S)))
    else (
      lt (x3 + 1 : Int32) fun y6 =>
      k135 x2 y6 S))
def g_X10_tells_135 (k125 : Int32 → St → Option (Int32 × St)) : Nat → Int32 → Int32 → St → Option (Int32 × St)
  | 0 => fun _ _ _ => none
  | n + 1 => f_X10_tells_135 k125 (g_X10_tells_135 k125 n)
def f_X10_tells_125 (k125 : Int32 → St → Option (Int32 × St)) (x2 : Int32) (S : St) : Option (Int32 × St) :=
  if (rd S 0 16) ≤ x2 then (
    some (1, S))
  else (
    g_X10_tells_135 k125 fuel x2 0 S)
def g_X10_tells_125  : Nat → Int32 → St → Option (Int32 × St)
  | 0 => fun _ _ => none
  | n + 1 => f_X10_tells_125 (g_X10_tells_125  n)
def f_X10_tells_42 (k42 : Int32 → Int32 → St → Option (Int32 × St)) (x1 : Int32) (x2 : Int32) (S : St) : Option (Int32 × St) :=
  if x1 ≤ x2 then (
    g_X10_tells_125  fuel 0 S)
  else (
    g_X10_tells_49 k42 fuel x1 x2 0 S)
def g_X10_tells_42  : Nat → Int32 → Int32 → St → Option (Int32 × St)
  | 0 => fun _ _ _ => none
  | n + 1 => f_X10_tells_42 (g_X10_tells_42  n)
def f_X10_tells_2 (k2 : Int32 → Int32 → St → Option (Int32 × St)) (x1 : Int32) (x2 : Int32) (S : St) : Option (Int32 × St) :=
  if (rd S 0 16) ≤ x2 then (
    g_X10_tells_42  fuel x1 0 S)
  else (
    ck x2 24 <|
    lt (up S 25 x2.toNatClampNeg x2) fun S3 =>
    ck (rd S3 8 x2.toNatClampNeg) 8 <|
    lt (up S3 26 x2.toNatClampNeg (rd S3 11 (rd S3 8 x2.toNatClampNeg).toNatClampNeg)) fun S5 =>
    lt (x2 + 1 : Int32) fun y6 =>
    k2 x1 y6 S5)
def g_X10_tells_2  : Nat → Int32 → Int32 → St → Option (Int32 × St)
  | 0 => fun _ _ _ => none
  | n + 1 => f_X10_tells_2 (g_X10_tells_2  n)
def f_X10_tells_0  (x1 : Int32) (S : St) : Option (Int32 × St) :=
  g_X10_tells_2  fuel x1 0 S
def m_X10_tells (a1 : Int32) (S : St) : Option (Int32 × St) := f_X10_tells_0 a1 S
def rm_X10_tells : Room := { frames := 1, cells := 0, slots := 0, locals := 23 }
set_option maxRecDepth 20000 in
set_option maxHeartbeats 2000000 in
theorem t_X10_tells_49 {x : Ctx} (C : Cx x WM cX10_tells RX10 4 rm_X10_tells (some .boolean)) {res : Int32 × St} {k42 : Int32 → Int32 → St → Option (Int32 × St)} (hk42 : ∀ (x1 : Int32) (x2 : Int32) (S : St), k42 x1 x2 S = some res → V x WM 4 (QI x WM res) S 42 [(0, .ref (xq x 0)), (1, .int x1), (2, .int x2)] []) {k49 : Int32 → Int32 → Int32 → St → Option (Int32 × St)} (hk49 : ∀ (x1 : Int32) (x2 : Int32) (x3 : Int32) (S : St), k49 x1 x2 x3 S = some res → V x WM 4 (QI x WM res) S 49 [(0, .ref (xq x 0)), (1, .int x1), (2, .int x2), (3, .int x3)] []) (x1 : Int32) (x2 : Int32) (x3 : Int32) (S : St) (h : f_X10_tells_49 k42 k49 x1 x2 x3 S = some res) : V x WM 4 (QI x WM res) S 49 [(0, .ref (xq x 0)), (1, .int x1), (2, .int x2), (3, .int x3)] [] := by
  unfold f_X10_tells_49 at h
  refine v_iload_n C 3 dX10_tells_49 rfl rfl (n := 50) rfl ?_
  refine v_aload_n C 0 dX10_tells_50 rfl rfl (n := 51) rfl ?_
  refine g_X10_places C w_15_16 dX10_tells_51 (n := 54) rfl ?_
  refine v_icmp_ge C dX10_tells_54 (t := 117) (by decide) (n := 57) rfl (fun c1 => ?_) (fun c1 => ?_)
  · have h := ite_p c1 h
    obtain ⟨y2, ey2, h⟩ := lt_e h
    refine v_iinc (L' := [(2, .int y2), (0, .ref (xq x 0)), (1, .int x1), (3, .int x3)]) C 2 dX10_tells_117 rfl (by rw [ey2]; rfl) (by decide) rfl (n := 120) rfl ?_
    refine v_goto C dX10_tells_120 (n := 42) (by decide) ?_
    refine v_sub [1, 2, 0] rfl ?_
    exact hk42 x1 y2 S h
  · have h := ite_n c1 h
    refine v_aload_n C 0 dX10_tells_57 rfl rfl (n := 58) rfl ?_
    refine g_X10_now C w_8_10 dX10_tells_58 (n := 61) rfl ?_
    refine v_iload_n C 3 dX10_tells_61 rfl rfl (n := 62) rfl ?_
    refine v_aload_n C 0 dX10_tells_62 rfl rfl (n := 63) rfl ?_
    refine v_aload_n C 0 dX10_tells_63 rfl rfl (n := 64) rfl ?_
    refine g_X10_now C w_8_10 dX10_tells_64 (n := 67) rfl ?_
    refine v_iload_n C 3 dX10_tells_67 rfl rfl (n := 68) rfl ?_
    obtain ⟨hi3, h⟩ := ck_e h
    refine v_ald C aM_25 hi3 dX10_tells_68 (n := 69) rfl ?_
    refine v_aload_n C 0 dX10_tells_69 rfl rfl (n := 70) rfl ?_
    refine g_X10_tries C w_8_9 dX10_tells_70 (n := 73) rfl ?_
    refine v_iload_n C 2 dX10_tells_73 rfl rfl (n := 74) rfl ?_
    obtain ⟨hi4, h⟩ := ck_e h
    refine v_ald C aM_24 hi4 dX10_tells_74 (n := 75) rfl ?_
    obtain ⟨r6, S5, eS5, h⟩ := bI_e h
    refine v_callVI (As := [.int (rd S 25 x3.toNatClampNeg), .int (rd S 24 x2.toNatClampNeg)]) C (c_X10_led (rd S 25 x3.toNatClampNeg) (rd S 24 x2.toNatClampNeg) S eS5) mf_X10_led w_29_10 (oX10 _ _ _) rfl ⟨rfl, rfl, by decide, by decide⟩ rfl rfl (Nat.le_of_ble_eq_true rfl) dX10_tells_75 (n := 78) rfl ?_
    obtain ⟨S7, eS7, h⟩ := lt_e h
    refine v_ast C aM_25 hi3 dX10_tells_78 (n := 79) rfl eS7 ?_
    refine v_aload_n C 0 dX10_tells_79 rfl rfl (n := 80) rfl ?_
    refine g_X10_sight C w_8_11 dX10_tells_80 (n := 83) rfl ?_
    refine v_iload_n C 3 dX10_tells_83 rfl rfl (n := 84) rfl ?_
    refine v_bipush (v := 7) C dX10_tells_84 (by decide) (n := 86) rfl ?_
    refine v_aload_n C 0 dX10_tells_86 rfl rfl (n := 87) rfl ?_
    refine g_X10_sight C w_8_11 dX10_tells_87 (n := 90) rfl ?_
    refine v_iload_n C 3 dX10_tells_90 rfl rfl (n := 91) rfl ?_
    refine v_ald C aM_26 hi3 dX10_tells_91 (n := 92) rfl ?_
    refine v_imul C dX10_tells_92 (n := 93) rfl ?_
    refine v_aload_n C 0 dX10_tells_93 rfl rfl (n := 94) rfl ?_
    refine g_X10_size C w_7_18 dX10_tells_94 (n := 97) rfl ?_
    refine v_aload_n C 0 dX10_tells_97 rfl rfl (n := 98) rfl ?_
    refine g_X10_at C w_7_15 dX10_tells_98 (n := 101) rfl ?_
    refine v_aload_n C 0 dX10_tells_101 rfl rfl (n := 102) rfl ?_
    refine g_X10_now C w_8_10 dX10_tells_102 (n := 105) rfl ?_
    refine v_iload_n C 3 dX10_tells_105 rfl rfl (n := 106) rfl ?_
    refine v_ald C aM_25 hi3 dX10_tells_106 (n := 107) rfl ?_
    obtain ⟨hi8, h⟩ := ck_e h
    refine v_ald C aM_8 hi8 dX10_tells_107 (n := 108) rfl ?_
    obtain ⟨hi9, h⟩ := ck_e h
    refine v_ald C aM_11 hi9 dX10_tells_108 (n := 109) rfl ?_
    refine v_iadd C dX10_tells_109 (n := 110) rfl ?_
    obtain ⟨S10, eS10, h⟩ := lt_e h
    refine v_ast C aM_26 hi3 dX10_tells_110 (n := 111) rfl eS10 ?_
    obtain ⟨y11, ey11, h⟩ := lt_e h
    refine v_iinc (L' := [(3, .int y11), (0, .ref (xq x 0)), (1, .int x1), (2, .int x2)]) C 3 dX10_tells_111 rfl (by rw [ey11]; rfl) (by decide) rfl (n := 114) rfl ?_
    refine v_goto C dX10_tells_114 (n := 49) (by decide) ?_
    refine v_sub [1, 2, 3, 0] rfl ?_
    exact hk49 x1 x2 y11 S10 h
theorem tg_X10_tells_49 {x : Ctx} (C : Cx x WM cX10_tells RX10 4 rm_X10_tells (some .boolean)) {res : Int32 × St} {k42 : Int32 → Int32 → St → Option (Int32 × St)} (hk42 : ∀ (x1 : Int32) (x2 : Int32) (S : St), k42 x1 x2 S = some res → V x WM 4 (QI x WM res) S 42 [(0, .ref (xq x 0)), (1, .int x1), (2, .int x2)] []) : ∀ (n : Nat) (x1 : Int32) (x2 : Int32) (x3 : Int32) (S : St), g_X10_tells_49 k42 n x1 x2 x3 S = some res → V x WM 4 (QI x WM res) S 49 [(0, .ref (xq x 0)), (1, .int x1), (2, .int x2), (3, .int x3)] [] := by
  intro n
  induction n with
  | zero => intro x1 x2 x3 S h; cases h
  | succ n ih => intro x1 x2 x3 S h; exact t_X10_tells_49 C hk42 (fun x1 x2 x3 S h => ih x1 x2 x3 S h) x1 x2 x3 S h
set_option maxRecDepth 20000 in
set_option maxHeartbeats 2000000 in
theorem t_X10_tells_135 {x : Ctx} (C : Cx x WM cX10_tells RX10 4 rm_X10_tells (some .boolean)) {res : Int32 × St} {k125 : Int32 → St → Option (Int32 × St)} (hk125 : ∀ (x2 : Int32) (S : St), k125 x2 S = some res → V x WM 4 (QI x WM res) S 125 [(0, .ref (xq x 0)), (2, .int x2)] []) {k135 : Int32 → Int32 → St → Option (Int32 × St)} (hk135 : ∀ (x2 : Int32) (x3 : Int32) (S : St), k135 x2 x3 S = some res → V x WM 4 (QI x WM res) S 135 [(0, .ref (xq x 0)), (2, .int x2), (3, .int x3)] []) (x2 : Int32) (x3 : Int32) (S : St) (h : f_X10_tells_135 k125 k135 x2 x3 S = some res) : V x WM 4 (QI x WM res) S 135 [(0, .ref (xq x 0)), (2, .int x2), (3, .int x3)] [] := by
  unfold f_X10_tells_135 at h
  refine v_iload_n C 2 dX10_tells_135 rfl rfl (n := 136) rfl ?_
  refine v_iload_n C 1 dX10_tells_136 rfl rfl (n := 137) rfl ?_
  refine v_icmp_ge C dX10_tells_137 (t := 178) (by decide) (n := 140) rfl (fun c1 => ?_) (fun c1 => ?_)
  · have h := ite_p c1 h
    obtain ⟨y2, ey2, h⟩ := lt_e h
    refine v_iinc (L' := [(2, .int y2), (0, .ref (xq x 0)), (3, .int x3)]) C 1 dX10_tells_178 rfl (by rw [ey2]; rfl) (by decide) rfl (n := 181) rfl ?_
    refine v_goto C dX10_tells_181 (n := 125) (by decide) ?_
    refine v_sub [1, 0] rfl ?_
    exact hk125 y2 S h
  · have h := ite_n c1 h
    refine v_aload_n C 0 dX10_tells_140 rfl rfl (n := 141) rfl ?_
    refine g_X10_sight C w_8_11 dX10_tells_141 (n := 144) rfl ?_
    refine v_iload_n C 1 dX10_tells_144 rfl rfl (n := 145) rfl ?_
    obtain ⟨hi3, h⟩ := ck_e h
    refine v_ald C aM_26 hi3 dX10_tells_145 (n := 146) rfl ?_
    refine v_aload_n C 0 dX10_tells_146 rfl rfl (n := 147) rfl ?_
    refine g_X10_sight C w_8_11 dX10_tells_147 (n := 150) rfl ?_
    refine v_iload_n C 2 dX10_tells_150 rfl rfl (n := 151) rfl ?_
    obtain ⟨hi4, h⟩ := ck_e h
    refine v_ald C aM_26 hi4 dX10_tells_151 (n := 152) rfl ?_
    refine v_icmp_ne C dX10_tells_152 (t := 172) (by decide) (n := 155) rfl (fun c5 => ?_) (fun c5 => ?_)
    · have h := ite_n c5 h
      obtain ⟨y6, ey6, h⟩ := lt_e h
      refine v_iinc (L' := [(3, .int y6), (0, .ref (xq x 0)), (2, .int x2)]) C 2 dX10_tells_172 rfl (by rw [ey6]; rfl) (by decide) rfl (n := 175) rfl ?_
      refine v_goto C dX10_tells_175 (n := 135) (by decide) ?_
      refine v_sub [1, 2, 0] rfl ?_
      exact hk135 x2 y6 S h
    · have h := ite_p c5 h
      refine v_aload_n C 0 dX10_tells_155 rfl rfl (n := 156) rfl ?_
      refine g_X10_now C w_8_10 dX10_tells_156 (n := 159) rfl ?_
      refine v_iload_n C 1 dX10_tells_159 rfl rfl (n := 160) rfl ?_
      refine v_ald C aM_25 hi3 dX10_tells_160 (n := 161) rfl ?_
      refine v_aload_n C 0 dX10_tells_161 rfl rfl (n := 162) rfl ?_
      refine g_X10_now C w_8_10 dX10_tells_162 (n := 165) rfl ?_
      refine v_iload_n C 2 dX10_tells_165 rfl rfl (n := 166) rfl ?_
      refine v_ald C aM_25 hi4 dX10_tells_166 (n := 167) rfl ?_
      refine v_icmp_eq C dX10_tells_167 (t := 172) (by decide) (n := 170) rfl (fun c7 => ?_) (fun c7 => ?_)
      · have h := ite_p c7 h
        obtain ⟨y8, ey8, h⟩ := lt_e h
        refine v_iinc (L' := [(3, .int y8), (0, .ref (xq x 0)), (2, .int x2)]) C 2 dX10_tells_172 rfl (by rw [ey8]; rfl) (by decide) rfl (n := 175) rfl ?_
        refine v_goto C dX10_tells_175 (n := 135) (by decide) ?_
        refine v_sub [1, 2, 0] rfl ?_
        exact hk135 x2 y8 S h
      · have h := ite_n c7 h
        refine v_iconst (v := 0) C dX10_tells_170 (by decide) (n := 171) rfl ?_
        obtain rfl := Option.some.inj h
        exact v_zret C (Or.inl rfl) dX10_tells_171
theorem tg_X10_tells_135 {x : Ctx} (C : Cx x WM cX10_tells RX10 4 rm_X10_tells (some .boolean)) {res : Int32 × St} {k125 : Int32 → St → Option (Int32 × St)} (hk125 : ∀ (x2 : Int32) (S : St), k125 x2 S = some res → V x WM 4 (QI x WM res) S 125 [(0, .ref (xq x 0)), (2, .int x2)] []) : ∀ (n : Nat) (x2 : Int32) (x3 : Int32) (S : St), g_X10_tells_135 k125 n x2 x3 S = some res → V x WM 4 (QI x WM res) S 135 [(0, .ref (xq x 0)), (2, .int x2), (3, .int x3)] [] := by
  intro n
  induction n with
  | zero => intro x2 x3 S h; cases h
  | succ n ih => intro x2 x3 S h; exact t_X10_tells_135 C hk125 (fun x2 x3 S h => ih x2 x3 S h) x2 x3 S h
set_option maxRecDepth 20000 in
set_option maxHeartbeats 2000000 in
theorem t_X10_tells_125 {x : Ctx} (C : Cx x WM cX10_tells RX10 4 rm_X10_tells (some .boolean)) {res : Int32 × St} {k125 : Int32 → St → Option (Int32 × St)} (hk125 : ∀ (x2 : Int32) (S : St), k125 x2 S = some res → V x WM 4 (QI x WM res) S 125 [(0, .ref (xq x 0)), (2, .int x2)] []) (x2 : Int32) (S : St) (h : f_X10_tells_125 k125 x2 S = some res) : V x WM 4 (QI x WM res) S 125 [(0, .ref (xq x 0)), (2, .int x2)] [] := by
  unfold f_X10_tells_125 at h
  refine v_iload_n C 1 dX10_tells_125 rfl rfl (n := 126) rfl ?_
  refine v_aload_n C 0 dX10_tells_126 rfl rfl (n := 127) rfl ?_
  refine g_X10_places C w_15_16 dX10_tells_127 (n := 130) rfl ?_
  refine v_icmp_ge C dX10_tells_130 (t := 184) (by decide) (n := 133) rfl (fun c1 => ?_) (fun c1 => ?_)
  · have h := ite_p c1 h
    refine v_iconst (v := 1) C dX10_tells_184 (by decide) (n := 185) rfl ?_
    obtain rfl := Option.some.inj h
    exact v_zret C (Or.inr rfl) dX10_tells_185
  · have h := ite_n c1 h
    refine v_iconst (v := 0) C dX10_tells_133 (by decide) (n := 134) rfl ?_
    refine v_istore_n (L' := [(3, .int 0), (0, .ref (xq x 0)), (2, .int x2)]) C dX10_tells_134 rfl (by decide) rfl (n := 135) rfl rfl ?_
    refine v_sub [1, 2, 0] rfl ?_
    exact tg_X10_tells_135 C hk125 fuel x2 0 S h
theorem tg_X10_tells_125 {x : Ctx} (C : Cx x WM cX10_tells RX10 4 rm_X10_tells (some .boolean)) {res : Int32 × St}  : ∀ (n : Nat) (x2 : Int32) (S : St), g_X10_tells_125  n x2 S = some res → V x WM 4 (QI x WM res) S 125 [(0, .ref (xq x 0)), (2, .int x2)] [] := by
  intro n
  induction n with
  | zero => intro x2 S h; cases h
  | succ n ih => intro x2 S h; exact t_X10_tells_125 C (fun x2 S h => ih x2 S h) x2 S h
set_option maxRecDepth 20000 in
set_option maxHeartbeats 2000000 in
theorem t_X10_tells_42 {x : Ctx} (C : Cx x WM cX10_tells RX10 4 rm_X10_tells (some .boolean)) {res : Int32 × St} {k42 : Int32 → Int32 → St → Option (Int32 × St)} (hk42 : ∀ (x1 : Int32) (x2 : Int32) (S : St), k42 x1 x2 S = some res → V x WM 4 (QI x WM res) S 42 [(0, .ref (xq x 0)), (1, .int x1), (2, .int x2)] []) (x1 : Int32) (x2 : Int32) (S : St) (h : f_X10_tells_42 k42 x1 x2 S = some res) : V x WM 4 (QI x WM res) S 42 [(0, .ref (xq x 0)), (1, .int x1), (2, .int x2)] [] := by
  unfold f_X10_tells_42 at h
  refine v_iload_n C 2 dX10_tells_42 rfl rfl (n := 43) rfl ?_
  refine v_iload_n C 1 dX10_tells_43 rfl rfl (n := 44) rfl ?_
  refine v_icmp_ge C dX10_tells_44 (t := 123) (by decide) (n := 47) rfl (fun c1 => ?_) (fun c1 => ?_)
  · have h := ite_p c1 h
    refine v_iconst (v := 0) C dX10_tells_123 (by decide) (n := 124) rfl ?_
    refine v_istore_n (L' := [(2, .int 0), (0, .ref (xq x 0)), (1, .int x1)]) C dX10_tells_124 rfl (by decide) rfl (n := 125) rfl rfl ?_
    refine v_sub [1, 0] rfl ?_
    exact tg_X10_tells_125 C  fuel 0 S h
  · have h := ite_n c1 h
    refine v_iconst (v := 0) C dX10_tells_47 (by decide) (n := 48) rfl ?_
    refine v_istore_n (L' := [(3, .int 0), (0, .ref (xq x 0)), (1, .int x1), (2, .int x2)]) C dX10_tells_48 rfl (by decide) rfl (n := 49) rfl rfl ?_
    refine v_sub [1, 2, 3, 0] rfl ?_
    exact tg_X10_tells_49 C hk42 fuel x1 x2 0 S h
theorem tg_X10_tells_42 {x : Ctx} (C : Cx x WM cX10_tells RX10 4 rm_X10_tells (some .boolean)) {res : Int32 × St}  : ∀ (n : Nat) (x1 : Int32) (x2 : Int32) (S : St), g_X10_tells_42  n x1 x2 S = some res → V x WM 4 (QI x WM res) S 42 [(0, .ref (xq x 0)), (1, .int x1), (2, .int x2)] [] := by
  intro n
  induction n with
  | zero => intro x1 x2 S h; cases h
  | succ n ih => intro x1 x2 S h; exact t_X10_tells_42 C (fun x1 x2 S h => ih x1 x2 S h) x1 x2 S h
set_option maxRecDepth 20000 in
set_option maxHeartbeats 2000000 in
theorem t_X10_tells_2 {x : Ctx} (C : Cx x WM cX10_tells RX10 4 rm_X10_tells (some .boolean)) {res : Int32 × St} {k2 : Int32 → Int32 → St → Option (Int32 × St)} (hk2 : ∀ (x1 : Int32) (x2 : Int32) (S : St), k2 x1 x2 S = some res → V x WM 4 (QI x WM res) S 2 [(0, .ref (xq x 0)), (1, .int x1), (2, .int x2)] []) (x1 : Int32) (x2 : Int32) (S : St) (h : f_X10_tells_2 k2 x1 x2 S = some res) : V x WM 4 (QI x WM res) S 2 [(0, .ref (xq x 0)), (1, .int x1), (2, .int x2)] [] := by
  unfold f_X10_tells_2 at h
  refine v_iload_n C 2 dX10_tells_2 rfl rfl (n := 3) rfl ?_
  refine v_aload_n C 0 dX10_tells_3 rfl rfl (n := 4) rfl ?_
  refine g_X10_places C w_15_16 dX10_tells_4 (n := 7) rfl ?_
  refine v_icmp_ge C dX10_tells_7 (t := 40) (by decide) (n := 10) rfl (fun c1 => ?_) (fun c1 => ?_)
  · have h := ite_p c1 h
    refine v_iconst (v := 0) C dX10_tells_40 (by decide) (n := 41) rfl ?_
    refine v_istore_n (L' := [(2, .int 0), (0, .ref (xq x 0)), (1, .int x1)]) C dX10_tells_41 rfl (by decide) rfl (n := 42) rfl rfl ?_
    refine v_sub [1, 2, 0] rfl ?_
    exact tg_X10_tells_42 C  fuel x1 0 S h
  · have h := ite_n c1 h
    refine v_aload_n C 0 dX10_tells_10 rfl rfl (n := 11) rfl ?_
    refine g_X10_now C w_8_10 dX10_tells_11 (n := 14) rfl ?_
    refine v_iload_n C 2 dX10_tells_14 rfl rfl (n := 15) rfl ?_
    refine v_iload_n C 2 dX10_tells_15 rfl rfl (n := 16) rfl ?_
    obtain ⟨hi2, h⟩ := ck_e h
    obtain ⟨S3, eS3, h⟩ := lt_e h
    refine v_ast C aM_25 hi2 dX10_tells_16 (n := 17) rfl eS3 ?_
    refine v_aload_n C 0 dX10_tells_17 rfl rfl (n := 18) rfl ?_
    refine g_X10_sight C w_8_11 dX10_tells_18 (n := 21) rfl ?_
    refine v_iload_n C 2 dX10_tells_21 rfl rfl (n := 22) rfl ?_
    refine v_aload_n C 0 dX10_tells_22 rfl rfl (n := 23) rfl ?_
    refine g_X10_size C w_7_18 dX10_tells_23 (n := 26) rfl ?_
    refine v_aload_n C 0 dX10_tells_26 rfl rfl (n := 27) rfl ?_
    refine g_X10_at C w_7_15 dX10_tells_27 (n := 30) rfl ?_
    refine v_iload_n C 2 dX10_tells_30 rfl rfl (n := 31) rfl ?_
    refine v_ald C aM_8 hi2 dX10_tells_31 (n := 32) rfl ?_
    obtain ⟨hi4, h⟩ := ck_e h
    refine v_ald C aM_11 hi4 dX10_tells_32 (n := 33) rfl ?_
    obtain ⟨S5, eS5, h⟩ := lt_e h
    refine v_ast C aM_26 hi2 dX10_tells_33 (n := 34) rfl eS5 ?_
    obtain ⟨y6, ey6, h⟩ := lt_e h
    refine v_iinc (L' := [(2, .int y6), (0, .ref (xq x 0)), (1, .int x1)]) C 2 dX10_tells_34 rfl (by rw [ey6]; rfl) (by decide) rfl (n := 37) rfl ?_
    refine v_goto C dX10_tells_37 (n := 2) (by decide) ?_
    refine v_sub [1, 2, 0] rfl ?_
    exact hk2 x1 y6 S5 h
theorem tg_X10_tells_2 {x : Ctx} (C : Cx x WM cX10_tells RX10 4 rm_X10_tells (some .boolean)) {res : Int32 × St}  : ∀ (n : Nat) (x1 : Int32) (x2 : Int32) (S : St), g_X10_tells_2  n x1 x2 S = some res → V x WM 4 (QI x WM res) S 2 [(0, .ref (xq x 0)), (1, .int x1), (2, .int x2)] [] := by
  intro n
  induction n with
  | zero => intro x1 x2 S h; cases h
  | succ n ih => intro x1 x2 S h; exact t_X10_tells_2 C (fun x1 x2 S h => ih x1 x2 S h) x1 x2 S h
set_option maxRecDepth 20000 in
set_option maxHeartbeats 2000000 in
theorem t_X10_tells_0 {x : Ctx} (C : Cx x WM cX10_tells RX10 4 rm_X10_tells (some .boolean)) {res : Int32 × St}  (x1 : Int32) (S : St) (h : f_X10_tells_0  x1 S = some res) : V x WM 4 (QI x WM res) S 0 [(0, .ref (xq x 0)), (1, .int x1)] [] := by
  unfold f_X10_tells_0 at h
  refine v_iconst (v := 0) C dX10_tells_0 (by decide) (n := 1) rfl ?_
  refine v_istore_n (L' := [(2, .int 0), (0, .ref (xq x 0)), (1, .int x1)]) C dX10_tells_1 rfl (by decide) rfl (n := 2) rfl rfl ?_
  refine v_sub [1, 2, 0] rfl ?_
  exact tg_X10_tells_2 C  fuel x1 0 S h
theorem c_X10_tells {l : Launch} {D : va_G} {q : Nat → Nat} {ar : Ar} (a1 : Int32) (S : St) {res : Int32 × St} (h : m_X10_tells a1 S = some res) : MetI l D q ar WM yX10_tells cX10_tells 4 (some .boolean) rm_X10_tells [.ref (q 0), .int a1] S res := by
  refine metI_of adrM (by decide +kernel) (Nat.le_of_ble_eq_true rfl) (fun x e1 e2 e3 e4 C => ?_)
  subst e1; subst e2; subst e3; subst e4
  exact v_sub [0, 1] rfl (t_X10_tells_0 C a1 S h)
theorem mf_X10_tells : CalV yX10_tells cX10_tells 4 (some .boolean) RX10 1 := ⟨w_32_16, w_32_14, w_32_15, w_1_5, rfl, by decide +kernel, by decide +kernel, by decide +kernel⟩
/-! LabyrinthGardenModel.home -/
def f_X10_home_79 (k79 : Int32 → Int32 → St → Option (Int32 × St)) (x2 : Int32) (x5 : Int32) (S : St) : Option (Int32 × St) :=
  if x2 ≤ x5 then (
    some (x2, S))
  else (
    ck x5 5 <|
    lt (up S 23 x5.toNatClampNeg (rd S 24 x5.toNatClampNeg)) fun S3 =>
    lt (x5 + 1 : Int32) fun y4 =>
    k79 x2 y4 S3)
def g_X10_home_79  : Nat → Int32 → Int32 → St → Option (Int32 × St)
  | 0 => fun _ _ _ => none
  | n + 1 => f_X10_home_79 (g_X10_home_79  n)
def f_X10_home_30 (k17 : Int32 → Int32 → Int32 → St → Option (Int32 × St)) (k30 : Int32 → Int32 → Int32 → Int32 → Int32 → St → Option (Int32 × St)) (x1 : Int32) (x2 : Int32) (x3 : Int32) (x4 : Int32) (x5 : Int32) (S : St) : Option (Int32 × St) :=
  if x5 < 0 then (
    bI (m_X10_tells x2 S) fun r3 S2 =>
    if r3 = 0 then (
      lt (x3 + 1 : Int32) fun y6 =>
      k17 x1 x2 y6 S2)
    else (
      lt (up S2 0 50 x2) fun S5 =>
      g_X10_home_79  fuel x2 0 S5))
  else (
    ck x5 5 <|
    lt (up S 24 x5.toNatClampNeg (irem x4 6)) fun S8 =>
    lt ((x4 / 6) : Int32) fun y9 =>
    lt (x5 + (-1) : Int32) fun y10 =>
    k30 x1 x2 x3 y9 y10 S8)
def g_X10_home_30 (k17 : Int32 → Int32 → Int32 → St → Option (Int32 × St)) : Nat → Int32 → Int32 → Int32 → Int32 → Int32 → St → Option (Int32 × St)
  | 0 => fun _ _ _ _ _ _ => none
  | n + 1 => f_X10_home_30 k17 (g_X10_home_30 k17 n)
def f_X10_home_17 (k9 : Int32 → Int32 → St → Option (Int32 × St)) (k17 : Int32 → Int32 → Int32 → St → Option (Int32 × St)) (x1 : Int32) (x2 : Int32) (x3 : Int32) (S : St) : Option (Int32 × St) :=
  if x1 ≤ x3 then (
    lt ((x1 * 6) : Int32) fun y2 =>
    lt (x2 + 1 : Int32) fun y3 =>
    k9 y2 y3 S)
  else (
    lt ((x2 - 1) : Int32) fun y4 =>
    g_X10_home_30 k17 fuel x1 x2 x3 x3 y4 S)
def g_X10_home_17 (k9 : Int32 → Int32 → St → Option (Int32 × St)) : Nat → Int32 → Int32 → Int32 → St → Option (Int32 × St)
  | 0 => fun _ _ _ _ => none
  | n + 1 => f_X10_home_17 k9 (g_X10_home_17 k9 n)
def f_X10_home_9 (k9 : Int32 → Int32 → St → Option (Int32 × St)) (x1 : Int32) (x2 : Int32) (S : St) : Option (Int32 × St) :=
  if 6 ≤ x2 then (
    some ((-1), S))
  else (
    g_X10_home_17 k9 fuel x1 x2 0 S)
def g_X10_home_9  : Nat → Int32 → Int32 → St → Option (Int32 × St)
  | 0 => fun _ _ _ => none
  | n + 1 => f_X10_home_9 (g_X10_home_9  n)
def f_X10_home_0   (S : St) : Option (Int32 × St) :=
  lt (up S 0 2 0) fun S1 =>
  g_X10_home_9  fuel 1 0 S1
def m_X10_home  (S : St) : Option (Int32 × St) := f_X10_home_0  S
def rm_X10_home : Room := { frames := 2, cells := 0, slots := 0, locals := 46 }
set_option maxRecDepth 20000 in
set_option maxHeartbeats 2000000 in
theorem t_X10_home_79 {x : Ctx} (C : Cx x WM cX10_home RX10 6 rm_X10_home (some .int)) {res : Int32 × St} {k79 : Int32 → Int32 → St → Option (Int32 × St)} (hk79 : ∀ (x2 : Int32) (x5 : Int32) (S : St), k79 x2 x5 S = some res → V x WM 6 (QI x WM res) S 79 [(0, .ref (xq x 0)), (2, .int x2), (5, .int x5)] []) (x2 : Int32) (x5 : Int32) (S : St) (h : f_X10_home_79 k79 x2 x5 S = some res) : V x WM 6 (QI x WM res) S 79 [(0, .ref (xq x 0)), (2, .int x2), (5, .int x5)] [] := by
  unfold f_X10_home_79 at h
  refine v_iload C 2 dX10_home_79 rfl (n := 81) rfl ?_
  refine v_iload_n C 1 dX10_home_81 rfl rfl (n := 82) rfl ?_
  refine v_icmp_ge C dX10_home_82 (t := 105) (by decide) (n := 85) rfl (fun c1 => ?_) (fun c1 => ?_)
  · have h := ite_p c1 h
    refine v_iload_n C 1 dX10_home_105 rfl rfl (n := 106) rfl ?_
    obtain rfl := Option.some.inj h
    exact v_iret C dX10_home_106
  · have h := ite_n c1 h
    refine v_aload_n C 0 dX10_home_85 rfl rfl (n := 86) rfl ?_
    refine g_X10_homeTold C w_8_8 dX10_home_86 (n := 89) rfl ?_
    refine v_iload C 2 dX10_home_89 rfl (n := 91) rfl ?_
    refine v_aload_n C 0 dX10_home_91 rfl rfl (n := 92) rfl ?_
    refine g_X10_tries C w_8_9 dX10_home_92 (n := 95) rfl ?_
    refine v_iload C 2 dX10_home_95 rfl (n := 97) rfl ?_
    obtain ⟨hi2, h⟩ := ck_e h
    refine v_ald C aM_24 hi2 dX10_home_97 (n := 98) rfl ?_
    obtain ⟨S3, eS3, h⟩ := lt_e h
    refine v_ast C aM_23 hi2 dX10_home_98 (n := 99) rfl eS3 ?_
    obtain ⟨y4, ey4, h⟩ := lt_e h
    refine v_iinc (L' := [(5, .int y4), (0, .ref (xq x 0)), (2, .int x2)]) C 2 dX10_home_99 rfl (by rw [ey4]; rfl) (by decide) rfl (n := 102) rfl ?_
    refine v_goto C dX10_home_102 (n := 79) (by decide) ?_
    refine v_sub [1, 2, 0] rfl ?_
    exact hk79 x2 y4 S3 h
theorem tg_X10_home_79 {x : Ctx} (C : Cx x WM cX10_home RX10 6 rm_X10_home (some .int)) {res : Int32 × St}  : ∀ (n : Nat) (x2 : Int32) (x5 : Int32) (S : St), g_X10_home_79  n x2 x5 S = some res → V x WM 6 (QI x WM res) S 79 [(0, .ref (xq x 0)), (2, .int x2), (5, .int x5)] [] := by
  intro n
  induction n with
  | zero => intro x2 x5 S h; cases h
  | succ n ih => intro x2 x5 S h; exact t_X10_home_79 C (fun x2 x5 S h => ih x2 x5 S h) x2 x5 S h
set_option maxRecDepth 20000 in
set_option maxHeartbeats 2000000 in
theorem t_X10_home_30 {x : Ctx} (C : Cx x WM cX10_home RX10 6 rm_X10_home (some .int)) {res : Int32 × St} {k17 : Int32 → Int32 → Int32 → St → Option (Int32 × St)} (hk17 : ∀ (x1 : Int32) (x2 : Int32) (x3 : Int32) (S : St), k17 x1 x2 x3 S = some res → V x WM 6 (QI x WM res) S 17 [(0, .ref (xq x 0)), (1, .int x1), (2, .int x2), (3, .int x3)] []) {k30 : Int32 → Int32 → Int32 → Int32 → Int32 → St → Option (Int32 × St)} (hk30 : ∀ (x1 : Int32) (x2 : Int32) (x3 : Int32) (x4 : Int32) (x5 : Int32) (S : St), k30 x1 x2 x3 x4 x5 S = some res → V x WM 6 (QI x WM res) S 30 [(0, .ref (xq x 0)), (1, .int x1), (2, .int x2), (3, .int x3), (4, .int x4), (5, .int x5)] []) (x1 : Int32) (x2 : Int32) (x3 : Int32) (x4 : Int32) (x5 : Int32) (S : St) (h : f_X10_home_30 k17 k30 x1 x2 x3 x4 x5 S = some res) : V x WM 6 (QI x WM res) S 30 [(0, .ref (xq x 0)), (1, .int x1), (2, .int x2), (3, .int x3), (4, .int x4), (5, .int x5)] [] := by
  unfold f_X10_home_30 at h
  refine v_iload C 5 dX10_home_30 rfl (n := 32) rfl ?_
  refine v_if_lt C dX10_home_32 (t := 60) (by decide) (n := 35) rfl (fun c1 => ?_) (fun c1 => ?_)
  · have h := ite_p c1 h
    refine v_aload_n C 0 dX10_home_60 rfl rfl (n := 61) rfl ?_
    refine v_iload_n C 2 dX10_home_61 rfl rfl (n := 62) rfl ?_
    obtain ⟨r3, S2, eS2, h⟩ := bI_e h
    refine v_callVI (As := [.int x2]) C (c_X10_tells x2 S eS2) mf_X10_tells w_32_13 (oX10 _ _ _) rfl ⟨rfl, rfl, by decide, by decide⟩ rfl rfl (Nat.le_of_ble_eq_true rfl) dX10_home_62 (n := 65) rfl ?_
    refine v_if_ne C dX10_home_65 (t := 71) (by decide) (n := 68) rfl (fun c4 => ?_) (fun c4 => ?_)
    · have h := ite_n c4 h
      refine v_aload_n C 0 dX10_home_71 rfl rfl (n := 72) rfl ?_
      refine v_iload_n C 2 dX10_home_72 rfl rfl (n := 73) rfl ?_
      obtain ⟨S5, eS5, h⟩ := lt_e h
      refine p_X10_homeMany C w_32_12 dX10_home_73 (n := 76) rfl eS5 ?_
      refine v_iconst (v := 0) C dX10_home_76 (by decide) (n := 77) rfl ?_
      refine v_istore (L' := [(5, .int 0), (0, .ref (xq x 0)), (1, .int x1), (2, .int x2), (3, .int x3), (4, .int x4)]) C dX10_home_77 (by decide) rfl (n := 79) rfl rfl ?_
      refine v_sub [1, 3, 0] rfl ?_
      exact tg_X10_home_79 C  fuel x2 0 S5 h
    · have h := ite_p c4 h
      refine v_goto C dX10_home_68 (n := 107) (by decide) ?_
      obtain ⟨y6, ey6, h⟩ := lt_e h
      refine v_iinc (L' := [(3, .int y6), (0, .ref (xq x 0)), (1, .int x1), (2, .int x2), (4, .int x4), (5, .int x5)]) C 3 dX10_home_107 rfl (by rw [ey6]; rfl) (by decide) rfl (n := 110) rfl ?_
      refine v_goto C dX10_home_110 (n := 17) (by decide) ?_
      refine v_sub [1, 2, 3, 0] rfl ?_
      exact hk17 x1 x2 y6 S2 h
  · have h := ite_n c1 h
    refine v_aload_n C 0 dX10_home_35 rfl rfl (n := 36) rfl ?_
    refine g_X10_tries C w_8_9 dX10_home_36 (n := 39) rfl ?_
    refine v_iload C 5 dX10_home_39 rfl (n := 41) rfl ?_
    refine v_iload C 4 dX10_home_41 rfl (n := 43) rfl ?_
    refine v_bipush (v := 6) C dX10_home_43 (by decide) (n := 45) rfl ?_
    refine v_irem C dX10_home_45 (by decide) (n := 46) rfl ?_
    obtain ⟨hi7, h⟩ := ck_e h
    obtain ⟨S8, eS8, h⟩ := lt_e h
    refine v_ast C aM_24 hi7 dX10_home_46 (n := 47) rfl eS8 ?_
    refine v_iload C 4 dX10_home_47 rfl (n := 49) rfl ?_
    refine v_bipush (v := 6) C dX10_home_49 (by decide) (n := 51) rfl ?_
    refine v_idiv C dX10_home_51 (by decide) (n := 52) rfl ?_
    obtain ⟨y9, ey9, h⟩ := lt_e h
    refine v_istore (L' := [(4, .int y9), (0, .ref (xq x 0)), (1, .int x1), (2, .int x2), (3, .int x3), (5, .int x5)]) C dX10_home_52 (by decide) rfl (n := 54) rfl ey9 ?_
    obtain ⟨y10, ey10, h⟩ := lt_e h
    refine v_iinc (L' := [(5, .int y10), (4, .int y9), (0, .ref (xq x 0)), (1, .int x1), (2, .int x2), (3, .int x3)]) C 5 dX10_home_54 rfl (by rw [ey10]; rfl) (by decide) rfl (n := 57) rfl ?_
    refine v_goto C dX10_home_57 (n := 30) (by decide) ?_
    refine v_sub [2, 3, 4, 5, 1, 0] rfl ?_
    exact hk30 x1 x2 x3 y9 y10 S8 h
theorem tg_X10_home_30 {x : Ctx} (C : Cx x WM cX10_home RX10 6 rm_X10_home (some .int)) {res : Int32 × St} {k17 : Int32 → Int32 → Int32 → St → Option (Int32 × St)} (hk17 : ∀ (x1 : Int32) (x2 : Int32) (x3 : Int32) (S : St), k17 x1 x2 x3 S = some res → V x WM 6 (QI x WM res) S 17 [(0, .ref (xq x 0)), (1, .int x1), (2, .int x2), (3, .int x3)] []) : ∀ (n : Nat) (x1 : Int32) (x2 : Int32) (x3 : Int32) (x4 : Int32) (x5 : Int32) (S : St), g_X10_home_30 k17 n x1 x2 x3 x4 x5 S = some res → V x WM 6 (QI x WM res) S 30 [(0, .ref (xq x 0)), (1, .int x1), (2, .int x2), (3, .int x3), (4, .int x4), (5, .int x5)] [] := by
  intro n
  induction n with
  | zero => intro x1 x2 x3 x4 x5 S h; cases h
  | succ n ih => intro x1 x2 x3 x4 x5 S h; exact t_X10_home_30 C hk17 (fun x1 x2 x3 x4 x5 S h => ih x1 x2 x3 x4 x5 S h) x1 x2 x3 x4 x5 S h
set_option maxRecDepth 20000 in
set_option maxHeartbeats 2000000 in
theorem t_X10_home_17 {x : Ctx} (C : Cx x WM cX10_home RX10 6 rm_X10_home (some .int)) {res : Int32 × St} {k9 : Int32 → Int32 → St → Option (Int32 × St)} (hk9 : ∀ (x1 : Int32) (x2 : Int32) (S : St), k9 x1 x2 S = some res → V x WM 6 (QI x WM res) S 9 [(0, .ref (xq x 0)), (1, .int x1), (2, .int x2)] []) {k17 : Int32 → Int32 → Int32 → St → Option (Int32 × St)} (hk17 : ∀ (x1 : Int32) (x2 : Int32) (x3 : Int32) (S : St), k17 x1 x2 x3 S = some res → V x WM 6 (QI x WM res) S 17 [(0, .ref (xq x 0)), (1, .int x1), (2, .int x2), (3, .int x3)] []) (x1 : Int32) (x2 : Int32) (x3 : Int32) (S : St) (h : f_X10_home_17 k9 k17 x1 x2 x3 S = some res) : V x WM 6 (QI x WM res) S 17 [(0, .ref (xq x 0)), (1, .int x1), (2, .int x2), (3, .int x3)] [] := by
  unfold f_X10_home_17 at h
  refine v_iload_n C 3 dX10_home_17 rfl rfl (n := 18) rfl ?_
  refine v_iload_n C 1 dX10_home_18 rfl rfl (n := 19) rfl ?_
  refine v_icmp_ge C dX10_home_19 (t := 113) (by decide) (n := 22) rfl (fun c1 => ?_) (fun c1 => ?_)
  · have h := ite_p c1 h
    refine v_iload_n C 1 dX10_home_113 rfl rfl (n := 114) rfl ?_
    refine v_bipush (v := 6) C dX10_home_114 (by decide) (n := 116) rfl ?_
    refine v_imul C dX10_home_116 (n := 117) rfl ?_
    obtain ⟨y2, ey2, h⟩ := lt_e h
    refine v_istore_n (L' := [(1, .int y2), (0, .ref (xq x 0)), (2, .int x2), (3, .int x3)]) C dX10_home_117 rfl (by decide) rfl (n := 118) rfl ey2 ?_
    obtain ⟨y3, ey3, h⟩ := lt_e h
    refine v_iinc (L' := [(2, .int y3), (1, .int y2), (0, .ref (xq x 0)), (3, .int x3)]) C 2 dX10_home_118 rfl (by rw [ey3]; rfl) (by decide) rfl (n := 121) rfl ?_
    refine v_goto C dX10_home_121 (n := 9) (by decide) ?_
    refine v_sub [2, 1, 0] rfl ?_
    exact hk9 y2 y3 S h
  · have h := ite_n c1 h
    refine v_iload_n C 3 dX10_home_22 rfl rfl (n := 23) rfl ?_
    refine v_istore (L' := [(4, .int x3), (0, .ref (xq x 0)), (1, .int x1), (2, .int x2), (3, .int x3)]) C dX10_home_23 (by decide) rfl (n := 25) rfl rfl ?_
    refine v_iload_n C 3 dX10_home_25 rfl rfl (n := 26) rfl ?_
    refine v_iconst (v := 1) C dX10_home_26 (by decide) (n := 27) rfl ?_
    refine v_isub C dX10_home_27 (n := 28) rfl ?_
    obtain ⟨y4, ey4, h⟩ := lt_e h
    refine v_istore (L' := [(5, .int y4), (4, .int x3), (0, .ref (xq x 0)), (1, .int x1), (2, .int x2), (3, .int x3)]) C dX10_home_28 (by decide) rfl (n := 30) rfl ey4 ?_
    refine v_sub [2, 3, 4, 5, 1, 0] rfl ?_
    exact tg_X10_home_30 C hk17 fuel x1 x2 x3 x3 y4 S h
theorem tg_X10_home_17 {x : Ctx} (C : Cx x WM cX10_home RX10 6 rm_X10_home (some .int)) {res : Int32 × St} {k9 : Int32 → Int32 → St → Option (Int32 × St)} (hk9 : ∀ (x1 : Int32) (x2 : Int32) (S : St), k9 x1 x2 S = some res → V x WM 6 (QI x WM res) S 9 [(0, .ref (xq x 0)), (1, .int x1), (2, .int x2)] []) : ∀ (n : Nat) (x1 : Int32) (x2 : Int32) (x3 : Int32) (S : St), g_X10_home_17 k9 n x1 x2 x3 S = some res → V x WM 6 (QI x WM res) S 17 [(0, .ref (xq x 0)), (1, .int x1), (2, .int x2), (3, .int x3)] [] := by
  intro n
  induction n with
  | zero => intro x1 x2 x3 S h; cases h
  | succ n ih => intro x1 x2 x3 S h; exact t_X10_home_17 C hk9 (fun x1 x2 x3 S h => ih x1 x2 x3 S h) x1 x2 x3 S h
set_option maxRecDepth 20000 in
set_option maxHeartbeats 2000000 in
theorem t_X10_home_9 {x : Ctx} (C : Cx x WM cX10_home RX10 6 rm_X10_home (some .int)) {res : Int32 × St} {k9 : Int32 → Int32 → St → Option (Int32 × St)} (hk9 : ∀ (x1 : Int32) (x2 : Int32) (S : St), k9 x1 x2 S = some res → V x WM 6 (QI x WM res) S 9 [(0, .ref (xq x 0)), (1, .int x1), (2, .int x2)] []) (x1 : Int32) (x2 : Int32) (S : St) (h : f_X10_home_9 k9 x1 x2 S = some res) : V x WM 6 (QI x WM res) S 9 [(0, .ref (xq x 0)), (1, .int x1), (2, .int x2)] [] := by
  unfold f_X10_home_9 at h
  refine v_iload_n C 2 dX10_home_9 rfl rfl (n := 10) rfl ?_
  refine v_bipush (v := 6) C dX10_home_10 (by decide) (n := 12) rfl ?_
  refine v_icmp_ge C dX10_home_12 (t := 124) (by decide) (n := 15) rfl (fun c1 => ?_) (fun c1 => ?_)
  · have h := ite_p c1 h
    refine v_iconst (v := (-1)) C dX10_home_124 (by decide) (n := 125) rfl ?_
    obtain rfl := Option.some.inj h
    exact v_iret C dX10_home_125
  · have h := ite_n c1 h
    refine v_iconst (v := 0) C dX10_home_15 (by decide) (n := 16) rfl ?_
    refine v_istore_n (L' := [(3, .int 0), (0, .ref (xq x 0)), (1, .int x1), (2, .int x2)]) C dX10_home_16 rfl (by decide) rfl (n := 17) rfl rfl ?_
    refine v_sub [1, 2, 3, 0] rfl ?_
    exact tg_X10_home_17 C hk9 fuel x1 x2 0 S h
theorem tg_X10_home_9 {x : Ctx} (C : Cx x WM cX10_home RX10 6 rm_X10_home (some .int)) {res : Int32 × St}  : ∀ (n : Nat) (x1 : Int32) (x2 : Int32) (S : St), g_X10_home_9  n x1 x2 S = some res → V x WM 6 (QI x WM res) S 9 [(0, .ref (xq x 0)), (1, .int x1), (2, .int x2)] [] := by
  intro n
  induction n with
  | zero => intro x1 x2 S h; cases h
  | succ n ih => intro x1 x2 S h; exact t_X10_home_9 C (fun x1 x2 S h => ih x1 x2 S h) x1 x2 S h
set_option maxRecDepth 20000 in
set_option maxHeartbeats 2000000 in
theorem t_X10_home_0 {x : Ctx} (C : Cx x WM cX10_home RX10 6 rm_X10_home (some .int)) {res : Int32 × St}   (S : St) (h : f_X10_home_0   S = some res) : V x WM 6 (QI x WM res) S 0 [(0, .ref (xq x 0))] [] := by
  unfold f_X10_home_0 at h
  refine v_aload_n C 0 dX10_home_0 rfl rfl (n := 1) rfl ?_
  refine v_iconst (v := 0) C dX10_home_1 (by decide) (n := 2) rfl ?_
  obtain ⟨S1, eS1, h⟩ := lt_e h
  refine p_X10_thrown C w_9_5 dX10_home_2 (n := 5) rfl eS1 ?_
  refine v_iconst (v := 1) C dX10_home_5 (by decide) (n := 6) rfl ?_
  refine v_istore_n (L' := [(1, .int 1), (0, .ref (xq x 0))]) C dX10_home_6 rfl (by decide) rfl (n := 7) rfl rfl ?_
  refine v_iconst (v := 0) C dX10_home_7 (by decide) (n := 8) rfl ?_
  refine v_istore_n (L' := [(2, .int 0), (1, .int 1), (0, .ref (xq x 0))]) C dX10_home_8 rfl (by decide) rfl (n := 9) rfl rfl ?_
  refine v_sub [2, 1, 0] rfl ?_
  exact tg_X10_home_9 C  fuel 1 0 S1 h
theorem c_X10_home {l : Launch} {D : va_G} {q : Nat → Nat} {ar : Ar}  (S : St) {res : Int32 × St} (h : m_X10_home  S = some res) : MetI l D q ar WM yX10_home cX10_home 6 (some .int) rm_X10_home [.ref (q 0)] S res := by
  refine metI_of adrM (by decide +kernel) (Nat.le_of_ble_eq_true rfl) (fun x e1 e2 e3 e4 C => ?_)
  subst e1; subst e2; subst e3; subst e4
  exact v_sub [0] rfl (t_X10_home_0 C  S h)
theorem mf_X10_home : CalV yX10_home cX10_home 6 (some .int) RX10 0 := ⟨w_32_11, w_32_9, w_32_10, w_1_5, rfl, by decide +kernel, by decide +kernel, by decide +kernel⟩
/-! LabyrinthGardenModel.homing -/
def f_X10_homing_0  (x1 : Int32) (S : St) : Option (Int32 × St) :=
  lt (up S 0 2 0) fun S1 =>
  if x1 < 0 then (
    some ((-1), S1))
  else (
    if x1 < (rd S1 0 50) then (
      ck x1 5 <|
      some ((rd S1 23 x1.toNatClampNeg), S1))
    else (
      some ((-1), S1)))
def m_X10_homing (a1 : Int32) (S : St) : Option (Int32 × St) := f_X10_homing_0 a1 S
def rm_X10_homing : Room := { frames := 0, cells := 0, slots := 0, locals := 0 }
set_option maxRecDepth 20000 in
set_option maxHeartbeats 2000000 in
theorem t_X10_homing_0 {x : Ctx} (C : Cx x WM cX10_homing RX10 2 rm_X10_homing (some .int)) {res : Int32 × St}  (x1 : Int32) (S : St) (h : f_X10_homing_0  x1 S = some res) : V x WM 2 (QI x WM res) S 0 [(0, .ref (xq x 0)), (1, .int x1)] [] := by
  unfold f_X10_homing_0 at h
  refine v_aload_n C 0 dX10_homing_0 rfl rfl (n := 1) rfl ?_
  refine v_iconst (v := 0) C dX10_homing_1 (by decide) (n := 2) rfl ?_
  obtain ⟨S1, eS1, h⟩ := lt_e h
  refine p_X10_thrown C w_9_5 dX10_homing_2 (n := 5) rfl eS1 ?_
  refine v_iload_n C 1 dX10_homing_5 rfl rfl (n := 6) rfl ?_
  refine v_if_lt C dX10_homing_6 (t := 17) (by decide) (n := 9) rfl (fun c2 => ?_) (fun c2 => ?_)
  · have h := ite_p c2 h
    refine v_iconst (v := (-1)) C dX10_homing_17 (by decide) (n := 18) rfl ?_
    refine v_goto C dX10_homing_18 (n := 27) (by decide) ?_
    obtain rfl := Option.some.inj h
    exact v_iret C dX10_homing_27
  · have h := ite_n c2 h
    refine v_iload_n C 1 dX10_homing_9 rfl rfl (n := 10) rfl ?_
    refine v_aload_n C 0 dX10_homing_10 rfl rfl (n := 11) rfl ?_
    refine g_X10_homeMany C w_32_12 dX10_homing_11 (n := 14) rfl ?_
    refine v_icmp_lt C dX10_homing_14 (t := 21) (by decide) (n := 17) rfl (fun c3 => ?_) (fun c3 => ?_)
    · have h := ite_p c3 h
      refine v_aload_n C 0 dX10_homing_21 rfl rfl (n := 22) rfl ?_
      refine g_X10_homeTold C w_8_8 dX10_homing_22 (n := 25) rfl ?_
      refine v_iload_n C 1 dX10_homing_25 rfl rfl (n := 26) rfl ?_
      obtain ⟨hi4, h⟩ := ck_e h
      refine v_ald C aM_23 hi4 dX10_homing_26 (n := 27) rfl ?_
      obtain rfl := Option.some.inj h
      exact v_iret C dX10_homing_27
    · have h := ite_n c3 h
      refine v_iconst (v := (-1)) C dX10_homing_17 (by decide) (n := 18) rfl ?_
      refine v_goto C dX10_homing_18 (n := 27) (by decide) ?_
      obtain rfl := Option.some.inj h
      exact v_iret C dX10_homing_27
theorem c_X10_homing {l : Launch} {D : va_G} {q : Nat → Nat} {ar : Ar} (a1 : Int32) (S : St) {res : Int32 × St} (h : m_X10_homing a1 S = some res) : MetI l D q ar WM yX10_homing cX10_homing 2 (some .int) rm_X10_homing [.ref (q 0), .int a1] S res := by
  refine metI_of adrM (by decide +kernel) (Nat.le_of_ble_eq_true rfl) (fun x e1 e2 e3 e4 C => ?_)
  subst e1; subst e2; subst e3; subst e4
  exact v_sub [0, 1] rfl (t_X10_homing_0 C a1 S h)
theorem mf_X10_homing : CalV yX10_homing cX10_homing 2 (some .int) RX10 1 := ⟨w_33_2, w_33_0, w_33_1, w_1_5, rfl, by decide +kernel, by decide +kernel, by decide +kernel⟩
/-! LabyrinthGardenModel.fails -/
def f_X10_fails_0  (x1 : Int32) (S : St) : Option (Int32 × St) :=
  lt (up S 0 2 x1) fun S1 =>
  some (0, S1)
def m_X10_fails (a1 : Int32) (S : St) : Option (Int32 × St) := f_X10_fails_0 a1 S
def rm_X10_fails : Room := { frames := 0, cells := 0, slots := 0, locals := 0 }
set_option maxRecDepth 20000 in
set_option maxHeartbeats 2000000 in
theorem t_X10_fails_0 {x : Ctx} (C : Cx x WM cX10_fails RX10 2 rm_X10_fails (some .int)) {res : Int32 × St}  (x1 : Int32) (S : St) (h : f_X10_fails_0  x1 S = some res) : V x WM 2 (QI x WM res) S 0 [(0, .ref (xq x 0)), (1, .int x1)] [] := by
  unfold f_X10_fails_0 at h
  refine v_aload_n C 0 dX10_fails_0 rfl rfl (n := 1) rfl ?_
  refine v_iload_n C 1 dX10_fails_1 rfl rfl (n := 2) rfl ?_
  obtain ⟨S1, eS1, h⟩ := lt_e h
  refine p_X10_thrown C w_9_5 dX10_fails_2 (n := 5) rfl eS1 ?_
  refine v_iconst (v := 0) C dX10_fails_5 (by decide) (n := 6) rfl ?_
  obtain rfl := Option.some.inj h
  exact v_iret C dX10_fails_6
theorem c_X10_fails {l : Launch} {D : va_G} {q : Nat → Nat} {ar : Ar} (a1 : Int32) (S : St) {res : Int32 × St} (h : m_X10_fails a1 S = some res) : MetI l D q ar WM yX10_fails cX10_fails 2 (some .int) rm_X10_fails [.ref (q 0), .int a1] S res := by
  refine metI_of adrM (by decide +kernel) (Nat.le_of_ble_eq_true rfl) (fun x e1 e2 e3 e4 C => ?_)
  subst e1; subst e2; subst e3; subst e4
  exact v_sub [0, 1] rfl (t_X10_fails_0 C a1 S h)
theorem mf_X10_fails : CalV yX10_fails cX10_fails 2 (some .int) RX10 1 := ⟨w_34_4, w_34_2, w_34_3, w_1_5, rfl, by decide +kernel, by decide +kernel, by decide +kernel⟩
/-! LabyrinthGardenModel.look -/
def f_X10_look_0  (x1 : Int32) (x2 : Int32) (S : St) : Option (Int32 × St) :=
  lt (up S 0 2 0) fun S1 =>
  bI (m_X10_isPlace x1 S1) fun r3 S2 =>
  if r3 = 0 then (
    bI (m_X10_fails 1 S2) fun r18 S17 =>
    some (r18, S17))
  else (
    if x2 = 0 then (
      ck x1 24 <|
      some ((rd S2 8 x1.toNatClampNeg), S2))
    else (
    if x2 = 1 then (
      ck x1 24 <|
      ck (rd S2 8 x1.toNatClampNeg) 8 <|
      some ((x1 - (rd S2 12 (rd S2 8 x1.toNatClampNeg).toNatClampNeg)), S2))
    else (
    if x2 = 2 then (
      ck x1 24 <|
      some (((rd S2 9 x1.toNatClampNeg) / 2), S2))
    else (
    if x2 = 3 then (
      ck x1 24 <|
      ck ((rd S2 9 x1.toNatClampNeg) ^^^ 1) 24 <|
      some ((rd S2 10 ((rd S2 9 x1.toNatClampNeg) ^^^ 1).toNatClampNeg), S2))
    else (
      bI (m_X10_fails 2 S2) fun r16 S15 =>
      some (r16, S15))))))
def m_X10_look (a1 : Int32) (a2 : Int32) (S : St) : Option (Int32 × St) := f_X10_look_0 a1 a2 S
def rm_X10_look : Room := { frames := 1, cells := 0, slots := 0, locals := 21 }
set_option maxRecDepth 20000 in
set_option maxHeartbeats 2000000 in
theorem t_X10_look_0 {x : Ctx} (C : Cx x WM cX10_look RX10 3 rm_X10_look (some .int)) {res : Int32 × St}  (x1 : Int32) (x2 : Int32) (S : St) (h : f_X10_look_0  x1 x2 S = some res) : V x WM 3 (QI x WM res) S 0 [(0, .ref (xq x 0)), (1, .int x1), (2, .int x2)] [] := by
  unfold f_X10_look_0 at h
  refine v_aload_n C 0 dX10_look_0 rfl rfl (n := 1) rfl ?_
  refine v_iconst (v := 0) C dX10_look_1 (by decide) (n := 2) rfl ?_
  obtain ⟨S1, eS1, h⟩ := lt_e h
  refine p_X10_thrown C w_9_5 dX10_look_2 (n := 5) rfl eS1 ?_
  refine v_aload_n C 0 dX10_look_5 rfl rfl (n := 6) rfl ?_
  refine v_iload_n C 1 dX10_look_6 rfl rfl (n := 7) rfl ?_
  obtain ⟨r3, S2, eS2, h⟩ := bI_e h
  refine v_callVI (As := [.int x1]) C (c_X10_isPlace x1 S1 eS2) mf_X10_isPlace w_23_1 (oX10 _ _ _) rfl ⟨rfl, rfl, by decide, by decide⟩ rfl rfl (Nat.le_of_ble_eq_true rfl) dX10_look_7 (n := 10) rfl ?_
  refine v_if_ne C dX10_look_10 (t := 19) (by decide) (n := 13) rfl (fun c4 => ?_) (fun c4 => ?_)
  · have h := ite_n c4 h
    refine v_iload_n C 2 dX10_look_19 rfl rfl (n := 20) rfl ?_
    by_cases c5 : x2 = 0
    · have h := ite_p c5 h
      refine v_tabI (off := 32) C dX10_look_20 c5 (by decide) (by decide) (by decide) (t := 52) (by decide) ?_
      refine v_aload_n C 0 dX10_look_52 rfl rfl (n := 53) rfl ?_
      refine g_X10_at C w_7_15 dX10_look_53 (n := 56) rfl ?_
      refine v_iload_n C 1 dX10_look_56 rfl rfl (n := 57) rfl ?_
      obtain ⟨hi6, h⟩ := ck_e h
      refine v_ald C aM_8 hi6 dX10_look_57 (n := 58) rfl ?_
      obtain rfl := Option.some.inj h
      exact v_iret C dX10_look_58
    · have h := ite_n c5 h
      by_cases c7 : x2 = 1
      · have h := ite_p c7 h
        refine v_tabI (off := 39) C dX10_look_20 c7 (by decide) (by decide) (by decide) (t := 59) (by decide) ?_
        refine v_iload_n C 1 dX10_look_59 rfl rfl (n := 60) rfl ?_
        refine v_aload_n C 0 dX10_look_60 rfl rfl (n := 61) rfl ?_
        refine g_X10_base C w_7_19 dX10_look_61 (n := 64) rfl ?_
        refine v_aload_n C 0 dX10_look_64 rfl rfl (n := 65) rfl ?_
        refine g_X10_at C w_7_15 dX10_look_65 (n := 68) rfl ?_
        refine v_iload_n C 1 dX10_look_68 rfl rfl (n := 69) rfl ?_
        obtain ⟨hi8, h⟩ := ck_e h
        refine v_ald C aM_8 hi8 dX10_look_69 (n := 70) rfl ?_
        obtain ⟨hi9, h⟩ := ck_e h
        refine v_ald C aM_12 hi9 dX10_look_70 (n := 71) rfl ?_
        refine v_isub C dX10_look_71 (n := 72) rfl ?_
        obtain rfl := Option.some.inj h
        exact v_iret C dX10_look_72
      · have h := ite_n c7 h
        by_cases c10 : x2 = 2
        · have h := ite_p c10 h
          refine v_tabI (off := 53) C dX10_look_20 c10 (by decide) (by decide) (by decide) (t := 73) (by decide) ?_
          refine v_aload_n C 0 dX10_look_73 rfl rfl (n := 74) rfl ?_
          refine g_X10_ends C w_7_16 dX10_look_74 (n := 77) rfl ?_
          refine v_iload_n C 1 dX10_look_77 rfl rfl (n := 78) rfl ?_
          obtain ⟨hi11, h⟩ := ck_e h
          refine v_ald C aM_9 hi11 dX10_look_78 (n := 79) rfl ?_
          refine v_iconst (v := 2) C dX10_look_79 (by decide) (n := 80) rfl ?_
          refine v_idiv C dX10_look_80 (by decide) (n := 81) rfl ?_
          obtain rfl := Option.some.inj h
          exact v_iret C dX10_look_81
        · have h := ite_n c10 h
          by_cases c12 : x2 = 3
          · have h := ite_p c12 h
            refine v_tabI (off := 62) C dX10_look_20 c12 (by decide) (by decide) (by decide) (t := 82) (by decide) ?_
            refine v_aload_n C 0 dX10_look_82 rfl rfl (n := 83) rfl ?_
            refine g_X10_placeOf C w_7_17 dX10_look_83 (n := 86) rfl ?_
            refine v_aload_n C 0 dX10_look_86 rfl rfl (n := 87) rfl ?_
            refine g_X10_ends C w_7_16 dX10_look_87 (n := 90) rfl ?_
            refine v_iload_n C 1 dX10_look_90 rfl rfl (n := 91) rfl ?_
            obtain ⟨hi13, h⟩ := ck_e h
            refine v_ald C aM_9 hi13 dX10_look_91 (n := 92) rfl ?_
            refine v_iconst (v := 1) C dX10_look_92 (by decide) (n := 93) rfl ?_
            refine v_ixor C dX10_look_93 (n := 94) rfl ?_
            obtain ⟨hi14, h⟩ := ck_e h
            refine v_ald C aM_10 hi14 dX10_look_94 (n := 95) rfl ?_
            obtain rfl := Option.some.inj h
            exact v_iret C dX10_look_95
          · have h := ite_n c12 h
            have qc5 := lv_neT c5 (a := 0) (by decide)
            have qc7 := lv_neT c7 (a := 1) (by decide)
            have qc10 := lv_neT c10 (a := 2) (by decide)
            have qc12 := lv_neT c12 (a := 3) (by decide)
            refine v_tabO C dX10_look_20 (by omega) (t := 96) (by decide) ?_
            refine v_aload_n C 0 dX10_look_96 rfl rfl (n := 97) rfl ?_
            refine v_iconst (v := 2) C dX10_look_97 (by decide) (n := 98) rfl ?_
            obtain ⟨r16, S15, eS15, h⟩ := bI_e h
            refine v_callVI (As := [.int 2]) C (c_X10_fails 2 S2 eS15) mf_X10_fails w_34_1 (oX10 _ _ _) rfl ⟨rfl, rfl, by decide, by decide⟩ rfl rfl (Nat.le_of_ble_eq_true rfl) dX10_look_98 (n := 101) rfl ?_
            obtain rfl := Option.some.inj h
            exact v_iret C dX10_look_101
  · have h := ite_p c4 h
    refine v_aload_n C 0 dX10_look_13 rfl rfl (n := 14) rfl ?_
    refine v_iconst (v := 1) C dX10_look_14 (by decide) (n := 15) rfl ?_
    obtain ⟨r18, S17, eS17, h⟩ := bI_e h
    refine v_callVI (As := [.int 1]) C (c_X10_fails 1 S2 eS17) mf_X10_fails w_34_1 (oX10 _ _ _) rfl ⟨rfl, rfl, by decide, by decide⟩ rfl rfl (Nat.le_of_ble_eq_true rfl) dX10_look_15 (n := 18) rfl ?_
    obtain rfl := Option.some.inj h
    exact v_iret C dX10_look_18
theorem c_X10_look {l : Launch} {D : va_G} {q : Nat → Nat} {ar : Ar} (a1 : Int32) (a2 : Int32) (S : St) {res : Int32 × St} (h : m_X10_look a1 a2 S = some res) : MetI l D q ar WM yX10_look cX10_look 3 (some .int) rm_X10_look [.ref (q 0), .int a1, .int a2] S res := by
  refine metI_of adrM (by decide +kernel) (Nat.le_of_ble_eq_true rfl) (fun x e1 e2 e3 e4 C => ?_)
  subst e1; subst e2; subst e3; subst e4
  exact v_sub [0, 1, 2] rfl (t_X10_look_0 C a1 a2 S h)
theorem mf_X10_look : CalV yX10_look cX10_look 3 (some .int) RX10 2 := ⟨w_34_0, w_33_22, w_33_23, w_1_5, rfl, by decide +kernel, by decide +kernel, by decide +kernel⟩
/-! LabyrinthGardenModel.count -/
def f_X10_count_65 (k65 : Int32 → Int32 → St → Option (Int32 × St)) (x2 : Int32) (x3 : Int32) (S : St) : Option (Int32 × St) :=
  if (rd S 0 8) ≤ x3 then (
    some (x2, S))
  else (
    ck x3 8 <|
    if (rd S 4 x3.toNatClampNeg) = 0 then (
      lt ((x2 + 0) : Int32) fun y4 =>
      lt (x3 + 1 : Int32) fun y5 =>
      k65 y4 y5 S)
    else (
      lt ((x2 + 1) : Int32) fun y6 =>
      lt (x3 + 1 : Int32) fun y7 =>
      k65 y6 y7 S))
def g_X10_count_65  : Nat → Int32 → Int32 → St → Option (Int32 × St)
  | 0 => fun _ _ _ => none
  | n + 1 => f_X10_count_65 (g_X10_count_65  n)
def f_X10_count_0  (x1 : Int32) (S : St) : Option (Int32 × St) :=
  lt (up S 0 2 0) fun S1 =>
  if x1 = 0 then (
    some ((rd S1 0 8), S1))
  else (
  if x1 = 1 then (
    some ((rd S1 0 11), S1))
  else (
  if x1 = 2 then (
    some ((rd S1 0 16), S1))
  else (
  if x1 = 3 then (
    g_X10_count_65  fuel 0 0 S1)
  else (
  if x1 = 4 then (
    some ((rd S1 0 48), S1))
  else (
  if x1 = 5 then (
    some ((rd S1 0 5), S1))
  else (
    some ((-1), S1)))))))
def m_X10_count (a1 : Int32) (S : St) : Option (Int32 × St) := f_X10_count_0 a1 S
def rm_X10_count : Room := { frames := 0, cells := 0, slots := 0, locals := 0 }
set_option maxRecDepth 20000 in
set_option maxHeartbeats 2000000 in
theorem t_X10_count_65 {x : Ctx} (C : Cx x WM cX10_count RX10 4 rm_X10_count (some .int)) {res : Int32 × St} {k65 : Int32 → Int32 → St → Option (Int32 × St)} (hk65 : ∀ (x2 : Int32) (x3 : Int32) (S : St), k65 x2 x3 S = some res → V x WM 4 (QI x WM res) S 65 [(0, .ref (xq x 0)), (2, .int x2), (3, .int x3)] []) (x2 : Int32) (x3 : Int32) (S : St) (h : f_X10_count_65 k65 x2 x3 S = some res) : V x WM 4 (QI x WM res) S 65 [(0, .ref (xq x 0)), (2, .int x2), (3, .int x3)] [] := by
  unfold f_X10_count_65 at h
  refine v_iload_n C 2 dX10_count_65 rfl rfl (n := 66) rfl ?_
  refine v_aload_n C 0 dX10_count_66 rfl rfl (n := 67) rfl ?_
  refine g_X10_junctions C w_15_10 dX10_count_67 (n := 70) rfl ?_
  refine v_icmp_ge C dX10_count_70 (t := 96) (by decide) (n := 73) rfl (fun c1 => ?_) (fun c1 => ?_)
  · have h := ite_p c1 h
    refine v_iload_n C 1 dX10_count_96 rfl rfl (n := 97) rfl ?_
    obtain rfl := Option.some.inj h
    exact v_iret C dX10_count_97
  · have h := ite_n c1 h
    refine v_iload_n C 1 dX10_count_73 rfl rfl (n := 74) rfl ?_
    refine v_aload_n C 0 dX10_count_74 rfl rfl (n := 75) rfl ?_
    refine g_X10_marked C w_7_10 dX10_count_75 (n := 78) rfl ?_
    refine v_iload_n C 2 dX10_count_78 rfl rfl (n := 79) rfl ?_
    obtain ⟨hi2, h⟩ := ck_e h
    refine v_zld C aM_4 hi2 dX10_count_79 (n := 80) rfl ?_
    refine v_if_eq C dX10_count_80 (t := 87) (by decide) (n := 83) rfl (fun c3 => ?_) (fun c3 => ?_)
    · have h := ite_p c3 h
      refine v_iconst (v := 0) C dX10_count_87 (by decide) (n := 88) rfl ?_
      refine v_iadd C dX10_count_88 (n := 89) rfl ?_
      obtain ⟨y4, ey4, h⟩ := lt_e h
      refine v_istore_n (L' := [(2, .int y4), (0, .ref (xq x 0)), (3, .int x3)]) C dX10_count_89 rfl (by decide) rfl (n := 90) rfl ey4 ?_
      obtain ⟨y5, ey5, h⟩ := lt_e h
      refine v_iinc (L' := [(3, .int y5), (2, .int y4), (0, .ref (xq x 0))]) C 2 dX10_count_90 rfl (by rw [ey5]; rfl) (by decide) rfl (n := 93) rfl ?_
      refine v_goto C dX10_count_93 (n := 65) (by decide) ?_
      refine v_sub [2, 1, 0] rfl ?_
      exact hk65 y4 y5 S h
    · have h := ite_n c3 h
      refine v_iconst (v := 1) C dX10_count_83 (by decide) (n := 84) rfl ?_
      refine v_goto C dX10_count_84 (n := 88) (by decide) ?_
      refine v_iadd C dX10_count_88 (n := 89) rfl ?_
      obtain ⟨y6, ey6, h⟩ := lt_e h
      refine v_istore_n (L' := [(2, .int y6), (0, .ref (xq x 0)), (3, .int x3)]) C dX10_count_89 rfl (by decide) rfl (n := 90) rfl ey6 ?_
      obtain ⟨y7, ey7, h⟩ := lt_e h
      refine v_iinc (L' := [(3, .int y7), (2, .int y6), (0, .ref (xq x 0))]) C 2 dX10_count_90 rfl (by rw [ey7]; rfl) (by decide) rfl (n := 93) rfl ?_
      refine v_goto C dX10_count_93 (n := 65) (by decide) ?_
      refine v_sub [2, 1, 0] rfl ?_
      exact hk65 y6 y7 S h
theorem tg_X10_count_65 {x : Ctx} (C : Cx x WM cX10_count RX10 4 rm_X10_count (some .int)) {res : Int32 × St}  : ∀ (n : Nat) (x2 : Int32) (x3 : Int32) (S : St), g_X10_count_65  n x2 x3 S = some res → V x WM 4 (QI x WM res) S 65 [(0, .ref (xq x 0)), (2, .int x2), (3, .int x3)] [] := by
  intro n
  induction n with
  | zero => intro x2 x3 S h; cases h
  | succ n ih => intro x2 x3 S h; exact t_X10_count_65 C (fun x2 x3 S h => ih x2 x3 S h) x2 x3 S h
set_option maxRecDepth 20000 in
set_option maxHeartbeats 2000000 in
theorem t_X10_count_0 {x : Ctx} (C : Cx x WM cX10_count RX10 4 rm_X10_count (some .int)) {res : Int32 × St}  (x1 : Int32) (S : St) (h : f_X10_count_0  x1 S = some res) : V x WM 4 (QI x WM res) S 0 [(0, .ref (xq x 0)), (1, .int x1)] [] := by
  unfold f_X10_count_0 at h
  refine v_aload_n C 0 dX10_count_0 rfl rfl (n := 1) rfl ?_
  refine v_iconst (v := 0) C dX10_count_1 (by decide) (n := 2) rfl ?_
  obtain ⟨S1, eS1, h⟩ := lt_e h
  refine p_X10_thrown C w_9_5 dX10_count_2 (n := 5) rfl eS1 ?_
  refine v_iconst (v := 0) C dX10_count_5 (by decide) (n := 6) rfl ?_
  refine v_istore_n (L' := [(2, .int 0), (0, .ref (xq x 0)), (1, .int x1)]) C dX10_count_6 rfl (by decide) rfl (n := 7) rfl rfl ?_
  refine v_iload_n C 2 dX10_count_7 rfl rfl (n := 8) rfl ?_
  by_cases c2 : x1 = 0
  · have h := ite_p c2 h
    refine v_tabI (off := 40) C dX10_count_8 c2 (by decide) (by decide) (by decide) (t := 48) (by decide) ?_
    refine v_aload_n C 1 dX10_count_48 rfl rfl (n := 49) rfl ?_
    refine g_X10_junctions C w_15_10 dX10_count_49 (n := 52) rfl ?_
    obtain rfl := Option.some.inj h
    exact v_iret C dX10_count_52
  · have h := ite_n c2 h
    by_cases c3 : x1 = 1
    · have h := ite_p c3 h
      refine v_tabI (off := 45) C dX10_count_8 c3 (by decide) (by decide) (by decide) (t := 53) (by decide) ?_
      refine v_aload_n C 1 dX10_count_53 rfl rfl (n := 54) rfl ?_
      refine g_X10_paths C w_15_11 dX10_count_54 (n := 57) rfl ?_
      obtain rfl := Option.some.inj h
      exact v_iret C dX10_count_57
    · have h := ite_n c3 h
      by_cases c4 : x1 = 2
      · have h := ite_p c4 h
        refine v_tabI (off := 50) C dX10_count_8 c4 (by decide) (by decide) (by decide) (t := 58) (by decide) ?_
        refine v_aload_n C 1 dX10_count_58 rfl rfl (n := 59) rfl ?_
        refine g_X10_places C w_15_16 dX10_count_59 (n := 62) rfl ?_
        obtain rfl := Option.some.inj h
        exact v_iret C dX10_count_62
      · have h := ite_n c4 h
        by_cases c5 : x1 = 3
        · have h := ite_p c5 h
          refine v_tabI (off := 55) C dX10_count_8 c5 (by decide) (by decide) (by decide) (t := 63) (by decide) ?_
          refine v_iconst (v := 0) C dX10_count_63 (by decide) (n := 64) rfl ?_
          refine v_istore_n (L' := [(3, .int 0), (2, .int 0), (0, .ref (xq x 0)), (1, .int x1)]) C dX10_count_64 rfl (by decide) rfl (n := 65) rfl rfl ?_
          refine v_sub [2, 1, 0] rfl ?_
          exact tg_X10_count_65 C  fuel 0 0 S1 h
        · have h := ite_n c5 h
          by_cases c6 : x1 = 4
          · have h := ite_p c6 h
            refine v_tabI (off := 90) C dX10_count_8 c6 (by decide) (by decide) (by decide) (t := 98) (by decide) ?_
            refine v_aload_n C 1 dX10_count_98 rfl rfl (n := 99) rfl ?_
            refine g_X10_taleMany C w_8_7 dX10_count_99 (n := 102) rfl ?_
            obtain rfl := Option.some.inj h
            exact v_iret C dX10_count_102
          · have h := ite_n c6 h
            by_cases c7 : x1 = 5
            · have h := ite_p c7 h
              refine v_tabI (off := 95) C dX10_count_8 c7 (by decide) (by decide) (by decide) (t := 103) (by decide) ?_
              refine v_aload_n C 1 dX10_count_103 rfl rfl (n := 104) rfl ?_
              refine g_X10_lines C w_12_20 dX10_count_104 (n := 107) rfl ?_
              obtain rfl := Option.some.inj h
              exact v_iret C dX10_count_107
            · have h := ite_n c7 h
              have qc2 := lv_neT c2 (a := 0) (by decide)
              have qc3 := lv_neT c3 (a := 1) (by decide)
              have qc4 := lv_neT c4 (a := 2) (by decide)
              have qc5 := lv_neT c5 (a := 3) (by decide)
              have qc6 := lv_neT c6 (a := 4) (by decide)
              have qc7 := lv_neT c7 (a := 5) (by decide)
              refine v_tabO C dX10_count_8 (by omega) (t := 108) (by decide) ?_
              refine v_iconst (v := (-1)) C dX10_count_108 (by decide) (n := 109) rfl ?_
              obtain rfl := Option.some.inj h
              exact v_iret C dX10_count_109
theorem c_X10_count {l : Launch} {D : va_G} {q : Nat → Nat} {ar : Ar} (a1 : Int32) (S : St) {res : Int32 × St} (h : m_X10_count a1 S = some res) : MetI l D q ar WM yX10_count cX10_count 4 (some .int) rm_X10_count [.ref (q 0), .int a1] S res := by
  refine metI_of adrM (by decide +kernel) (Nat.le_of_ble_eq_true rfl) (fun x e1 e2 e3 e4 C => ?_)
  subst e1; subst e2; subst e3; subst e4
  exact v_sub [0, 1] rfl (t_X10_count_0 C a1 S h)
theorem mf_X10_count : CalV yX10_count cX10_count 4 (some .int) RX10 1 := ⟨w_34_20, w_34_18, w_34_19, w_1_5, rfl, by decide +kernel, by decide +kernel, by decide +kernel⟩
