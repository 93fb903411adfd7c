/-! LabyrinthGarden$Homer.allEndsDivide -/
def f_X2_allEndsDivide_2 (k2 : Int32 → Int32 → St → Option (Int32 × St)) (x1 : Int32) (x2 : Int32) (S : St) : Option (Int32 × St) :=
  if (rd S 6 0) ≤ x2 then (
    some (1, S))
  else (
    ck x2 8 <|
    lt ((rd S 8 x2.toNatClampNeg) : Int32) fun y3 =>
    if y3 ≤ 0 then (
      lt (x2 + 1 : Int32) fun y5 =>
      k2 x1 y5 S)
    else (
      ckn y3 <|
      if (irem x1 y3) = 0 then (
        lt (x2 + 1 : Int32) fun y8 =>
        k2 x1 y8 S)
      else (
        some (0, S))))
def g_X2_allEndsDivide_2  : Nat → Int32 → Int32 → St → Option (Int32 × St)
  | 0 => fun _ _ _ => none
  | n + 1 => f_X2_allEndsDivide_2 (g_X2_allEndsDivide_2  n)
def f_X2_allEndsDivide_0  (x1 : Int32) (S : St) : Option (Int32 × St) :=
  g_X2_allEndsDivide_2  fuel x1 0 S
def m_X2_allEndsDivide (a1 : Int32) (S : St) : Option (Int32 × St) := f_X2_allEndsDivide_0 a1 S
def rm_X2_allEndsDivide : Room := { frames := 0, cells := 0, slots := 0, locals := 0 }
set_option maxRecDepth 20000 in
set_option maxHeartbeats 2000000 in
theorem t_X2_allEndsDivide_2 {x : Ctx} (C : Cx x WX cX2_allEndsDivide RX2 4 rm_X2_allEndsDivide (some .boolean)) {res : Int32 × St} {k2 : Int32 → Int32 → St → Option (Int32 × St)} (hk2 : ∀ (x1 : Int32) (x2 : Int32) (S : St), k2 x1 x2 S = some res → V x WX 4 (QI x WX res) S 2 [(0, .ref (xq x 32)), (1, .int x1), (2, .int x2)] []) (x1 : Int32) (x2 : Int32) (S : St) (h : f_X2_allEndsDivide_2 k2 x1 x2 S = some res) : V x WX 4 (QI x WX res) S 2 [(0, .ref (xq x 32)), (1, .int x1), (2, .int x2)] [] := by
  unfold f_X2_allEndsDivide_2 at h
  refine v_iload_n C 2 dX2_allEndsDivide_2 rfl rfl (n := 3) rfl ?_
  refine v_aload_n C 0 dX2_allEndsDivide_3 rfl rfl (n := 4) rfl ?_
  refine g_X2_garden C w_7_0 dX2_allEndsDivide_4 (n := 7) rfl ?_
  refine g_X0_junctions C w_30_11 dX2_allEndsDivide_7 (n := 10) rfl ?_
  refine v_icmp_ge C dX2_allEndsDivide_10 (t := 41) (by decide) (n := 13) rfl (fun c1 => ?_) (fun c1 => ?_)
  · have h := ite_p c1 h
    refine v_iconst (v := 1) C dX2_allEndsDivide_41 (by decide) (n := 42) rfl ?_
    obtain rfl := Option.some.inj h
    exact v_zret C (Or.inr rfl) dX2_allEndsDivide_42
  · have h := ite_n c1 h
    refine v_aload_n C 0 dX2_allEndsDivide_13 rfl rfl (n := 14) rfl ?_
    refine g_X2_garden C w_7_0 dX2_allEndsDivide_14 (n := 17) rfl ?_
    refine g_X0_endsOf C w_30_12 dX2_allEndsDivide_17 (n := 20) rfl ?_
    refine v_iload_n C 2 dX2_allEndsDivide_20 rfl rfl (n := 21) rfl ?_
    obtain ⟨hi2, h⟩ := ck_e h
    refine v_ald C aX_8 hi2 dX2_allEndsDivide_21 (n := 22) rfl ?_
    obtain ⟨y3, ey3, h⟩ := lt_e h
    refine v_istore_n (L' := [(3, .int y3), (0, .ref (xq x 32)), (1, .int x1), (2, .int x2)]) C dX2_allEndsDivide_22 rfl (by decide) rfl (n := 23) rfl ey3 ?_
    refine v_iload_n C 0 dX2_allEndsDivide_23 rfl rfl (n := 24) rfl ?_
    refine v_if_le C dX2_allEndsDivide_24 (t := 35) (by decide) (n := 27) rfl (fun c4 => ?_) (fun c4 => ?_)
    · have h := ite_p c4 h
      obtain ⟨y5, ey5, h⟩ := lt_e h
      refine v_iinc (L' := [(2, .int y5), (3, .int y3), (0, .ref (xq x 32)), (1, .int x1)]) C 3 dX2_allEndsDivide_35 rfl (by rw [ey5]; rfl) (by decide) rfl (n := 38) rfl ?_
      refine v_goto C dX2_allEndsDivide_38 (n := 2) (by decide) ?_
      refine v_sub [2, 3, 0] rfl ?_
      exact hk2 x1 y5 S h
    · have h := ite_n c4 h
      refine v_iload_n C 2 dX2_allEndsDivide_27 rfl rfl (n := 28) rfl ?_
      refine v_iload_n C 0 dX2_allEndsDivide_28 rfl rfl (n := 29) rfl ?_
      obtain ⟨hz6, h⟩ := ckn_e h
      refine v_irem C dX2_allEndsDivide_29 hz6 (n := 30) rfl ?_
      refine v_if_eq C dX2_allEndsDivide_30 (t := 35) (by decide) (n := 33) rfl (fun c7 => ?_) (fun c7 => ?_)
      · have h := ite_p c7 h
        obtain ⟨y8, ey8, h⟩ := lt_e h
        refine v_iinc (L' := [(2, .int y8), (3, .int y3), (0, .ref (xq x 32)), (1, .int x1)]) C 3 dX2_allEndsDivide_35 rfl (by rw [ey8]; rfl) (by decide) rfl (n := 38) rfl ?_
        refine v_goto C dX2_allEndsDivide_38 (n := 2) (by decide) ?_
        refine v_sub [2, 3, 0] rfl ?_
        exact hk2 x1 y8 S h
      · have h := ite_n c7 h
        refine v_iconst (v := 0) C dX2_allEndsDivide_33 (by decide) (n := 34) rfl ?_
        obtain rfl := Option.some.inj h
        exact v_zret C (Or.inl rfl) dX2_allEndsDivide_34
theorem tg_X2_allEndsDivide_2 {x : Ctx} (C : Cx x WX cX2_allEndsDivide RX2 4 rm_X2_allEndsDivide (some .boolean)) {res : Int32 × St}  : ∀ (n : Nat) (x1 : Int32) (x2 : Int32) (S : St), g_X2_allEndsDivide_2  n x1 x2 S = some res → V x WX 4 (QI x WX res) S 2 [(0, .ref (xq x 32)), (1, .int x1), (2, .int x2)] [] := by
  intro n
  induction n with
  | zero => intro x1 x2 S h; cases h
  | succ n ih => intro x1 x2 S h; exact t_X2_allEndsDivide_2 C (fun x1 x2 S h => ih x1 x2 S h) x1 x2 S h
set_option maxRecDepth 20000 in
set_option maxHeartbeats 2000000 in
theorem t_X2_allEndsDivide_0 {x : Ctx} (C : Cx x WX cX2_allEndsDivide RX2 4 rm_X2_allEndsDivide (some .boolean)) {res : Int32 × St}  (x1 : Int32) (S : St) (h : f_X2_allEndsDivide_0  x1 S = some res) : V x WX 4 (QI x WX res) S 0 [(0, .ref (xq x 32)), (1, .int x1)] [] := by
  unfold f_X2_allEndsDivide_0 at h
  refine v_iconst (v := 0) C dX2_allEndsDivide_0 (by decide) (n := 1) rfl ?_
  refine v_istore_n (L' := [(2, .int 0), (0, .ref (xq x 32)), (1, .int x1)]) C dX2_allEndsDivide_1 rfl (by decide) rfl (n := 2) rfl rfl ?_
  refine v_sub [1, 2, 0] rfl ?_
  exact tg_X2_allEndsDivide_2 C  fuel x1 0 S h
theorem c_X2_allEndsDivide {l : Launch} {D : va_G} {q : Nat → Nat} {ar : Ar} (a1 : Int32) (S : St) {res : Int32 × St} (h : m_X2_allEndsDivide a1 S = some res) : MetI l D q ar WX yX2_allEndsDivide cX2_allEndsDivide 4 (some .boolean) rm_X2_allEndsDivide [.ref (q 32), .int a1] S res := by
  refine metI_of adrX (by decide +kernel) (Nat.le_of_ble_eq_true rfl) (fun x e1 e2 e3 e4 C => ?_)
  subst e1; subst e2; subst e3; subst e4
  exact v_sub [0, 1] rfl (t_X2_allEndsDivide_0 C a1 S h)
theorem mf_X2_allEndsDivide : CalV yX2_allEndsDivide cX2_allEndsDivide 4 (some .boolean) RX2 1 := ⟨w_30_10, w_30_8, w_30_9, w_3_0, rfl, by decide +kernel, by decide +kernel, by decide +kernel⟩
/-! LabyrinthGarden$Homer.chooseTurns -/
def f_X2_chooseTurns_50 (k40 : Int32 → St → Option (St)) (k50 : Int32 → Int32 → St → Option (St)) (x1 : Int32) (x2 : Int32) (S : St) : Option (St) :=
  if (rd S 6 2) ≤ x2 then (
    lt (x1 + 1 : Int32) fun y2 =>
    k40 y2 S)
  else (
    bI (m_X0_beyond x2 x1 S) fun r4 S3 =>
    ck ((x1 * 24) + x2) 144 <|
    lt (up S3 34 ((x1 * 24) + x2).toNatClampNeg r4) fun S6 =>
    lt (x2 + 1 : Int32) fun y7 =>
    k50 x1 y7 S6)
def g_X2_chooseTurns_50 (k40 : Int32 → St → Option (St)) : Nat → Int32 → Int32 → St → Option (St)
  | 0 => fun _ _ _ => none
  | n + 1 => f_X2_chooseTurns_50 k40 (g_X2_chooseTurns_50 k40 n)
def f_X2_chooseTurns_40 (k40 : Int32 → St → Option (St)) (x1 : Int32) (S : St) : Option (St) :=
  if (rd S 32 3) ≤ x1 then (
    some S)
  else (
    g_X2_chooseTurns_50 k40 fuel x1 0 S)
def g_X2_chooseTurns_40  : Nat → Int32 → St → Option (St)
  | 0 => fun _ _ => none
  | n + 1 => f_X2_chooseTurns_40 (g_X2_chooseTurns_40  n)
def f_X2_chooseTurns_5 (k5 : St → Option (St))  (S : St) : Option (St) :=
  if 6 ≤ (rd S 32 3) then (
    g_X2_chooseTurns_40  fuel 0 S)
  else (
    bI (m_X2_allEndsDivide (rd S 32 3) S) fun r3 S2 =>
    if r3 = 0 then (
      lt (up S2 32 3 ((rd S2 32 3) + 1)) fun S5 =>
      k5  S5)
    else (
      g_X2_chooseTurns_40  fuel 0 S2))
def g_X2_chooseTurns_5  : Nat → St → Option (St)
  | 0 => fun _ => none
  | n + 1 => f_X2_chooseTurns_5 (g_X2_chooseTurns_5  n)
def f_X2_chooseTurns_0   (S : St) : Option (St) :=
  lt (up S 32 3 1) fun S1 =>
  g_X2_chooseTurns_5  fuel  S1
def m_X2_chooseTurns  (S : St) : Option (St) := f_X2_chooseTurns_0  S
def rm_X2_chooseTurns : Room := { frames := 2, cells := 0, slots := 0, locals := 44 }
set_option maxRecDepth 20000 in
set_option maxHeartbeats 2000000 in
theorem t_X2_chooseTurns_50 {x : Ctx} (C : Cx x WX cX2_chooseTurns RX2 3 rm_X2_chooseTurns none) {res : St} {k40 : Int32 → St → Option (St)} (hk40 : ∀ (x1 : Int32) (S : St), k40 x1 S = some res → V x WX 3 (QV x WX res) S 40 [(0, .ref (xq x 32)), (1, .int x1)] []) {k50 : Int32 → Int32 → St → Option (St)} (hk50 : ∀ (x1 : Int32) (x2 : Int32) (S : St), k50 x1 x2 S = some res → V x WX 3 (QV x WX res) S 50 [(0, .ref (xq x 32)), (1, .int x1), (2, .int x2)] []) (x1 : Int32) (x2 : Int32) (S : St) (h : f_X2_chooseTurns_50 k40 k50 x1 x2 S = some res) : V x WX 3 (QV x WX res) S 50 [(0, .ref (xq x 32)), (1, .int x1), (2, .int x2)] [] := by
  unfold f_X2_chooseTurns_50 at h
  refine v_iload_n C 2 dX2_chooseTurns_50 rfl rfl (n := 51) rfl ?_
  refine v_aload_n C 0 dX2_chooseTurns_51 rfl rfl (n := 52) rfl ?_
  refine g_X2_garden C w_7_0 dX2_chooseTurns_52 (n := 55) rfl ?_
  refine g_X0_places C w_30_6 dX2_chooseTurns_55 (n := 58) rfl ?_
  refine v_icmp_ge C dX2_chooseTurns_58 (t := 87) (by decide) (n := 61) rfl (fun c1 => ?_) (fun c1 => ?_)
  · have h := ite_p c1 h
    obtain ⟨y2, ey2, h⟩ := lt_e h
    refine v_iinc (L' := [(1, .int y2), (0, .ref (xq x 32)), (2, .int x2)]) C 1 dX2_chooseTurns_87 rfl (by rw [ey2]; rfl) (by decide) rfl (n := 90) rfl ?_
    refine v_goto C dX2_chooseTurns_90 (n := 40) (by decide) ?_
    refine v_sub [1, 0] rfl ?_
    exact hk40 y2 S h
  · have h := ite_n c1 h
    refine v_aload_n C 0 dX2_chooseTurns_61 rfl rfl (n := 62) rfl ?_
    refine g_X2_beyond C w_6_17 dX2_chooseTurns_62 (n := 65) rfl ?_
    refine v_iload_n C 1 dX2_chooseTurns_65 rfl rfl (n := 66) rfl ?_
    refine v_bipush (v := 24) C dX2_chooseTurns_66 (by decide) (n := 68) rfl ?_
    refine v_imul C dX2_chooseTurns_68 (n := 69) rfl ?_
    refine v_iload_n C 2 dX2_chooseTurns_69 rfl rfl (n := 70) rfl ?_
    refine v_iadd C dX2_chooseTurns_70 (n := 71) rfl ?_
    refine v_aload_n C 0 dX2_chooseTurns_71 rfl rfl (n := 72) rfl ?_
    refine g_X2_garden C w_7_0 dX2_chooseTurns_72 (n := 75) rfl ?_
    refine v_iload_n C 2 dX2_chooseTurns_75 rfl rfl (n := 76) rfl ?_
    refine v_iload_n C 1 dX2_chooseTurns_76 rfl rfl (n := 77) rfl ?_
    obtain ⟨r4, S3, eS3, h⟩ := bI_e h
    refine v_callVI (As := [.int x2, .int x1]) C (c_X0_beyond x2 x1 S eS3) mf_X0_beyond w_30_13 (oX0 _ _ _) rfl ⟨rfl, rfl, by decide, by decide⟩ rfl rfl (Nat.le_of_ble_eq_true rfl) dX2_chooseTurns_77 (n := 80) rfl ?_
    obtain ⟨hi5, h⟩ := ck_e h
    obtain ⟨S6, eS6, h⟩ := lt_e h
    refine v_ast C aX_34 hi5 dX2_chooseTurns_80 (n := 81) rfl eS6 ?_
    obtain ⟨y7, ey7, h⟩ := lt_e h
    refine v_iinc (L' := [(2, .int y7), (0, .ref (xq x 32)), (1, .int x1)]) C 2 dX2_chooseTurns_81 rfl (by rw [ey7]; rfl) (by decide) rfl (n := 84) rfl ?_
    refine v_goto C dX2_chooseTurns_84 (n := 50) (by decide) ?_
    refine v_sub [1, 2, 0] rfl ?_
    exact hk50 x1 y7 S6 h
theorem tg_X2_chooseTurns_50 {x : Ctx} (C : Cx x WX cX2_chooseTurns RX2 3 rm_X2_chooseTurns none) {res : St} {k40 : Int32 → St → Option (St)} (hk40 : ∀ (x1 : Int32) (S : St), k40 x1 S = some res → V x WX 3 (QV x WX res) S 40 [(0, .ref (xq x 32)), (1, .int x1)] []) : ∀ (n : Nat) (x1 : Int32) (x2 : Int32) (S : St), g_X2_chooseTurns_50 k40 n x1 x2 S = some res → V x WX 3 (QV x WX res) S 50 [(0, .ref (xq x 32)), (1, .int x1), (2, .int x2)] [] := by
  intro n
  induction n with
  | zero => intro x1 x2 S h; cases h
  | succ n ih => intro x1 x2 S h; exact t_X2_chooseTurns_50 C hk40 (fun x1 x2 S h => ih x1 x2 S h) x1 x2 S h
set_option maxRecDepth 20000 in
set_option maxHeartbeats 2000000 in
theorem t_X2_chooseTurns_40 {x : Ctx} (C : Cx x WX cX2_chooseTurns RX2 3 rm_X2_chooseTurns none) {res : St} {k40 : Int32 → St → Option (St)} (hk40 : ∀ (x1 : Int32) (S : St), k40 x1 S = some res → V x WX 3 (QV x WX res) S 40 [(0, .ref (xq x 32)), (1, .int x1)] []) (x1 : Int32) (S : St) (h : f_X2_chooseTurns_40 k40 x1 S = some res) : V x WX 3 (QV x WX res) S 40 [(0, .ref (xq x 32)), (1, .int x1)] [] := by
  unfold f_X2_chooseTurns_40 at h
  refine v_iload_n C 1 dX2_chooseTurns_40 rfl rfl (n := 41) rfl ?_
  refine v_aload_n C 0 dX2_chooseTurns_41 rfl rfl (n := 42) rfl ?_
  refine g_X2_turnsToTry C w_6_16 dX2_chooseTurns_42 (n := 45) rfl ?_
  refine v_icmp_ge C dX2_chooseTurns_45 (t := 93) (by decide) (n := 48) rfl (fun c1 => ?_) (fun c1 => ?_)
  · have h := ite_p c1 h
    obtain rfl := Option.some.inj h
    exact v_ret C dX2_chooseTurns_93
  · have h := ite_n c1 h
    refine v_iconst (v := 0) C dX2_chooseTurns_48 (by decide) (n := 49) rfl ?_
    refine v_istore_n (L' := [(2, .int 0), (0, .ref (xq x 32)), (1, .int x1)]) C dX2_chooseTurns_49 rfl (by decide) rfl (n := 50) rfl rfl ?_
    refine v_sub [1, 2, 0] rfl ?_
    exact tg_X2_chooseTurns_50 C hk40 fuel x1 0 S h
theorem tg_X2_chooseTurns_40 {x : Ctx} (C : Cx x WX cX2_chooseTurns RX2 3 rm_X2_chooseTurns none) {res : St}  : ∀ (n : Nat) (x1 : Int32) (S : St), g_X2_chooseTurns_40  n x1 S = some res → V x WX 3 (QV x WX res) S 40 [(0, .ref (xq x 32)), (1, .int x1)] [] := by
  intro n
  induction n with
  | zero => intro x1 S h; cases h
  | succ n ih => intro x1 S h; exact t_X2_chooseTurns_40 C (fun x1 S h => ih x1 S h) x1 S h
set_option maxRecDepth 20000 in
set_option maxHeartbeats 2000000 in
theorem t_X2_chooseTurns_5 {x : Ctx} (C : Cx x WX cX2_chooseTurns RX2 3 rm_X2_chooseTurns none) {res : St} {k5 : St → Option (St)} (hk5 : ∀  (S : St), k5  S = some res → V x WX 3 (QV x WX res) S 5 [(0, .ref (xq x 32))] [])  (S : St) (h : f_X2_chooseTurns_5 k5  S = some res) : V x WX 3 (QV x WX res) S 5 [(0, .ref (xq x 32))] [] := by
  unfold f_X2_chooseTurns_5 at h
  refine v_aload_n C 0 dX2_chooseTurns_5 rfl rfl (n := 6) rfl ?_
  refine g_X2_turnsToTry C w_6_16 dX2_chooseTurns_6 (n := 9) rfl ?_
  refine v_bipush (v := 6) C dX2_chooseTurns_9 (by decide) (n := 11) rfl ?_
  refine v_icmp_ge C dX2_chooseTurns_11 (t := 38) (by decide) (n := 14) rfl (fun c1 => ?_) (fun c1 => ?_)
  · have h := ite_p c1 h
    refine v_iconst (v := 0) C dX2_chooseTurns_38 (by decide) (n := 39) rfl ?_
    refine v_istore_n (L' := [(1, .int 0), (0, .ref (xq x 32))]) C dX2_chooseTurns_39 rfl (by decide) rfl (n := 40) rfl rfl ?_
    refine v_sub [1, 0] rfl ?_
    exact tg_X2_chooseTurns_40 C  fuel 0 S h
  · have h := ite_n c1 h
    refine v_aload_n C 0 dX2_chooseTurns_14 rfl rfl (n := 15) rfl ?_
    refine v_aload_n C 0 dX2_chooseTurns_15 rfl rfl (n := 16) rfl ?_
    refine g_X2_turnsToTry C w_6_16 dX2_chooseTurns_16 (n := 19) rfl ?_
    obtain ⟨r3, S2, eS2, h⟩ := bI_e h
    refine v_callVI (As := [.int (rd S 32 3)]) C (c_X2_allEndsDivide (rd S 32 3) S eS2) mf_X2_allEndsDivide w_30_7 (oX2 _ _ _) rfl ⟨rfl, rfl, by decide, by decide⟩ rfl rfl (Nat.le_of_ble_eq_true rfl) dX2_chooseTurns_19 (n := 22) rfl ?_
    refine v_if_ne C dX2_chooseTurns_22 (t := 38) (by decide) (n := 25) rfl (fun c4 => ?_) (fun c4 => ?_)
    · have h := ite_n c4 h
      refine v_iconst (v := 0) C dX2_chooseTurns_38 (by decide) (n := 39) rfl ?_
      refine v_istore_n (L' := [(1, .int 0), (0, .ref (xq x 32))]) C dX2_chooseTurns_39 rfl (by decide) rfl (n := 40) rfl rfl ?_
      refine v_sub [1, 0] rfl ?_
      exact tg_X2_chooseTurns_40 C  fuel 0 S2 h
    · have h := ite_p c4 h
      refine v_aload_n C 0 dX2_chooseTurns_25 rfl rfl (n := 26) rfl ?_
      refine v_dup C dX2_chooseTurns_26 rfl (n := 27) rfl ?_
      refine g_X2_turnsToTry C w_6_16 dX2_chooseTurns_27 (n := 30) rfl ?_
      refine v_iconst (v := 1) C dX2_chooseTurns_30 (by decide) (n := 31) rfl ?_
      refine v_iadd C dX2_chooseTurns_31 (n := 32) rfl ?_
      obtain ⟨S5, eS5, h⟩ := lt_e h
      refine p_X2_turnsToTry C w_6_16 dX2_chooseTurns_32 (n := 35) rfl eS5 ?_
      refine v_goto C dX2_chooseTurns_35 (n := 5) (by decide) ?_
      refine v_sub [0] rfl ?_
      exact hk5  S5 h
theorem tg_X2_chooseTurns_5 {x : Ctx} (C : Cx x WX cX2_chooseTurns RX2 3 rm_X2_chooseTurns none) {res : St}  : ∀ (n : Nat)  (S : St), g_X2_chooseTurns_5  n  S = some res → V x WX 3 (QV x WX res) S 5 [(0, .ref (xq x 32))] [] := by
  intro n
  induction n with
  | zero => intro  S h; cases h
  | succ n ih => intro  S h; exact t_X2_chooseTurns_5 C (fun  S h => ih  S h)  S h
set_option maxRecDepth 20000 in
set_option maxHeartbeats 2000000 in
theorem t_X2_chooseTurns_0 {x : Ctx} (C : Cx x WX cX2_chooseTurns RX2 3 rm_X2_chooseTurns none) {res : St}   (S : St) (h : f_X2_chooseTurns_0   S = some res) : V x WX 3 (QV x WX res) S 0 [(0, .ref (xq x 32))] [] := by
  unfold f_X2_chooseTurns_0 at h
  refine v_aload_n C 0 dX2_chooseTurns_0 rfl rfl (n := 1) rfl ?_
  refine v_iconst (v := 1) C dX2_chooseTurns_1 (by decide) (n := 2) rfl ?_
  obtain ⟨S1, eS1, h⟩ := lt_e h
  refine p_X2_turnsToTry C w_6_16 dX2_chooseTurns_2 (n := 5) rfl eS1 ?_
  refine v_sub [0] rfl ?_
  exact tg_X2_chooseTurns_5 C  fuel  S1 h
theorem c_X2_chooseTurns {l : Launch} {D : va_G} {q : Nat → Nat} {ar : Ar}  (S : St) {res : St} (h : m_X2_chooseTurns  S = some res) : MetV l D q ar WX yX2_chooseTurns cX2_chooseTurns 3 none rm_X2_chooseTurns [.ref (q 32)] S res := by
  refine metV_of adrX (by decide +kernel) (Nat.le_of_ble_eq_true rfl) (fun x e1 e2 e3 e4 C => ?_)
  subst e1; subst e2; subst e3; subst e4
  exact v_sub [0] rfl (t_X2_chooseTurns_0 C  S h)
theorem mf_X2_chooseTurns : CalV yX2_chooseTurns cX2_chooseTurns 3 none RX2 0 := ⟨w_30_5, w_30_3, w_30_4, w_3_0, rfl, by decide +kernel, by decide +kernel, by decide +kernel⟩
/-! LabyrinthGarden$Homer.anyTurnParts -/
def f_X2_anyTurnParts_3 (k3 : Int32 → Int32 → Int32 → Int32 → St → Option (Int32 × St)) (x1 : Int32) (x2 : Int32) (x3 : Int32) (x4 : Int32) (S : St) : Option (Int32 × St) :=
  if (rd S 32 3) ≤ x4 then (
    some (0, S))
  else (
    lt ((x4 * 24) : Int32) fun y2 =>
    ck (y2 + x1) 144 <|
    ck (x3 + (rd S 34 (y2 + x1).toNatClampNeg)) 144 <|
    ck (y2 + x2) 144 <|
    bI (m_X9_hasBit (rd S 36 (x3 + (rd S 34 (y2 + x1).toNatClampNeg)).toNatClampNeg) (rd S 34 (y2 + x2).toNatClampNeg) S) fun r7 S6 =>
    if r7 = 0 then (
      some (1, S6))
    else (
      lt (x4 + 1 : Int32) fun y9 =>
      k3 x1 x2 x3 y9 S6))
def g_X2_anyTurnParts_3  : Nat → Int32 → Int32 → Int32 → Int32 → St → Option (Int32 × St)
  | 0 => fun _ _ _ _ _ => none
  | n + 1 => f_X2_anyTurnParts_3 (g_X2_anyTurnParts_3  n)
def f_X2_anyTurnParts_0  (x1 : Int32) (x2 : Int32) (x3 : Int32) (S : St) : Option (Int32 × St) :=
  g_X2_anyTurnParts_3  fuel x1 x2 x3 0 S
def m_X2_anyTurnParts (a1 : Int32) (a2 : Int32) (a3 : Int32) (S : St) : Option (Int32 × St) := f_X2_anyTurnParts_0 a1 a2 a3 S
def rm_X2_anyTurnParts : Room := { frames := 1, cells := 0, slots := 0, locals := 21 }
set_option maxRecDepth 20000 in
set_option maxHeartbeats 2000000 in
theorem t_X2_anyTurnParts_3 {x : Ctx} (C : Cx x WX cX2_anyTurnParts RX2 6 rm_X2_anyTurnParts (some .boolean)) {res : Int32 × St} {k3 : Int32 → Int32 → Int32 → Int32 → St → Option (Int32 × St)} (hk3 : ∀ (x1 : Int32) (x2 : Int32) (x3 : Int32) (x4 : Int32) (S : St), k3 x1 x2 x3 x4 S = some res → V x WX 6 (QI x WX res) S 3 [(0, .ref (xq x 32)), (1, .int x1), (2, .int x2), (3, .int x3), (4, .int x4)] []) (x1 : Int32) (x2 : Int32) (x3 : Int32) (x4 : Int32) (S : St) (h : f_X2_anyTurnParts_3 k3 x1 x2 x3 x4 S = some res) : V x WX 6 (QI x WX res) S 3 [(0, .ref (xq x 32)), (1, .int x1), (2, .int x2), (3, .int x3), (4, .int x4)] [] := by
  unfold f_X2_anyTurnParts_3 at h
  refine v_iload C 4 dX2_anyTurnParts_3 rfl (n := 5) rfl ?_
  refine v_aload_n C 0 dX2_anyTurnParts_5 rfl rfl (n := 6) rfl ?_
  refine g_X2_turnsToTry C w_6_16 dX2_anyTurnParts_6 (n := 9) rfl ?_
  refine v_icmp_ge C dX2_anyTurnParts_9 (t := 58) (by decide) (n := 12) rfl (fun c1 => ?_) (fun c1 => ?_)
  · have h := ite_p c1 h
    refine v_iconst (v := 0) C dX2_anyTurnParts_58 (by decide) (n := 59) rfl ?_
    obtain rfl := Option.some.inj h
    exact v_zret C (Or.inl rfl) dX2_anyTurnParts_59
  · have h := ite_n c1 h
    refine v_iload C 4 dX2_anyTurnParts_12 rfl (n := 14) rfl ?_
    refine v_bipush (v := 24) C dX2_anyTurnParts_14 (by decide) (n := 16) rfl ?_
    refine v_imul C dX2_anyTurnParts_16 (n := 17) rfl ?_
    obtain ⟨y2, ey2, h⟩ := lt_e h
    refine v_istore (L' := [(5, .int y2), (0, .ref (xq x 32)), (1, .int x1), (2, .int x2), (3, .int x3), (4, .int x4)]) C dX2_anyTurnParts_17 (by decide) rfl (n := 19) rfl ey2 ?_
    refine v_aload_n C 1 dX2_anyTurnParts_19 rfl rfl (n := 20) rfl ?_
    refine g_X2_twins C w_6_19 dX2_anyTurnParts_20 (n := 23) rfl ?_
    refine v_iload_n C 4 dX2_anyTurnParts_23 rfl rfl (n := 24) rfl ?_
    refine v_aload_n C 1 dX2_anyTurnParts_24 rfl rfl (n := 25) rfl ?_
    refine g_X2_beyond C w_6_17 dX2_anyTurnParts_25 (n := 28) rfl ?_
    refine v_iload C 0 dX2_anyTurnParts_28 rfl (n := 30) rfl ?_
    refine v_iload_n C 2 dX2_anyTurnParts_30 rfl rfl (n := 31) rfl ?_
    refine v_iadd C dX2_anyTurnParts_31 (n := 32) rfl ?_
    obtain ⟨hi3, h⟩ := ck_e h
    refine v_ald C aX_34 hi3 dX2_anyTurnParts_32 (n := 33) rfl ?_
    refine v_iadd C dX2_anyTurnParts_33 (n := 34) rfl ?_
    obtain ⟨hi4, h⟩ := ck_e h
    refine v_ald C aX_36 hi4 dX2_anyTurnParts_34 (n := 35) rfl ?_
    refine v_aload_n C 1 dX2_anyTurnParts_35 rfl rfl (n := 36) rfl ?_
    refine g_X2_beyond C w_6_17 dX2_anyTurnParts_36 (n := 39) rfl ?_
    refine v_iload C 0 dX2_anyTurnParts_39 rfl (n := 41) rfl ?_
    refine v_iload_n C 3 dX2_anyTurnParts_41 rfl rfl (n := 42) rfl ?_
    refine v_iadd C dX2_anyTurnParts_42 (n := 43) rfl ?_
    obtain ⟨hi5, h⟩ := ck_e h
    refine v_ald C aX_34 hi5 dX2_anyTurnParts_43 (n := 44) rfl ?_
    obtain ⟨r7, S6, eS6, h⟩ := bI_e h
    refine v_callNI (As := [.int (rd S 36 (x3 + (rd S 34 (y2 + x1).toNatClampNeg)).toNatClampNeg), .int (rd S 34 (y2 + x2).toNatClampNeg)]) C (c_X9_hasBit (rd S 36 (x3 + (rd S 34 (y2 + x1).toNatClampNeg)).toNatClampNeg) (rd S 34 (y2 + x2).toNatClampNeg) S eS6) mf_X9_hasBit (List.mem_of_getElem? (i := 14) rfl : (RX2, 98, yX9_hasBit, RX9) ∈ nestW) ⟨rfl, rfl, by decide, by decide⟩ rfl rfl (Nat.le_of_ble_eq_true rfl) dX2_anyTurnParts_44 (n := 47) rfl ?_
    refine v_if_ne C dX2_anyTurnParts_47 (t := 52) (by decide) (n := 50) rfl (fun c8 => ?_) (fun c8 => ?_)
    · have h := ite_n c8 h
      obtain ⟨y9, ey9, h⟩ := lt_e h
      refine v_iinc (L' := [(4, .int y9), (5, .int y2), (0, .ref (xq x 32)), (1, .int x1), (2, .int x2), (3, .int x3)]) C 5 dX2_anyTurnParts_52 rfl (by rw [ey9]; rfl) (by decide) rfl (n := 55) rfl ?_
      refine v_goto C dX2_anyTurnParts_55 (n := 3) (by decide) ?_
      refine v_sub [2, 3, 4, 5, 0] rfl ?_
      exact hk3 x1 x2 x3 y9 S6 h
    · have h := ite_p c8 h
      refine v_iconst (v := 1) C dX2_anyTurnParts_50 (by decide) (n := 51) rfl ?_
      obtain rfl := Option.some.inj h
      exact v_zret C (Or.inr rfl) dX2_anyTurnParts_51
theorem tg_X2_anyTurnParts_3 {x : Ctx} (C : Cx x WX cX2_anyTurnParts RX2 6 rm_X2_anyTurnParts (some .boolean)) {res : Int32 × St}  : ∀ (n : Nat) (x1 : Int32) (x2 : Int32) (x3 : Int32) (x4 : Int32) (S : St), g_X2_anyTurnParts_3  n x1 x2 x3 x4 S = some res → V x WX 6 (QI x WX res) S 3 [(0, .ref (xq x 32)), (1, .int x1), (2, .int x2), (3, .int x3), (4, .int x4)] [] := by
  intro n
  induction n with
  | zero => intro x1 x2 x3 x4 S h; cases h
  | succ n ih => intro x1 x2 x3 x4 S h; exact t_X2_anyTurnParts_3 C (fun x1 x2 x3 x4 S h => ih x1 x2 x3 x4 S h) x1 x2 x3 x4 S h
set_option maxRecDepth 20000 in
set_option maxHeartbeats 2000000 in
theorem t_X2_anyTurnParts_0 {x : Ctx} (C : Cx x WX cX2_anyTurnParts RX2 6 rm_X2_anyTurnParts (some .boolean)) {res : Int32 × St}  (x1 : Int32) (x2 : Int32) (x3 : Int32) (S : St) (h : f_X2_anyTurnParts_0  x1 x2 x3 S = some res) : V x WX 6 (QI x WX res) S 0 [(0, .ref (xq x 32)), (1, .int x1), (2, .int x2), (3, .int x3)] [] := by
  unfold f_X2_anyTurnParts_0 at h
  refine v_iconst (v := 0) C dX2_anyTurnParts_0 (by decide) (n := 1) rfl ?_
  refine v_istore (L' := [(4, .int 0), (0, .ref (xq x 32)), (1, .int x1), (2, .int x2), (3, .int x3)]) C dX2_anyTurnParts_1 (by decide) rfl (n := 3) rfl rfl ?_
  refine v_sub [1, 2, 3, 4, 0] rfl ?_
  exact tg_X2_anyTurnParts_3 C  fuel x1 x2 x3 0 S h
theorem c_X2_anyTurnParts {l : Launch} {D : va_G} {q : Nat → Nat} {ar : Ar} (a1 : Int32) (a2 : Int32) (a3 : Int32) (S : St) {res : Int32 × St} (h : m_X2_anyTurnParts a1 a2 a3 S = some res) : MetI l D q ar WX yX2_anyTurnParts cX2_anyTurnParts 6 (some .boolean) rm_X2_anyTurnParts [.ref (q 32), .int a1, .int a2, .int a3] S res := by
  refine metI_of adrX (by decide +kernel) (Nat.le_of_ble_eq_true rfl) (fun x e1 e2 e3 e4 C => ?_)
  subst e1; subst e2; subst e3; subst e4
  exact v_sub [0, 1, 2, 3] rfl (t_X2_anyTurnParts_0 C a1 a2 a3 S h)
theorem mf_X2_anyTurnParts : CalV yX2_anyTurnParts cX2_anyTurnParts 6 (some .boolean) RX2 3 := ⟨w_31_3, w_31_1, w_31_2, w_3_0, rfl, by decide +kernel, by decide +kernel, by decide +kernel⟩
/-! LabyrinthGarden$Homer.partTwins -/
def f_X2_partTwins_25 (k2 : Int32 → Int32 → St → Option (St)) (k25 : Int32 → Int32 → Int32 → Int32 → St → Option (St)) (x1 : Int32) (x2 : Int32) (x3 : Int32) (x4 : Int32) (S : St) : Option (St) :=
  if (rd S 6 2) ≤ x4 then (
    ck ((x1 + 24) + x2) 144 <|
    lt (up S 36 ((x1 + 24) + x2).toNatClampNeg x3) fun S3 =>
    lt (x2 + 1 : Int32) fun y4 =>
    k2 x1 y4 S3)
  else (
    if x4 = x2 then (
      lt (x4 + 1 : Int32) fun y6 =>
      k25 x1 x2 x3 y6 S)
    else (
      bI (m_X9_hasBit x3 x4 S) fun r8 S7 =>
      if r8 = 0 then (
        lt (x4 + 1 : Int32) fun y10 =>
        k25 x1 x2 x3 y10 S7)
      else (
        bI (m_X2_anyTurnParts x2 x4 x1 S7) fun r12 S11 =>
        if r12 = 0 then (
          lt (x4 + 1 : Int32) fun y14 =>
          k25 x1 x2 x3 y14 S11)
        else (
          bI (m_X9_withBit x3 x4 0 S11) fun r16 S15 =>
          lt (x4 + 1 : Int32) fun y17 =>
          k25 x1 x2 r16 y17 S15))))
def g_X2_partTwins_25 (k2 : Int32 → Int32 → St → Option (St)) : Nat → Int32 → Int32 → Int32 → Int32 → St → Option (St)
  | 0 => fun _ _ _ _ _ => none
  | n + 1 => f_X2_partTwins_25 k2 (g_X2_partTwins_25 k2 n)
def f_X2_partTwins_2 (k2 : Int32 → Int32 → St → Option (St)) (x1 : Int32) (x2 : Int32) (S : St) : Option (St) :=
  if (rd S 6 2) ≤ x2 then (
    some S)
  else (
    ck (x1 + x2) 144 <|
    lt ((rd S 36 (x1 + x2).toNatClampNeg) : Int32) fun y3 =>
    g_X2_partTwins_25 k2 fuel x1 x2 y3 0 S)
def g_X2_partTwins_2  : Nat → Int32 → Int32 → St → Option (St)
  | 0 => fun _ _ _ => none
  | n + 1 => f_X2_partTwins_2 (g_X2_partTwins_2  n)
def f_X2_partTwins_0  (x1 : Int32) (S : St) : Option (St) :=
  g_X2_partTwins_2  fuel x1 0 S
def m_X2_partTwins (a1 : Int32) (S : St) : Option (St) := f_X2_partTwins_0 a1 S
def rm_X2_partTwins : Room := { frames := 2, cells := 0, slots := 0, locals := 46 }
set_option maxRecDepth 20000 in
set_option maxHeartbeats 2000000 in
theorem t_X2_partTwins_25 {x : Ctx} (C : Cx x WX cX2_partTwins RX2 5 rm_X2_partTwins none) {res : St} {k2 : Int32 → Int32 → St → Option (St)} (hk2 : ∀ (x1 : Int32) (x2 : Int32) (S : St), k2 x1 x2 S = some res → V x WX 5 (QV x WX res) S 2 [(0, .ref (xq x 32)), (1, .int x1), (2, .int x2)] []) {k25 : Int32 → Int32 → Int32 → Int32 → St → Option (St)} (hk25 : ∀ (x1 : Int32) (x2 : Int32) (x3 : Int32) (x4 : Int32) (S : St), k25 x1 x2 x3 x4 S = some res → V x WX 5 (QV x WX res) S 25 [(0, .ref (xq x 32)), (1, .int x1), (2, .int x2), (3, .int x3), (4, .int x4)] []) (x1 : Int32) (x2 : Int32) (x3 : Int32) (x4 : Int32) (S : St) (h : f_X2_partTwins_25 k2 k25 x1 x2 x3 x4 S = some res) : V x WX 5 (QV x WX res) S 25 [(0, .ref (xq x 32)), (1, .int x1), (2, .int x2), (3, .int x3), (4, .int x4)] [] := by
  unfold f_X2_partTwins_25 at h
  refine v_iload C 4 dX2_partTwins_25 rfl (n := 27) rfl ?_
  refine v_aload_n C 0 dX2_partTwins_27 rfl rfl (n := 28) rfl ?_
  refine g_X2_garden C w_7_0 dX2_partTwins_28 (n := 31) rfl ?_
  refine g_X0_places C w_30_6 dX2_partTwins_31 (n := 34) rfl ?_
  refine v_icmp_ge C dX2_partTwins_34 (t := 77) (by decide) (n := 37) rfl (fun c1 => ?_) (fun c1 => ?_)
  · have h := ite_p c1 h
    refine v_aload_n C 0 dX2_partTwins_77 rfl rfl (n := 78) rfl ?_
    refine g_X2_twins C w_6_19 dX2_partTwins_78 (n := 81) rfl ?_
    refine v_iload_n C 1 dX2_partTwins_81 rfl rfl (n := 82) rfl ?_
    refine v_bipush (v := 24) C dX2_partTwins_82 (by decide) (n := 84) rfl ?_
    refine v_iadd C dX2_partTwins_84 (n := 85) rfl ?_
    refine v_iload_n C 2 dX2_partTwins_85 rfl rfl (n := 86) rfl ?_
    refine v_iadd C dX2_partTwins_86 (n := 87) rfl ?_
    refine v_iload_n C 3 dX2_partTwins_87 rfl rfl (n := 88) rfl ?_
    obtain ⟨hi2, h⟩ := ck_e h
    obtain ⟨S3, eS3, h⟩ := lt_e h
    refine v_ast C aX_36 hi2 dX2_partTwins_88 (n := 89) rfl eS3 ?_
    obtain ⟨y4, ey4, h⟩ := lt_e h
    refine v_iinc (L' := [(2, .int y4), (0, .ref (xq x 32)), (1, .int x1), (3, .int x3), (4, .int x4)]) C 2 dX2_partTwins_89 rfl (by rw [ey4]; rfl) (by decide) rfl (n := 92) rfl ?_
    refine v_goto C dX2_partTwins_92 (n := 2) (by decide) ?_
    refine v_sub [1, 2, 0] rfl ?_
    exact hk2 x1 y4 S3 h
  · have h := ite_n c1 h
    refine v_iload C 4 dX2_partTwins_37 rfl (n := 39) rfl ?_
    refine v_iload_n C 2 dX2_partTwins_39 rfl rfl (n := 40) rfl ?_
    refine v_icmp_eq C dX2_partTwins_40 (t := 71) (by decide) (n := 43) rfl (fun c5 => ?_) (fun c5 => ?_)
    · have h := ite_p c5 h
      obtain ⟨y6, ey6, h⟩ := lt_e h
      refine v_iinc (L' := [(4, .int y6), (0, .ref (xq x 32)), (1, .int x1), (2, .int x2), (3, .int x3)]) C 4 dX2_partTwins_71 rfl (by rw [ey6]; rfl) (by decide) rfl (n := 74) rfl ?_
      refine v_goto C dX2_partTwins_74 (n := 25) (by decide) ?_
      refine v_sub [1, 2, 3, 4, 0] rfl ?_
      exact hk25 x1 x2 x3 y6 S h
    · have h := ite_n c5 h
      refine v_iload_n C 3 dX2_partTwins_43 rfl rfl (n := 44) rfl ?_
      refine v_iload C 4 dX2_partTwins_44 rfl (n := 46) rfl ?_
      obtain ⟨r8, S7, eS7, h⟩ := bI_e h
      refine v_callNI (As := [.int x3, .int x4]) C (c_X9_hasBit x3 x4 S eS7) mf_X9_hasBit (List.mem_of_getElem? (i := 14) rfl : (RX2, 98, yX9_hasBit, RX9) ∈ nestW) ⟨rfl, rfl, by decide, by decide⟩ rfl rfl (Nat.le_of_ble_eq_true rfl) dX2_partTwins_46 (n := 49) rfl ?_
      refine v_if_eq C dX2_partTwins_49 (t := 71) (by decide) (n := 52) rfl (fun c9 => ?_) (fun c9 => ?_)
      · have h := ite_p c9 h
        obtain ⟨y10, ey10, h⟩ := lt_e h
        refine v_iinc (L' := [(4, .int y10), (0, .ref (xq x 32)), (1, .int x1), (2, .int x2), (3, .int x3)]) C 4 dX2_partTwins_71 rfl (by rw [ey10]; rfl) (by decide) rfl (n := 74) rfl ?_
        refine v_goto C dX2_partTwins_74 (n := 25) (by decide) ?_
        refine v_sub [1, 2, 3, 4, 0] rfl ?_
        exact hk25 x1 x2 x3 y10 S7 h
      · have h := ite_n c9 h
        refine v_aload_n C 0 dX2_partTwins_52 rfl rfl (n := 53) rfl ?_
        refine v_iload_n C 2 dX2_partTwins_53 rfl rfl (n := 54) rfl ?_
        refine v_iload C 4 dX2_partTwins_54 rfl (n := 56) rfl ?_
        refine v_iload_n C 1 dX2_partTwins_56 rfl rfl (n := 57) rfl ?_
        obtain ⟨r12, S11, eS11, h⟩ := bI_e h
        refine v_callVI (As := [.int x2, .int x4, .int x1]) C (c_X2_anyTurnParts x2 x4 x1 S7 eS11) mf_X2_anyTurnParts w_31_0 (oX2 _ _ _) rfl ⟨rfl, rfl, by decide, by decide⟩ rfl rfl (Nat.le_of_ble_eq_true rfl) dX2_partTwins_57 (n := 60) rfl ?_
        refine v_if_eq C dX2_partTwins_60 (t := 71) (by decide) (n := 63) rfl (fun c13 => ?_) (fun c13 => ?_)
        · have h := ite_p c13 h
          obtain ⟨y14, ey14, h⟩ := lt_e h
          refine v_iinc (L' := [(4, .int y14), (0, .ref (xq x 32)), (1, .int x1), (2, .int x2), (3, .int x3)]) C 4 dX2_partTwins_71 rfl (by rw [ey14]; rfl) (by decide) rfl (n := 74) rfl ?_
          refine v_goto C dX2_partTwins_74 (n := 25) (by decide) ?_
          refine v_sub [1, 2, 3, 4, 0] rfl ?_
          exact hk25 x1 x2 x3 y14 S11 h
        · have h := ite_n c13 h
          refine v_iload_n C 3 dX2_partTwins_63 rfl rfl (n := 64) rfl ?_
          refine v_iload C 4 dX2_partTwins_64 rfl (n := 66) rfl ?_
          refine v_iconst (v := 0) C dX2_partTwins_66 (by decide) (n := 67) rfl ?_
          obtain ⟨r16, S15, eS15, h⟩ := bI_e h
          refine v_callNI (As := [.int x3, .int x4, .int 0]) C (c_X9_withBit x3 x4 0 S11 eS15) mf_X9_withBit (List.mem_of_getElem? (i := 15) rfl : (RX2, 106, yX9_withBit, RX9) ∈ nestW) ⟨rfl, rfl, by decide, by decide⟩ rfl rfl (Nat.le_of_ble_eq_true rfl) dX2_partTwins_67 (n := 70) rfl ?_
          refine v_istore_n (L' := [(3, .int r16), (0, .ref (xq x 32)), (1, .int x1), (2, .int x2), (4, .int x4)]) C dX2_partTwins_70 rfl (by decide) rfl (n := 71) rfl rfl ?_
          obtain ⟨y17, ey17, h⟩ := lt_e h
          refine v_iinc (L' := [(4, .int y17), (3, .int r16), (0, .ref (xq x 32)), (1, .int x1), (2, .int x2)]) C 4 dX2_partTwins_71 rfl (by rw [ey17]; rfl) (by decide) rfl (n := 74) rfl ?_
          refine v_goto C dX2_partTwins_74 (n := 25) (by decide) ?_
          refine v_sub [2, 3, 4, 1, 0] rfl ?_
          exact hk25 x1 x2 r16 y17 S15 h
theorem tg_X2_partTwins_25 {x : Ctx} (C : Cx x WX cX2_partTwins RX2 5 rm_X2_partTwins none) {res : St} {k2 : Int32 → Int32 → St → Option (St)} (hk2 : ∀ (x1 : Int32) (x2 : Int32) (S : St), k2 x1 x2 S = some res → V x WX 5 (QV x WX res) S 2 [(0, .ref (xq x 32)), (1, .int x1), (2, .int x2)] []) : ∀ (n : Nat) (x1 : Int32) (x2 : Int32) (x3 : Int32) (x4 : Int32) (S : St), g_X2_partTwins_25 k2 n x1 x2 x3 x4 S = some res → V x WX 5 (QV x WX res) S 25 [(0, .ref (xq x 32)), (1, .int x1), (2, .int x2), (3, .int x3), (4, .int x4)] [] := by
  intro n
  induction n with
  | zero => intro x1 x2 x3 x4 S h; cases h
  | succ n ih => intro x1 x2 x3 x4 S h; exact t_X2_partTwins_25 C hk2 (fun x1 x2 x3 x4 S h => ih x1 x2 x3 x4 S h) x1 x2 x3 x4 S h
set_option maxRecDepth 20000 in
set_option maxHeartbeats 2000000 in
theorem t_X2_partTwins_2 {x : Ctx} (C : Cx x WX cX2_partTwins RX2 5 rm_X2_partTwins none) {res : St} {k2 : Int32 → Int32 → St → Option (St)} (hk2 : ∀ (x1 : Int32) (x2 : Int32) (S : St), k2 x1 x2 S = some res → V x WX 5 (QV x WX res) S 2 [(0, .ref (xq x 32)), (1, .int x1), (2, .int x2)] []) (x1 : Int32) (x2 : Int32) (S : St) (h : f_X2_partTwins_2 k2 x1 x2 S = some res) : V x WX 5 (QV x WX res) S 2 [(0, .ref (xq x 32)), (1, .int x1), (2, .int x2)] [] := by
  unfold f_X2_partTwins_2 at h
  refine v_iload_n C 2 dX2_partTwins_2 rfl rfl (n := 3) rfl ?_
  refine v_aload_n C 0 dX2_partTwins_3 rfl rfl (n := 4) rfl ?_
  refine g_X2_garden C w_7_0 dX2_partTwins_4 (n := 7) rfl ?_
  refine g_X0_places C w_30_6 dX2_partTwins_7 (n := 10) rfl ?_
  refine v_icmp_ge C dX2_partTwins_10 (t := 95) (by decide) (n := 13) rfl (fun c1 => ?_) (fun c1 => ?_)
  · have h := ite_p c1 h
    obtain rfl := Option.some.inj h
    exact v_ret C dX2_partTwins_95
  · have h := ite_n c1 h
    refine v_aload_n C 0 dX2_partTwins_13 rfl rfl (n := 14) rfl ?_
    refine g_X2_twins C w_6_19 dX2_partTwins_14 (n := 17) rfl ?_
    refine v_iload_n C 1 dX2_partTwins_17 rfl rfl (n := 18) rfl ?_
    refine v_iload_n C 2 dX2_partTwins_18 rfl rfl (n := 19) rfl ?_
    refine v_iadd C dX2_partTwins_19 (n := 20) rfl ?_
    obtain ⟨hi2, h⟩ := ck_e h
    refine v_ald C aX_36 hi2 dX2_partTwins_20 (n := 21) rfl ?_
    obtain ⟨y3, ey3, h⟩ := lt_e h
    refine v_istore_n (L' := [(3, .int y3), (0, .ref (xq x 32)), (1, .int x1), (2, .int x2)]) C dX2_partTwins_21 rfl (by decide) rfl (n := 22) rfl ey3 ?_
    refine v_iconst (v := 0) C dX2_partTwins_22 (by decide) (n := 23) rfl ?_
    refine v_istore (L' := [(4, .int 0), (3, .int y3), (0, .ref (xq x 32)), (1, .int x1), (2, .int x2)]) C dX2_partTwins_23 (by decide) rfl (n := 25) rfl rfl ?_
    refine v_sub [2, 3, 4, 1, 0] rfl ?_
    exact tg_X2_partTwins_25 C hk2 fuel x1 x2 y3 0 S h
theorem tg_X2_partTwins_2 {x : Ctx} (C : Cx x WX cX2_partTwins RX2 5 rm_X2_partTwins none) {res : St}  : ∀ (n : Nat) (x1 : Int32) (x2 : Int32) (S : St), g_X2_partTwins_2  n x1 x2 S = some res → V x WX 5 (QV x WX res) S 2 [(0, .ref (xq x 32)), (1, .int x1), (2, .int x2)] [] := by
  intro n
  induction n with
  | zero => intro x1 x2 S h; cases h
  | succ n ih => intro x1 x2 S h; exact t_X2_partTwins_2 C (fun x1 x2 S h => ih x1 x2 S h) x1 x2 S h
set_option maxRecDepth 20000 in
set_option maxHeartbeats 2000000 in
theorem t_X2_partTwins_0 {x : Ctx} (C : Cx x WX cX2_partTwins RX2 5 rm_X2_partTwins none) {res : St}  (x1 : Int32) (S : St) (h : f_X2_partTwins_0  x1 S = some res) : V x WX 5 (QV x WX res) S 0 [(0, .ref (xq x 32)), (1, .int x1)] [] := by
  unfold f_X2_partTwins_0 at h
  refine v_iconst (v := 0) C dX2_partTwins_0 (by decide) (n := 1) rfl ?_
  refine v_istore_n (L' := [(2, .int 0), (0, .ref (xq x 32)), (1, .int x1)]) C dX2_partTwins_1 rfl (by decide) rfl (n := 2) rfl rfl ?_
  refine v_sub [1, 2, 0] rfl ?_
  exact tg_X2_partTwins_2 C  fuel x1 0 S h
theorem c_X2_partTwins {l : Launch} {D : va_G} {q : Nat → Nat} {ar : Ar} (a1 : Int32) (S : St) {res : St} (h : m_X2_partTwins a1 S = some res) : MetV l D q ar WX yX2_partTwins cX2_partTwins 5 none rm_X2_partTwins [.ref (q 32), .int a1] S res := by
  refine metV_of adrX (by decide +kernel) (Nat.le_of_ble_eq_true rfl) (fun x e1 e2 e3 e4 C => ?_)
  subst e1; subst e2; subst e3; subst e4
  exact v_sub [0, 1] rfl (t_X2_partTwins_0 C a1 S h)
theorem mf_X2_partTwins : CalV yX2_partTwins cX2_partTwins 5 none RX2 1 := ⟨w_30_23, w_30_21, w_30_22, w_3_0, rfl, by decide +kernel, by decide +kernel, by decide +kernel⟩
/-! LabyrinthGarden$Homer.hasTwins -/
def f_X2_hasTwins_2 (k2 : Int32 → Int32 → St → Option (Int32 × St)) (x1 : Int32) (x2 : Int32) (S : St) : Option (Int32 × St) :=
  if (rd S 6 2) ≤ x2 then (
    some (0, S))
  else (
    ck (x1 + x2) 144 <|
    if (rd S 36 (x1 + x2).toNatClampNeg) = (shl 1 x2) then (
      lt (x2 + 1 : Int32) fun y4 =>
      k2 x1 y4 S)
    else (
      some (1, S)))
def g_X2_hasTwins_2  : Nat → Int32 → Int32 → St → Option (Int32 × St)
  | 0 => fun _ _ _ => none
  | n + 1 => f_X2_hasTwins_2 (g_X2_hasTwins_2  n)
def f_X2_hasTwins_0  (x1 : Int32) (S : St) : Option (Int32 × St) :=
  g_X2_hasTwins_2  fuel x1 0 S
def m_X2_hasTwins (a1 : Int32) (S : St) : Option (Int32 × St) := f_X2_hasTwins_0 a1 S
def rm_X2_hasTwins : Room := { frames := 0, cells := 0, slots := 0, locals := 0 }
set_option maxRecDepth 20000 in
set_option maxHeartbeats 2000000 in
theorem t_X2_hasTwins_2 {x : Ctx} (C : Cx x WX cX2_hasTwins RX2 3 rm_X2_hasTwins (some .boolean)) {res : Int32 × St} {k2 : Int32 → Int32 → St → Option (Int32 × St)} (hk2 : ∀ (x1 : Int32) (x2 : Int32) (S : St), k2 x1 x2 S = some res → V x WX 3 (QI x WX res) S 2 [(0, .ref (xq x 32)), (1, .int x1), (2, .int x2)] []) (x1 : Int32) (x2 : Int32) (S : St) (h : f_X2_hasTwins_2 k2 x1 x2 S = some res) : V x WX 3 (QI x WX res) S 2 [(0, .ref (xq x 32)), (1, .int x1), (2, .int x2)] [] := by
  unfold f_X2_hasTwins_2 at h
  refine v_iload_n C 2 dX2_hasTwins_2 rfl rfl (n := 3) rfl ?_
  refine v_aload_n C 0 dX2_hasTwins_3 rfl rfl (n := 4) rfl ?_
  refine g_X2_garden C w_7_0 dX2_hasTwins_4 (n := 7) rfl ?_
  refine g_X0_places C w_30_6 dX2_hasTwins_7 (n := 10) rfl ?_
  refine v_icmp_ge C dX2_hasTwins_10 (t := 35) (by decide) (n := 13) rfl (fun c1 => ?_) (fun c1 => ?_)
  · have h := ite_p c1 h
    refine v_iconst (v := 0) C dX2_hasTwins_35 (by decide) (n := 36) rfl ?_
    obtain rfl := Option.some.inj h
    exact v_zret C (Or.inl rfl) dX2_hasTwins_36
  · have h := ite_n c1 h
    refine v_aload_n C 0 dX2_hasTwins_13 rfl rfl (n := 14) rfl ?_
    refine g_X2_twins C w_6_19 dX2_hasTwins_14 (n := 17) rfl ?_
    refine v_iload_n C 1 dX2_hasTwins_17 rfl rfl (n := 18) rfl ?_
    refine v_iload_n C 2 dX2_hasTwins_18 rfl rfl (n := 19) rfl ?_
    refine v_iadd C dX2_hasTwins_19 (n := 20) rfl ?_
    obtain ⟨hi2, h⟩ := ck_e h
    refine v_ald C aX_36 hi2 dX2_hasTwins_20 (n := 21) rfl ?_
    refine v_iconst (v := 1) C dX2_hasTwins_21 (by decide) (n := 22) rfl ?_
    refine v_iload_n C 2 dX2_hasTwins_22 rfl rfl (n := 23) rfl ?_
    refine v_ishl C dX2_hasTwins_23 (n := 24) rfl ?_
    refine v_icmp_eq C dX2_hasTwins_24 (t := 29) (by decide) (n := 27) rfl (fun c3 => ?_) (fun c3 => ?_)
    · have h := ite_p c3 h
      obtain ⟨y4, ey4, h⟩ := lt_e h
      refine v_iinc (L' := [(2, .int y4), (0, .ref (xq x 32)), (1, .int x1)]) C 2 dX2_hasTwins_29 rfl (by rw [ey4]; rfl) (by decide) rfl (n := 32) rfl ?_
      refine v_goto C dX2_hasTwins_32 (n := 2) (by decide) ?_
      refine v_sub [1, 2, 0] rfl ?_
      exact hk2 x1 y4 S h
    · have h := ite_n c3 h
      refine v_iconst (v := 1) C dX2_hasTwins_27 (by decide) (n := 28) rfl ?_
      obtain rfl := Option.some.inj h
      exact v_zret C (Or.inr rfl) dX2_hasTwins_28
theorem tg_X2_hasTwins_2 {x : Ctx} (C : Cx x WX cX2_hasTwins RX2 3 rm_X2_hasTwins (some .boolean)) {res : Int32 × St}  : ∀ (n : Nat) (x1 : Int32) (x2 : Int32) (S : St), g_X2_hasTwins_2  n x1 x2 S = some res → V x WX 3 (QI x WX res) S 2 [(0, .ref (xq x 32)), (1, .int x1), (2, .int x2)] [] := by
  intro n
  induction n with
  | zero => intro x1 x2 S h; cases h
  | succ n ih => intro x1 x2 S h; exact t_X2_hasTwins_2 C (fun x1 x2 S h => ih x1 x2 S h) x1 x2 S h
set_option maxRecDepth 20000 in
set_option maxHeartbeats 2000000 in
theorem t_X2_hasTwins_0 {x : Ctx} (C : Cx x WX cX2_hasTwins RX2 3 rm_X2_hasTwins (some .boolean)) {res : Int32 × St}  (x1 : Int32) (S : St) (h : f_X2_hasTwins_0  x1 S = some res) : V x WX 3 (QI x WX res) S 0 [(0, .ref (xq x 32)), (1, .int x1)] [] := by
  unfold f_X2_hasTwins_0 at h
  refine v_iconst (v := 0) C dX2_hasTwins_0 (by decide) (n := 1) rfl ?_
  refine v_istore_n (L' := [(2, .int 0), (0, .ref (xq x 32)), (1, .int x1)]) C dX2_hasTwins_1 rfl (by decide) rfl (n := 2) rfl rfl ?_
  refine v_sub [1, 2, 0] rfl ?_
  exact tg_X2_hasTwins_2 C  fuel x1 0 S h
theorem c_X2_hasTwins {l : Launch} {D : va_G} {q : Nat → Nat} {ar : Ar} (a1 : Int32) (S : St) {res : Int32 × St} (h : m_X2_hasTwins a1 S = some res) : MetI l D q ar WX yX2_hasTwins cX2_hasTwins 3 (some .boolean) rm_X2_hasTwins [.ref (q 32), .int a1] S res := by
  refine metI_of adrX (by decide +kernel) (Nat.le_of_ble_eq_true rfl) (fun x e1 e2 e3 e4 C => ?_)
  subst e1; subst e2; subst e3; subst e4
  exact v_sub [0, 1] rfl (t_X2_hasTwins_0 C a1 S h)
theorem mf_X2_hasTwins : CalV yX2_hasTwins cX2_hasTwins 3 (some .boolean) RX2 1 := ⟨w_31_7, w_31_5, w_31_6, w_3_0, rfl, by decide +kernel, by decide +kernel, by decide +kernel⟩
/-! LabyrinthGarden$Homer.leastTurns -/
def f_X2_leastTurns_63 (k63 : Int32 → St → Option (Int32 × St)) (x1 : Int32) (S : St) : Option (Int32 × St) :=
  if 5 < x1 then (
    some ((-1), S))
  else (
    bI (m_X2_hasTwins (x1 * 24) S) fun r3 S2 =>
    if r3 = 0 then (
      some (x1, S2))
    else (
      lt (x1 + 1 : Int32) fun y5 =>
      k63 y5 S2))
def g_X2_leastTurns_63  : Nat → Int32 → St → Option (Int32 × St)
  | 0 => fun _ _ => none
  | n + 1 => f_X2_leastTurns_63 (g_X2_leastTurns_63  n)
def f_X2_leastTurns_42 (k42 : Int32 → St → Option (Int32 × St)) (x1 : Int32) (S : St) : Option (Int32 × St) :=
  if 5 ≤ x1 then (
    g_X2_leastTurns_63  fuel 0 S)
  else (
    bV (m_X2_partTwins (x1 * 24) S) fun S2 =>
    lt (x1 + 1 : Int32) fun y3 =>
    k42 y3 S2)
def g_X2_leastTurns_42  : Nat → Int32 → St → Option (Int32 × St)
  | 0 => fun _ _ => none
  | n + 1 => f_X2_leastTurns_42 (g_X2_leastTurns_42  n)
def f_X2_leastTurns_2 (k2 : Int32 → St → Option (Int32 × St)) (x1 : Int32) (S : St) : Option (Int32 × St) :=
  if (rd S 6 2) ≤ x1 then (
    g_X2_leastTurns_42  fuel 0 S)
  else (
    bI (m_X0_endsAt x1 S) fun r3 S2 =>
    bI (m_X0_placesWithEnds r3 S2) fun r5 S4 =>
    ck x1 144 <|
    lt (up S4 36 x1.toNatClampNeg r5) fun S7 =>
    lt (x1 + 1 : Int32) fun y8 =>
    k2 y8 S7)
def g_X2_leastTurns_2  : Nat → Int32 → St → Option (Int32 × St)
  | 0 => fun _ _ => none
  | n + 1 => f_X2_leastTurns_2 (g_X2_leastTurns_2  n)
def f_X2_leastTurns_0   (S : St) : Option (Int32 × St) :=
  g_X2_leastTurns_2  fuel 0 S
def m_X2_leastTurns  (S : St) : Option (Int32 × St) := f_X2_leastTurns_0  S
def rm_X2_leastTurns : Room := { frames := 3, cells := 0, slots := 0, locals := 70 }
set_option maxRecDepth 20000 in
set_option maxHeartbeats 2000000 in
theorem t_X2_leastTurns_63 {x : Ctx} (C : Cx x WX cX2_leastTurns RX2 2 rm_X2_leastTurns (some .int)) {res : Int32 × St} {k63 : Int32 → St → Option (Int32 × St)} (hk63 : ∀ (x1 : Int32) (S : St), k63 x1 S = some res → V x WX 2 (QI x WX res) S 63 [(0, .ref (xq x 32)), (1, .int x1)] []) (x1 : Int32) (S : St) (h : f_X2_leastTurns_63 k63 x1 S = some res) : V x WX 2 (QI x WX res) S 63 [(0, .ref (xq x 32)), (1, .int x1)] [] := by
  unfold f_X2_leastTurns_63 at h
  refine v_iload_n C 1 dX2_leastTurns_63 rfl rfl (n := 64) rfl ?_
  refine v_iconst (v := 5) C dX2_leastTurns_64 (by decide) (n := 65) rfl ?_
  refine v_icmp_gt C dX2_leastTurns_65 (t := 87) (by decide) (n := 68) rfl (fun c1 => ?_) (fun c1 => ?_)
  · have h := ite_p c1 h
    refine v_iconst (v := (-1)) C dX2_leastTurns_87 (by decide) (n := 88) rfl ?_
    obtain rfl := Option.some.inj h
    exact v_iret C dX2_leastTurns_88
  · have h := ite_n c1 h
    refine v_aload_n C 0 dX2_leastTurns_68 rfl rfl (n := 69) rfl ?_
    refine v_iload_n C 1 dX2_leastTurns_69 rfl rfl (n := 70) rfl ?_
    refine v_bipush (v := 24) C dX2_leastTurns_70 (by decide) (n := 72) rfl ?_
    refine v_imul C dX2_leastTurns_72 (n := 73) rfl ?_
    obtain ⟨r3, S2, eS2, h⟩ := bI_e h
    refine v_callVI (As := [.int (x1 * 24)]) C (c_X2_hasTwins (x1 * 24) S eS2) mf_X2_hasTwins w_31_4 (oX2 _ _ _) rfl ⟨rfl, rfl, by decide, by decide⟩ rfl rfl (Nat.le_of_ble_eq_true rfl) dX2_leastTurns_73 (n := 76) rfl ?_
    refine v_if_ne C dX2_leastTurns_76 (t := 81) (by decide) (n := 79) rfl (fun c4 => ?_) (fun c4 => ?_)
    · have h := ite_n c4 h
      obtain ⟨y5, ey5, h⟩ := lt_e h
      refine v_iinc (L' := [(1, .int y5), (0, .ref (xq x 32))]) C 1 dX2_leastTurns_81 rfl (by rw [ey5]; rfl) (by decide) rfl (n := 84) rfl ?_
      refine v_goto C dX2_leastTurns_84 (n := 63) (by decide) ?_
      refine v_sub [1, 0] rfl ?_
      exact hk63 y5 S2 h
    · have h := ite_p c4 h
      refine v_iload_n C 1 dX2_leastTurns_79 rfl rfl (n := 80) rfl ?_
      obtain rfl := Option.some.inj h
      exact v_iret C dX2_leastTurns_80
theorem tg_X2_leastTurns_63 {x : Ctx} (C : Cx x WX cX2_leastTurns RX2 2 rm_X2_leastTurns (some .int)) {res : Int32 × St}  : ∀ (n : Nat) (x1 : Int32) (S : St), g_X2_leastTurns_63  n x1 S = some res → V x WX 2 (QI x WX res) S 63 [(0, .ref (xq x 32)), (1, .int x1)] [] := by
  intro n
  induction n with
  | zero => intro x1 S h; cases h
  | succ n ih => intro x1 S h; exact t_X2_leastTurns_63 C (fun x1 S h => ih x1 S h) x1 S h
set_option maxRecDepth 20000 in
set_option maxHeartbeats 2000000 in
theorem t_X2_leastTurns_42 {x : Ctx} (C : Cx x WX cX2_leastTurns RX2 2 rm_X2_leastTurns (some .int)) {res : Int32 × St} {k42 : Int32 → St → Option (Int32 × St)} (hk42 : ∀ (x1 : Int32) (S : St), k42 x1 S = some res → V x WX 2 (QI x WX res) S 42 [(0, .ref (xq x 32)), (1, .int x1)] []) (x1 : Int32) (S : St) (h : f_X2_leastTurns_42 k42 x1 S = some res) : V x WX 2 (QI x WX res) S 42 [(0, .ref (xq x 32)), (1, .int x1)] [] := by
  unfold f_X2_leastTurns_42 at h
  refine v_iload_n C 1 dX2_leastTurns_42 rfl rfl (n := 43) rfl ?_
  refine v_iconst (v := 5) C dX2_leastTurns_43 (by decide) (n := 44) rfl ?_
  refine v_icmp_ge C dX2_leastTurns_44 (t := 61) (by decide) (n := 47) rfl (fun c1 => ?_) (fun c1 => ?_)
  · have h := ite_p c1 h
    refine v_iconst (v := 0) C dX2_leastTurns_61 (by decide) (n := 62) rfl ?_
    refine v_istore_n (L' := [(1, .int 0), (0, .ref (xq x 32))]) C dX2_leastTurns_62 rfl (by decide) rfl (n := 63) rfl rfl ?_
    refine v_sub [1, 0] rfl ?_
    exact tg_X2_leastTurns_63 C  fuel 0 S h
  · have h := ite_n c1 h
    refine v_aload_n C 0 dX2_leastTurns_47 rfl rfl (n := 48) rfl ?_
    refine v_iload_n C 1 dX2_leastTurns_48 rfl rfl (n := 49) rfl ?_
    refine v_bipush (v := 24) C dX2_leastTurns_49 (by decide) (n := 51) rfl ?_
    refine v_imul C dX2_leastTurns_51 (n := 52) rfl ?_
    obtain ⟨S2, eS2, h⟩ := bV_e h
    refine v_callVV (As := [.int (x1 * 24)]) C (c_X2_partTwins (x1 * 24) S eS2) mf_X2_partTwins w_30_20 (oX2 _ _ _) rfl ⟨rfl, rfl, by decide, by decide⟩ rfl rfl (Nat.le_of_ble_eq_true rfl) dX2_leastTurns_52 (n := 55) rfl ?_
    obtain ⟨y3, ey3, h⟩ := lt_e h
    refine v_iinc (L' := [(1, .int y3), (0, .ref (xq x 32))]) C 1 dX2_leastTurns_55 rfl (by rw [ey3]; rfl) (by decide) rfl (n := 58) rfl ?_
    refine v_goto C dX2_leastTurns_58 (n := 42) (by decide) ?_
    refine v_sub [1, 0] rfl ?_
    exact hk42 y3 S2 h
theorem tg_X2_leastTurns_42 {x : Ctx} (C : Cx x WX cX2_leastTurns RX2 2 rm_X2_leastTurns (some .int)) {res : Int32 × St}  : ∀ (n : Nat) (x1 : Int32) (S : St), g_X2_leastTurns_42  n x1 S = some res → V x WX 2 (QI x WX res) S 42 [(0, .ref (xq x 32)), (1, .int x1)] [] := by
  intro n
  induction n with
  | zero => intro x1 S h; cases h
  | succ n ih => intro x1 S h; exact t_X2_leastTurns_42 C (fun x1 S h => ih x1 S h) x1 S h
set_option maxRecDepth 20000 in
set_option maxHeartbeats 2000000 in
theorem t_X2_leastTurns_2 {x : Ctx} (C : Cx x WX cX2_leastTurns RX2 2 rm_X2_leastTurns (some .int)) {res : Int32 × St} {k2 : Int32 → St → Option (Int32 × St)} (hk2 : ∀ (x1 : Int32) (S : St), k2 x1 S = some res → V x WX 2 (QI x WX res) S 2 [(0, .ref (xq x 32)), (1, .int x1)] []) (x1 : Int32) (S : St) (h : f_X2_leastTurns_2 k2 x1 S = some res) : V x WX 2 (QI x WX res) S 2 [(0, .ref (xq x 32)), (1, .int x1)] [] := by
  unfold f_X2_leastTurns_2 at h
  refine v_iload_n C 1 dX2_leastTurns_2 rfl rfl (n := 3) rfl ?_
  refine v_aload_n C 0 dX2_leastTurns_3 rfl rfl (n := 4) rfl ?_
  refine g_X2_garden C w_7_0 dX2_leastTurns_4 (n := 7) rfl ?_
  refine g_X0_places C w_30_6 dX2_leastTurns_7 (n := 10) rfl ?_
  refine v_icmp_ge C dX2_leastTurns_10 (t := 40) (by decide) (n := 13) rfl (fun c1 => ?_) (fun c1 => ?_)
  · have h := ite_p c1 h
    refine v_iconst (v := 0) C dX2_leastTurns_40 (by decide) (n := 41) rfl ?_
    refine v_istore_n (L' := [(1, .int 0), (0, .ref (xq x 32))]) C dX2_leastTurns_41 rfl (by decide) rfl (n := 42) rfl rfl ?_
    refine v_sub [1, 0] rfl ?_
    exact tg_X2_leastTurns_42 C  fuel 0 S h
  · have h := ite_n c1 h
    refine v_aload_n C 0 dX2_leastTurns_13 rfl rfl (n := 14) rfl ?_
    refine g_X2_twins C w_6_19 dX2_leastTurns_14 (n := 17) rfl ?_
    refine v_iload_n C 1 dX2_leastTurns_17 rfl rfl (n := 18) rfl ?_
    refine v_aload_n C 0 dX2_leastTurns_18 rfl rfl (n := 19) rfl ?_
    refine g_X2_garden C w_7_0 dX2_leastTurns_19 (n := 22) rfl ?_
    refine v_aload_n C 0 dX2_leastTurns_22 rfl rfl (n := 23) rfl ?_
    refine g_X2_garden C w_7_0 dX2_leastTurns_23 (n := 26) rfl ?_
    refine v_iload_n C 1 dX2_leastTurns_26 rfl rfl (n := 27) rfl ?_
    obtain ⟨r3, S2, eS2, h⟩ := bI_e h
    refine v_callVI (As := [.int x1]) C (c_X0_endsAt x1 S eS2) mf_X0_endsAt w_30_18 (oX0 _ _ _) rfl ⟨rfl, rfl, by decide, by decide⟩ rfl rfl (Nat.le_of_ble_eq_true rfl) dX2_leastTurns_27 (n := 30) rfl ?_
    obtain ⟨r5, S4, eS4, h⟩ := bI_e h
    refine v_callVI (As := [.int r3]) C (c_X0_placesWithEnds r3 S2 eS4) mf_X0_placesWithEnds w_30_19 (oX0 _ _ _) rfl ⟨rfl, rfl, by decide, by decide⟩ rfl rfl (Nat.le_of_ble_eq_true rfl) dX2_leastTurns_30 (n := 33) rfl ?_
    obtain ⟨hi6, h⟩ := ck_e h
    obtain ⟨S7, eS7, h⟩ := lt_e h
    refine v_ast C aX_36 hi6 dX2_leastTurns_33 (n := 34) rfl eS7 ?_
    obtain ⟨y8, ey8, h⟩ := lt_e h
    refine v_iinc (L' := [(1, .int y8), (0, .ref (xq x 32))]) C 1 dX2_leastTurns_34 rfl (by rw [ey8]; rfl) (by decide) rfl (n := 37) rfl ?_
    refine v_goto C dX2_leastTurns_37 (n := 2) (by decide) ?_
    refine v_sub [1, 0] rfl ?_
    exact hk2 y8 S7 h
theorem tg_X2_leastTurns_2 {x : Ctx} (C : Cx x WX cX2_leastTurns RX2 2 rm_X2_leastTurns (some .int)) {res : Int32 × St}  : ∀ (n : Nat) (x1 : Int32) (S : St), g_X2_leastTurns_2  n x1 S = some res → V x WX 2 (QI x WX res) S 2 [(0, .ref (xq x 32)), (1, .int x1)] [] := by
  intro n
  induction n with
  | zero => intro x1 S h; cases h
  | succ n ih => intro x1 S h; exact t_X2_leastTurns_2 C (fun x1 S h => ih x1 S h) x1 S h
set_option maxRecDepth 20000 in
set_option maxHeartbeats 2000000 in
theorem t_X2_leastTurns_0 {x : Ctx} (C : Cx x WX cX2_leastTurns RX2 2 rm_X2_leastTurns (some .int)) {res : Int32 × St}   (S : St) (h : f_X2_leastTurns_0   S = some res) : V x WX 2 (QI x WX res) S 0 [(0, .ref (xq x 32))] [] := by
  unfold f_X2_leastTurns_0 at h
  refine v_iconst (v := 0) C dX2_leastTurns_0 (by decide) (n := 1) rfl ?_
  refine v_istore_n (L' := [(1, .int 0), (0, .ref (xq x 32))]) C dX2_leastTurns_1 rfl (by decide) rfl (n := 2) rfl rfl ?_
  refine v_sub [1, 0] rfl ?_
  exact tg_X2_leastTurns_2 C  fuel 0 S h
theorem c_X2_leastTurns {l : Launch} {D : va_G} {q : Nat → Nat} {ar : Ar}  (S : St) {res : Int32 × St} (h : m_X2_leastTurns  S = some res) : MetI l D q ar WX yX2_leastTurns cX2_leastTurns 2 (some .int) rm_X2_leastTurns [.ref (q 32)] S res := by
  refine metI_of adrX (by decide +kernel) (Nat.le_of_ble_eq_true rfl) (fun x e1 e2 e3 e4 C => ?_)
  subst e1; subst e2; subst e3; subst e4
  exact v_sub [0] rfl (t_X2_leastTurns_0 C  S h)
theorem mf_X2_leastTurns : CalV yX2_leastTurns cX2_leastTurns 2 (some .int) RX2 0 := ⟨w_30_17, w_30_15, w_30_16, w_3_0, rfl, by decide +kernel, by decide +kernel, by decide +kernel⟩
/-! LabyrinthGarden$Homer.begin -/
def f_X2_begin_68 (k9 : Int32 → St → Option (St)) (x1 : Int32) (s0 : Int32) (s1 : Int32) (s2 : Int32) (S : St) : Option (St) :=
  bI (m_X9_withBit s2 s1 s0 S) fun r2 S1 =>
  lt (up S1 39 (0 : Int32).toNatClampNeg r2) fun S3 =>
  lt (x1 + 1 : Int32) fun y4 =>
  k9 y4 S3
def f_X2_begin_9 (k9 : Int32 → St → Option (St)) (x1 : Int32) (S : St) : Option (St) :=
  if (rd S 6 2) ≤ x1 then (
    some S)
  else (
    ck x1 144 <|
    lt (up S 37 x1.toNatClampNeg x1) fun S3 =>
    lt (up S3 38 x1.toNatClampNeg (rd S3 36 x1.toNatClampNeg)) fun S4 =>
    if (rd S4 36 x1.toNatClampNeg) = (shl 1 x1) then (
      f_X2_begin_68 k9 x1 0 x1 (rd S4 39 (0 : Int32).toNatClampNeg) S4)
    else (
      f_X2_begin_68 k9 x1 1 x1 (rd S4 39 (0 : Int32).toNatClampNeg) S4))
def g_X2_begin_9  : Nat → Int32 → St → Option (St)
  | 0 => fun _ _ => none
  | n + 1 => f_X2_begin_9 (g_X2_begin_9  n)
def f_X2_begin_0   (S : St) : Option (St) :=
  lt (up S 39 (0 : Int32).toNatClampNeg 0) fun S1 =>
  g_X2_begin_9  fuel 0 S1
def m_X2_begin  (S : St) : Option (St) := f_X2_begin_0  S
def rm_X2_begin : Room := { frames := 1, cells := 0, slots := 0, locals := 22 }
set_option maxRecDepth 20000 in
set_option maxHeartbeats 2000000 in
theorem t_X2_begin_68 {x : Ctx} (C : Cx x WX cX2_begin RX2 2 rm_X2_begin none) {res : St} {k9 : Int32 → St → Option (St)} (hk9 : ∀ (x1 : Int32) (S : St), k9 x1 S = some res → V x WX 2 (QV x WX res) S 9 [(0, .ref (xq x 32)), (1, .int x1)] []) (x1 : Int32) (s0 : Int32) (s1 : Int32) (s2 : Int32) (S : St) (h : f_X2_begin_68 k9 x1 s0 s1 s2 S = some res) : V x WX 2 (QV x WX res) S 68 [(0, .ref (xq x 32)), (1, .int x1)] [.int s0, .int s1, .int s2, .int 0, .ref (xq x 39)] := by
  unfold f_X2_begin_68 at h
  obtain ⟨r2, S1, eS1, h⟩ := bI_e h
  refine v_callNI (As := [.int s2, .int s1, .int s0]) C (c_X9_withBit s2 s1 s0 S eS1) mf_X9_withBit (List.mem_of_getElem? (i := 15) rfl : (RX2, 106, yX9_withBit, RX9) ∈ nestW) ⟨rfl, rfl, by decide, by decide⟩ rfl rfl (Nat.le_of_ble_eq_true rfl) dX2_begin_68 (n := 71) rfl ?_
  obtain ⟨S3, eS3, h⟩ := lt_e h
  refine v_ast C aX_39 (show vp_in 0 6 by unfold vp_in; decide) dX2_begin_71 (n := 72) rfl eS3 ?_
  obtain ⟨y4, ey4, h⟩ := lt_e h
  refine v_iinc (L' := [(1, .int y4), (0, .ref (xq x 32))]) C 1 dX2_begin_72 rfl (by rw [ey4]; rfl) (by decide) rfl (n := 75) rfl ?_
  refine v_goto C dX2_begin_75 (n := 9) (by decide) ?_
  refine v_sub [1, 0] rfl ?_
  exact hk9 y4 S3 h
set_option maxRecDepth 20000 in
set_option maxHeartbeats 2000000 in
theorem t_X2_begin_9 {x : Ctx} (C : Cx x WX cX2_begin RX2 2 rm_X2_begin none) {res : St} {k9 : Int32 → St → Option (St)} (hk9 : ∀ (x1 : Int32) (S : St), k9 x1 S = some res → V x WX 2 (QV x WX res) S 9 [(0, .ref (xq x 32)), (1, .int x1)] []) (x1 : Int32) (S : St) (h : f_X2_begin_9 k9 x1 S = some res) : V x WX 2 (QV x WX res) S 9 [(0, .ref (xq x 32)), (1, .int x1)] [] := by
  unfold f_X2_begin_9 at h
  refine v_iload_n C 1 dX2_begin_9 rfl rfl (n := 10) rfl ?_
  refine v_aload_n C 0 dX2_begin_10 rfl rfl (n := 11) rfl ?_
  refine g_X2_garden C w_7_0 dX2_begin_11 (n := 14) rfl ?_
  refine g_X0_places C w_30_6 dX2_begin_14 (n := 17) rfl ?_
  refine v_icmp_ge C dX2_begin_17 (t := 78) (by decide) (n := 20) rfl (fun c1 => ?_) (fun c1 => ?_)
  · have h := ite_p c1 h
    obtain rfl := Option.some.inj h
    exact v_ret C dX2_begin_78
  · have h := ite_n c1 h
    refine v_aload_n C 0 dX2_begin_20 rfl rfl (n := 21) rfl ?_
    refine g_X2_at C w_6_20 dX2_begin_21 (n := 24) rfl ?_
    refine v_iload_n C 1 dX2_begin_24 rfl rfl (n := 25) rfl ?_
    refine v_iload_n C 1 dX2_begin_25 rfl rfl (n := 26) rfl ?_
    obtain ⟨hi2, h⟩ := ck_e h
    obtain ⟨S3, eS3, h⟩ := lt_e h
    refine v_ast C aX_37 hi2 dX2_begin_26 (n := 27) rfl eS3 ?_
    refine v_aload_n C 0 dX2_begin_27 rfl rfl (n := 28) rfl ?_
    refine g_X2_alike C w_6_21 dX2_begin_28 (n := 31) rfl ?_
    refine v_iload_n C 1 dX2_begin_31 rfl rfl (n := 32) rfl ?_
    refine v_aload_n C 0 dX2_begin_32 rfl rfl (n := 33) rfl ?_
    refine g_X2_twins C w_6_19 dX2_begin_33 (n := 36) rfl ?_
    refine v_iload_n C 1 dX2_begin_36 rfl rfl (n := 37) rfl ?_
    refine v_ald C aX_36 hi2 dX2_begin_37 (n := 38) rfl ?_
    obtain ⟨S4, eS4, h⟩ := lt_e h
    refine v_ast C aX_38 hi2 dX2_begin_38 (n := 39) rfl eS4 ?_
    refine v_aload_n C 0 dX2_begin_39 rfl rfl (n := 40) rfl ?_
    refine g_X2_unsure C w_6_22 dX2_begin_40 (n := 43) rfl ?_
    refine v_iconst (v := 0) C dX2_begin_43 (by decide) (n := 44) rfl ?_
    refine v_aload_n C 0 dX2_begin_44 rfl rfl (n := 45) rfl ?_
    refine g_X2_unsure C w_6_22 dX2_begin_45 (n := 48) rfl ?_
    refine v_iconst (v := 0) C dX2_begin_48 (by decide) (n := 49) rfl ?_
    refine v_ald C aX_39 (show vp_in 0 6 by unfold vp_in; decide) dX2_begin_49 (n := 50) rfl ?_
    refine v_iload_n C 1 dX2_begin_50 rfl rfl (n := 51) rfl ?_
    refine v_aload_n C 0 dX2_begin_51 rfl rfl (n := 52) rfl ?_
    refine g_X2_twins C w_6_19 dX2_begin_52 (n := 55) rfl ?_
    refine v_iload_n C 1 dX2_begin_55 rfl rfl (n := 56) rfl ?_
    refine v_ald C aX_36 hi2 dX2_begin_56 (n := 57) rfl ?_
    refine v_iconst (v := 1) C dX2_begin_57 (by decide) (n := 58) rfl ?_
    refine v_iload_n C 1 dX2_begin_58 rfl rfl (n := 59) rfl ?_
    refine v_ishl C dX2_begin_59 (n := 60) rfl ?_
    refine v_icmp_eq C dX2_begin_60 (t := 67) (by decide) (n := 63) rfl (fun c5 => ?_) (fun c5 => ?_)
    · have h := ite_p c5 h
      refine v_iconst (v := 0) C dX2_begin_67 (by decide) (n := 68) rfl ?_
      refine v_sub [0, 1] rfl ?_
      exact t_X2_begin_68 C hk9 x1 0 x1 (rd S4 39 (0 : Int32).toNatClampNeg) S4 h
    · have h := ite_n c5 h
      refine v_iconst (v := 1) C dX2_begin_63 (by decide) (n := 64) rfl ?_
      refine v_goto C dX2_begin_64 (n := 68) (by decide) ?_
      refine v_sub [0, 1] rfl ?_
      exact t_X2_begin_68 C hk9 x1 1 x1 (rd S4 39 (0 : Int32).toNatClampNeg) S4 h
theorem tg_X2_begin_9 {x : Ctx} (C : Cx x WX cX2_begin RX2 2 rm_X2_begin none) {res : St}  : ∀ (n : Nat) (x1 : Int32) (S : St), g_X2_begin_9  n x1 S = some res → V x WX 2 (QV x WX res) S 9 [(0, .ref (xq x 32)), (1, .int x1)] [] := by
  intro n
  induction n with
  | zero => intro x1 S h; cases h
  | succ n ih => intro x1 S h; exact t_X2_begin_9 C (fun x1 S h => ih x1 S h) x1 S h
set_option maxRecDepth 20000 in
set_option maxHeartbeats 2000000 in
theorem t_X2_begin_0 {x : Ctx} (C : Cx x WX cX2_begin RX2 2 rm_X2_begin none) {res : St}   (S : St) (h : f_X2_begin_0   S = some res) : V x WX 2 (QV x WX res) S 0 [(0, .ref (xq x 32))] [] := by
  unfold f_X2_begin_0 at h
  refine v_aload_n C 0 dX2_begin_0 rfl rfl (n := 1) rfl ?_
  refine g_X2_unsure C w_6_22 dX2_begin_1 (n := 4) rfl ?_
  refine v_iconst (v := 0) C dX2_begin_4 (by decide) (n := 5) rfl ?_
  refine v_iconst (v := 0) C dX2_begin_5 (by decide) (n := 6) rfl ?_
  obtain ⟨S1, eS1, h⟩ := lt_e h
  refine v_ast C aX_39 (show vp_in 0 6 by unfold vp_in; decide) dX2_begin_6 (n := 7) rfl eS1 ?_
  refine v_iconst (v := 0) C dX2_begin_7 (by decide) (n := 8) rfl ?_
  refine v_istore_n (L' := [(1, .int 0), (0, .ref (xq x 32))]) C dX2_begin_8 rfl (by decide) rfl (n := 9) rfl rfl ?_
  refine v_sub [1, 0] rfl ?_
  exact tg_X2_begin_9 C  fuel 0 S1 h
theorem c_X2_begin {l : Launch} {D : va_G} {q : Nat → Nat} {ar : Ar}  (S : St) {res : St} (h : m_X2_begin  S = some res) : MetV l D q ar WX yX2_begin cX2_begin 2 none rm_X2_begin [.ref (q 32)] S res := by
  refine metV_of adrX (by decide +kernel) (Nat.le_of_ble_eq_true rfl) (fun x e1 e2 e3 e4 C => ?_)
  subst e1; subst e2; subst e3; subst e4
  exact v_sub [0] rfl (t_X2_begin_0 C  S h)
theorem mf_X2_begin : CalV yX2_begin cX2_begin 2 none RX2 0 := ⟨w_31_11, w_31_9, w_31_10, w_3_0, rfl, by decide +kernel, by decide +kernel, by decide +kernel⟩
/-! LabyrinthGarden$Homer.makeTurn -/
def f_X2_makeTurn_244 (k143 : Int32 → Int32 → Int32 → Int32 → St → Option (St)) (x1 : Int32) (x2 : Int32) (x3 : Int32) (x5 : Int32) (s0 : Int32) (s1 : Int32) (s2 : Int32) (s3 : Int32) (S : St) : Option (St) :=
  bI (m_X9_withBit s2 s1 s0 S) fun r2 S1 =>
  ck s3 6 <|
  lt (up S1 39 s3.toNatClampNeg r2) fun S4 =>
  lt (x5 + 1 : Int32) fun y5 =>
  k143 x1 x2 x3 y5 S4
def f_X2_makeTurn_143 (k143 : Int32 → Int32 → Int32 → Int32 → St → Option (St)) (x1 : Int32) (x2 : Int32) (x3 : Int32) (x5 : Int32) (S : St) : Option (St) :=
  if (rd S 6 2) ≤ x5 then (
    some S)
  else (
    ck x1 6 <|
    bI (m_X9_hasBit (rd S 39 x1.toNatClampNeg) x5 S) fun r4 S3 =>
    if r4 = 0 then (
      lt (x5 + 1 : Int32) fun y6 =>
      k143 x1 x2 x3 y6 S3)
    else (
      ck (x2 + x5) 144 <|
      ck (x3 + x5) 144 <|
      bI (m_X0_endsAt (rd S3 37 (x3 + x5).toNatClampNeg) S3) fun r10 S9 =>
      ck r10 7 <|
      lt (((rd S3 38 (x2 + x5).toNatClampNeg) &&& (rd S9 40 r10.toNatClampNeg)) : Int32) fun y12 =>
      lt (up S9 38 (x3 + x5).toNatClampNeg y12) fun S13 =>
      ck (x1 + 1) 6 <|
      if y12 = (shl 1 x5) then (
        f_X2_makeTurn_244 k143 x1 x2 x3 x5 0 x5 (rd S13 39 (x1 + 1).toNatClampNeg) (x1 + 1) S13)
      else (
        f_X2_makeTurn_244 k143 x1 x2 x3 x5 1 x5 (rd S13 39 (x1 + 1).toNatClampNeg) (x1 + 1) S13)))
def g_X2_makeTurn_143  : Nat → Int32 → Int32 → Int32 → Int32 → St → Option (St)
  | 0 => fun _ _ _ _ _ => none
  | n + 1 => f_X2_makeTurn_143 (g_X2_makeTurn_143  n)
def f_X2_makeTurn_48 (k48 : Int32 → Int32 → Int32 → Int32 → Int32 → St → Option (St)) (x1 : Int32) (x2 : Int32) (x3 : Int32) (x4 : Int32) (x5 : Int32) (S : St) : Option (St) :=
  if (rd S 6 2) ≤ x5 then (
    ck (x1 + 1) 6 <|
    lt (up S 39 (x1 + 1).toNatClampNeg 0) fun S3 =>
    g_X2_makeTurn_143  fuel x1 x2 x3 0 S3)
  else (
    ck x1 6 <|
    bI (m_X9_hasBit (rd S 39 x1.toNatClampNeg) x5 S) fun r6 S5 =>
    if r6 = 0 then (
      lt (x5 + 1 : Int32) fun y8 =>
      k48 x1 x2 x3 x4 y8 S5)
    else (
      ck (x2 + x5) 144 <|
      ck (x4 + (rd S5 37 (x2 + x5).toNatClampNeg)) 144 <|
      lt ((rd S5 34 (x4 + (rd S5 37 (x2 + x5).toNatClampNeg)).toNatClampNeg) : Int32) fun y11 =>
      ck (x3 + x5) 144 <|
      lt (up S5 37 (x3 + x5).toNatClampNeg y11) fun S13 =>
      bI (m_X0_endsAt y11 S13) fun r15 S14 =>
      ck r15 7 <|
      lt (up S14 40 r15.toNatClampNeg ((rd S14 40 r15.toNatClampNeg) ||| (shl 1 x5))) fun S17 =>
      lt (x5 + 1 : Int32) fun y18 =>
      k48 x1 x2 x3 x4 y18 S17))
def g_X2_makeTurn_48  : Nat → Int32 → Int32 → Int32 → Int32 → Int32 → St → Option (St)
  | 0 => fun _ _ _ _ _ _ => none
  | n + 1 => f_X2_makeTurn_48 (g_X2_makeTurn_48  n)
def f_X2_makeTurn_24 (k24 : Int32 → Int32 → Int32 → Int32 → Int32 → St → Option (St)) (x1 : Int32) (x2 : Int32) (x3 : Int32) (x4 : Int32) (x5 : Int32) (S : St) : Option (St) :=
  if 6 < x5 then (
    g_X2_makeTurn_48  fuel x1 x2 x3 x4 0 S)
  else (
    ck x5 7 <|
    lt (up S 40 x5.toNatClampNeg 0) fun S3 =>
    lt (x5 + 1 : Int32) fun y4 =>
    k24 x1 x2 x3 x4 y4 S3)
def g_X2_makeTurn_24  : Nat → Int32 → Int32 → Int32 → Int32 → Int32 → St → Option (St)
  | 0 => fun _ _ _ _ _ _ => none
  | n + 1 => f_X2_makeTurn_24 (g_X2_makeTurn_24  n)
def f_X2_makeTurn_0  (x1 : Int32) (S : St) : Option (St) :=
  lt ((x1 * 24) : Int32) fun y1 =>
  lt ((y1 + 24) : Int32) fun y2 =>
  ck x1 5 <|
  lt (((rd S 35 x1.toNatClampNeg) * 24) : Int32) fun y4 =>
  g_X2_makeTurn_24  fuel x1 y1 y2 y4 0 S
def m_X2_makeTurn (a1 : Int32) (S : St) : Option (St) := f_X2_makeTurn_0 a1 S
def rm_X2_makeTurn : Room := { frames := 1, cells := 0, slots := 0, locals := 22 }
set_option maxRecDepth 20000 in
set_option maxHeartbeats 2000000 in
theorem t_X2_makeTurn_244 {x : Ctx} (C : Cx x WX cX2_makeTurn RX2 7 rm_X2_makeTurn none) {res : St} {k143 : Int32 → Int32 → Int32 → Int32 → St → Option (St)} (hk143 : ∀ (x1 : Int32) (x2 : Int32) (x3 : Int32) (x5 : Int32) (S : St), k143 x1 x2 x3 x5 S = some res → V x WX 7 (QV x WX res) S 143 [(0, .ref (xq x 32)), (1, .int x1), (2, .int x2), (3, .int x3), (5, .int x5)] []) (x1 : Int32) (x2 : Int32) (x3 : Int32) (x5 : Int32) (s0 : Int32) (s1 : Int32) (s2 : Int32) (s3 : Int32) (S : St) (h : f_X2_makeTurn_244 k143 x1 x2 x3 x5 s0 s1 s2 s3 S = some res) : V x WX 7 (QV x WX res) S 244 [(0, .ref (xq x 32)), (1, .int x1), (2, .int x2), (3, .int x3), (5, .int x5)] [.int s0, .int s1, .int s2, .int s3, .ref (xq x 39)] := by
  unfold f_X2_makeTurn_244 at h
  obtain ⟨r2, S1, eS1, h⟩ := bI_e h
  refine v_callNI (As := [.int s2, .int s1, .int s0]) C (c_X9_withBit s2 s1 s0 S eS1) mf_X9_withBit (List.mem_of_getElem? (i := 15) rfl : (RX2, 106, yX9_withBit, RX9) ∈ nestW) ⟨rfl, rfl, by decide, by decide⟩ rfl rfl (Nat.le_of_ble_eq_true rfl) dX2_makeTurn_244 (n := 247) rfl ?_
  obtain ⟨hi3, h⟩ := ck_e h
  obtain ⟨S4, eS4, h⟩ := lt_e h
  refine v_ast C aX_39 hi3 dX2_makeTurn_247 (n := 248) rfl eS4 ?_
  obtain ⟨y5, ey5, h⟩ := lt_e h
  refine v_iinc (L' := [(5, .int y5), (0, .ref (xq x 32)), (1, .int x1), (2, .int x2), (3, .int x3)]) C 4 dX2_makeTurn_248 rfl (by rw [ey5]; rfl) (by decide) rfl (n := 251) rfl ?_
  refine v_goto C dX2_makeTurn_251 (n := 143) (by decide) ?_
  refine v_sub [1, 2, 3, 4, 0] rfl ?_
  exact hk143 x1 x2 x3 y5 S4 h
set_option maxRecDepth 20000 in
set_option maxHeartbeats 2000000 in
theorem t_X2_makeTurn_143 {x : Ctx} (C : Cx x WX cX2_makeTurn RX2 7 rm_X2_makeTurn none) {res : St} {k143 : Int32 → Int32 → Int32 → Int32 → St → Option (St)} (hk143 : ∀ (x1 : Int32) (x2 : Int32) (x3 : Int32) (x5 : Int32) (S : St), k143 x1 x2 x3 x5 S = some res → V x WX 7 (QV x WX res) S 143 [(0, .ref (xq x 32)), (1, .int x1), (2, .int x2), (3, .int x3), (5, .int x5)] []) (x1 : Int32) (x2 : Int32) (x3 : Int32) (x5 : Int32) (S : St) (h : f_X2_makeTurn_143 k143 x1 x2 x3 x5 S = some res) : V x WX 7 (QV x WX res) S 143 [(0, .ref (xq x 32)), (1, .int x1), (2, .int x2), (3, .int x3), (5, .int x5)] [] := by
  unfold f_X2_makeTurn_143 at h
  refine v_iload C 4 dX2_makeTurn_143 rfl (n := 145) rfl ?_
  refine v_aload_n C 0 dX2_makeTurn_145 rfl rfl (n := 146) rfl ?_
  refine g_X2_garden C w_7_0 dX2_makeTurn_146 (n := 149) rfl ?_
  refine g_X0_places C w_30_6 dX2_makeTurn_149 (n := 152) rfl ?_
  refine v_icmp_ge C dX2_makeTurn_152 (t := 254) (by decide) (n := 155) rfl (fun c1 => ?_) (fun c1 => ?_)
  · have h := ite_p c1 h
    obtain rfl := Option.some.inj h
    exact v_ret C dX2_makeTurn_254
  · have h := ite_n c1 h
    refine v_aload_n C 0 dX2_makeTurn_155 rfl rfl (n := 156) rfl ?_
    refine g_X2_unsure C w_6_22 dX2_makeTurn_156 (n := 159) rfl ?_
    refine v_iload_n C 1 dX2_makeTurn_159 rfl rfl (n := 160) rfl ?_
    obtain ⟨hi2, h⟩ := ck_e h
    refine v_ald C aX_39 hi2 dX2_makeTurn_160 (n := 161) rfl ?_
    refine v_iload C 4 dX2_makeTurn_161 rfl (n := 163) rfl ?_
    obtain ⟨r4, S3, eS3, h⟩ := bI_e h
    refine v_callNI (As := [.int (rd S 39 x1.toNatClampNeg), .int x5]) C (c_X9_hasBit (rd S 39 x1.toNatClampNeg) x5 S eS3) mf_X9_hasBit (List.mem_of_getElem? (i := 14) rfl : (RX2, 98, yX9_hasBit, RX9) ∈ nestW) ⟨rfl, rfl, by decide, by decide⟩ rfl rfl (Nat.le_of_ble_eq_true rfl) dX2_makeTurn_163 (n := 166) rfl ?_
    refine v_if_eq C dX2_makeTurn_166 (t := 248) (by decide) (n := 169) rfl (fun c5 => ?_) (fun c5 => ?_)
    · have h := ite_p c5 h
      obtain ⟨y6, ey6, h⟩ := lt_e h
      refine v_iinc (L' := [(5, .int y6), (0, .ref (xq x 32)), (1, .int x1), (2, .int x2), (3, .int x3)]) C 4 dX2_makeTurn_248 rfl (by rw [ey6]; rfl) (by decide) rfl (n := 251) rfl ?_
      refine v_goto C dX2_makeTurn_251 (n := 143) (by decide) ?_
      refine v_sub [1, 2, 3, 4, 0] rfl ?_
      exact hk143 x1 x2 x3 y6 S3 h
    · have h := ite_n c5 h
      refine v_aload_n C 0 dX2_makeTurn_169 rfl rfl (n := 170) rfl ?_
      refine g_X2_alike C w_6_21 dX2_makeTurn_170 (n := 173) rfl ?_
      refine v_iload_n C 2 dX2_makeTurn_173 rfl rfl (n := 174) rfl ?_
      refine v_iload C 4 dX2_makeTurn_174 rfl (n := 176) rfl ?_
      refine v_iadd C dX2_makeTurn_176 (n := 177) rfl ?_
      obtain ⟨hi7, h⟩ := ck_e h
      refine v_ald C aX_38 hi7 dX2_makeTurn_177 (n := 178) rfl ?_
      refine v_aload_n C 0 dX2_makeTurn_178 rfl rfl (n := 179) rfl ?_
      refine g_X2_seen C w_6_23 dX2_makeTurn_179 (n := 182) rfl ?_
      refine v_aload_n C 0 dX2_makeTurn_182 rfl rfl (n := 183) rfl ?_
      refine g_X2_garden C w_7_0 dX2_makeTurn_183 (n := 186) rfl ?_
      refine v_aload_n C 0 dX2_makeTurn_186 rfl rfl (n := 187) rfl ?_
      refine g_X2_at C w_6_20 dX2_makeTurn_187 (n := 190) rfl ?_
      refine v_iload_n C 3 dX2_makeTurn_190 rfl rfl (n := 191) rfl ?_
      refine v_iload C 4 dX2_makeTurn_191 rfl (n := 193) rfl ?_
      refine v_iadd C dX2_makeTurn_193 (n := 194) rfl ?_
      obtain ⟨hi8, h⟩ := ck_e h
      refine v_ald C aX_37 hi8 dX2_makeTurn_194 (n := 195) rfl ?_
      obtain ⟨r10, S9, eS9, h⟩ := bI_e h
      refine v_callVI (As := [.int (rd S3 37 (x3 + x5).toNatClampNeg)]) C (c_X0_endsAt (rd S3 37 (x3 + x5).toNatClampNeg) S3 eS9) mf_X0_endsAt w_30_18 (oX0 _ _ _) rfl ⟨rfl, rfl, by decide, by decide⟩ rfl rfl (Nat.le_of_ble_eq_true rfl) dX2_makeTurn_195 (n := 198) rfl ?_
      obtain ⟨hi11, h⟩ := ck_e h
      refine v_ald C aX_40 hi11 dX2_makeTurn_198 (n := 199) rfl ?_
      refine v_iand C dX2_makeTurn_199 (n := 200) rfl ?_
      obtain ⟨y12, ey12, h⟩ := lt_e h
      refine v_istore (L' := [(6, .int y12), (0, .ref (xq x 32)), (1, .int x1), (2, .int x2), (3, .int x3), (5, .int x5)]) C dX2_makeTurn_200 (by decide) rfl (n := 202) rfl ey12 ?_
      refine v_aload_n C 1 dX2_makeTurn_202 rfl rfl (n := 203) rfl ?_
      refine g_X2_alike C w_6_21 dX2_makeTurn_203 (n := 206) rfl ?_
      refine v_iload_n C 4 dX2_makeTurn_206 rfl rfl (n := 207) rfl ?_
      refine v_iload C 5 dX2_makeTurn_207 rfl (n := 209) rfl ?_
      refine v_iadd C dX2_makeTurn_209 (n := 210) rfl ?_
      refine v_iload C 0 dX2_makeTurn_210 rfl (n := 212) rfl ?_
      obtain ⟨S13, eS13, h⟩ := lt_e h
      refine v_ast C aX_38 hi8 dX2_makeTurn_212 (n := 213) rfl eS13 ?_
      refine v_aload_n C 1 dX2_makeTurn_213 rfl rfl (n := 214) rfl ?_
      refine g_X2_unsure C w_6_22 dX2_makeTurn_214 (n := 217) rfl ?_
      refine v_iload_n C 2 dX2_makeTurn_217 rfl rfl (n := 218) rfl ?_
      refine v_iconst (v := 1) C dX2_makeTurn_218 (by decide) (n := 219) rfl ?_
      refine v_iadd C dX2_makeTurn_219 (n := 220) rfl ?_
      refine v_aload_n C 1 dX2_makeTurn_220 rfl rfl (n := 221) rfl ?_
      refine g_X2_unsure C w_6_22 dX2_makeTurn_221 (n := 224) rfl ?_
      refine v_iload_n C 2 dX2_makeTurn_224 rfl rfl (n := 225) rfl ?_
      refine v_iconst (v := 1) C dX2_makeTurn_225 (by decide) (n := 226) rfl ?_
      refine v_iadd C dX2_makeTurn_226 (n := 227) rfl ?_
      obtain ⟨hi14, h⟩ := ck_e h
      refine v_ald C aX_39 hi14 dX2_makeTurn_227 (n := 228) rfl ?_
      refine v_iload C 5 dX2_makeTurn_228 rfl (n := 230) rfl ?_
      refine v_iload C 0 dX2_makeTurn_230 rfl (n := 232) rfl ?_
      refine v_iconst (v := 1) C dX2_makeTurn_232 (by decide) (n := 233) rfl ?_
      refine v_iload C 5 dX2_makeTurn_233 rfl (n := 235) rfl ?_
      refine v_ishl C dX2_makeTurn_235 (n := 236) rfl ?_
      refine v_icmp_eq C dX2_makeTurn_236 (t := 243) (by decide) (n := 239) rfl (fun c15 => ?_) (fun c15 => ?_)
      · have h := ite_p c15 h
        refine v_iconst (v := 0) C dX2_makeTurn_243 (by decide) (n := 244) rfl ?_
        refine v_sub [1, 2, 3, 4, 5] rfl ?_
        exact t_X2_makeTurn_244 C hk143 x1 x2 x3 x5 0 x5 (rd S13 39 (x1 + 1).toNatClampNeg) (x1 + 1) S13 h
      · have h := ite_n c15 h
        refine v_iconst (v := 1) C dX2_makeTurn_239 (by decide) (n := 240) rfl ?_
        refine v_goto C dX2_makeTurn_240 (n := 244) (by decide) ?_
        refine v_sub [1, 2, 3, 4, 5] rfl ?_
        exact t_X2_makeTurn_244 C hk143 x1 x2 x3 x5 1 x5 (rd S13 39 (x1 + 1).toNatClampNeg) (x1 + 1) S13 h
theorem tg_X2_makeTurn_143 {x : Ctx} (C : Cx x WX cX2_makeTurn RX2 7 rm_X2_makeTurn none) {res : St}  : ∀ (n : Nat) (x1 : Int32) (x2 : Int32) (x3 : Int32) (x5 : Int32) (S : St), g_X2_makeTurn_143  n x1 x2 x3 x5 S = some res → V x WX 7 (QV x WX res) S 143 [(0, .ref (xq x 32)), (1, .int x1), (2, .int x2), (3, .int x3), (5, .int x5)] [] := by
  intro n
  induction n with
  | zero => intro x1 x2 x3 x5 S h; cases h
  | succ n ih => intro x1 x2 x3 x5 S h; exact t_X2_makeTurn_143 C (fun x1 x2 x3 x5 S h => ih x1 x2 x3 x5 S h) x1 x2 x3 x5 S h
set_option maxRecDepth 20000 in
set_option maxHeartbeats 2000000 in
theorem t_X2_makeTurn_48 {x : Ctx} (C : Cx x WX cX2_makeTurn RX2 7 rm_X2_makeTurn none) {res : St} {k48 : Int32 → Int32 → Int32 → Int32 → Int32 → St → Option (St)} (hk48 : ∀ (x1 : Int32) (x2 : Int32) (x3 : Int32) (x4 : Int32) (x5 : Int32) (S : St), k48 x1 x2 x3 x4 x5 S = some res → V x WX 7 (QV x WX res) S 48 [(0, .ref (xq x 32)), (1, .int x1), (2, .int x2), (3, .int x3), (4, .int x4), (5, .int x5)] []) (x1 : Int32) (x2 : Int32) (x3 : Int32) (x4 : Int32) (x5 : Int32) (S : St) (h : f_X2_makeTurn_48 k48 x1 x2 x3 x4 x5 S = some res) : V x WX 7 (QV x WX res) S 48 [(0, .ref (xq x 32)), (1, .int x1), (2, .int x2), (3, .int x3), (4, .int x4), (5, .int x5)] [] := by
  unfold f_X2_makeTurn_48 at h
  refine v_iload C 5 dX2_makeTurn_48 rfl (n := 50) rfl ?_
  refine v_aload_n C 0 dX2_makeTurn_50 rfl rfl (n := 51) rfl ?_
  refine g_X2_garden C w_7_0 dX2_makeTurn_51 (n := 54) rfl ?_
  refine g_X0_places C w_30_6 dX2_makeTurn_54 (n := 57) rfl ?_
  refine v_icmp_ge C dX2_makeTurn_57 (t := 131) (by decide) (n := 60) rfl (fun c1 => ?_) (fun c1 => ?_)
  · have h := ite_p c1 h
    refine v_aload_n C 0 dX2_makeTurn_131 rfl rfl (n := 132) rfl ?_
    refine g_X2_unsure C w_6_22 dX2_makeTurn_132 (n := 135) rfl ?_
    refine v_iload_n C 1 dX2_makeTurn_135 rfl rfl (n := 136) rfl ?_
    refine v_iconst (v := 1) C dX2_makeTurn_136 (by decide) (n := 137) rfl ?_
    refine v_iadd C dX2_makeTurn_137 (n := 138) rfl ?_
    refine v_iconst (v := 0) C dX2_makeTurn_138 (by decide) (n := 139) rfl ?_
    obtain ⟨hi2, h⟩ := ck_e h
    obtain ⟨S3, eS3, h⟩ := lt_e h
    refine v_ast C aX_39 hi2 dX2_makeTurn_139 (n := 140) rfl eS3 ?_
    refine v_iconst (v := 0) C dX2_makeTurn_140 (by decide) (n := 141) rfl ?_
    refine v_istore (L' := [(5, .int 0), (0, .ref (xq x 32)), (1, .int x1), (2, .int x2), (3, .int x3), (4, .int x4)]) C dX2_makeTurn_141 (by decide) rfl (n := 143) rfl rfl ?_
    refine v_sub [1, 2, 3, 4, 0] rfl ?_
    exact tg_X2_makeTurn_143 C  fuel x1 x2 x3 0 S3 h
  · have h := ite_n c1 h
    refine v_aload_n C 0 dX2_makeTurn_60 rfl rfl (n := 61) rfl ?_
    refine g_X2_unsure C w_6_22 dX2_makeTurn_61 (n := 64) rfl ?_
    refine v_iload_n C 1 dX2_makeTurn_64 rfl rfl (n := 65) rfl ?_
    obtain ⟨hi4, h⟩ := ck_e h
    refine v_ald C aX_39 hi4 dX2_makeTurn_65 (n := 66) rfl ?_
    refine v_iload C 5 dX2_makeTurn_66 rfl (n := 68) rfl ?_
    obtain ⟨r6, S5, eS5, h⟩ := bI_e h
    refine v_callNI (As := [.int (rd S 39 x1.toNatClampNeg), .int x5]) C (c_X9_hasBit (rd S 39 x1.toNatClampNeg) x5 S eS5) mf_X9_hasBit (List.mem_of_getElem? (i := 14) rfl : (RX2, 98, yX9_hasBit, RX9) ∈ nestW) ⟨rfl, rfl, by decide, by decide⟩ rfl rfl (Nat.le_of_ble_eq_true rfl) dX2_makeTurn_68 (n := 71) rfl ?_
    refine v_if_eq C dX2_makeTurn_71 (t := 125) (by decide) (n := 74) rfl (fun c7 => ?_) (fun c7 => ?_)
    · have h := ite_p c7 h
      obtain ⟨y8, ey8, h⟩ := lt_e h
      refine v_iinc (L' := [(5, .int y8), (0, .ref (xq x 32)), (1, .int x1), (2, .int x2), (3, .int x3), (4, .int x4)]) C 5 dX2_makeTurn_125 rfl (by rw [ey8]; rfl) (by decide) rfl (n := 128) rfl ?_
      refine v_goto C dX2_makeTurn_128 (n := 48) (by decide) ?_
      refine v_sub [1, 2, 3, 4, 5, 0] rfl ?_
      exact hk48 x1 x2 x3 x4 y8 S5 h
    · have h := ite_n c7 h
      refine v_aload_n C 0 dX2_makeTurn_74 rfl rfl (n := 75) rfl ?_
      refine g_X2_beyond C w_6_17 dX2_makeTurn_75 (n := 78) rfl ?_
      refine v_iload C 4 dX2_makeTurn_78 rfl (n := 80) rfl ?_
      refine v_aload_n C 0 dX2_makeTurn_80 rfl rfl (n := 81) rfl ?_
      refine g_X2_at C w_6_20 dX2_makeTurn_81 (n := 84) rfl ?_
      refine v_iload_n C 2 dX2_makeTurn_84 rfl rfl (n := 85) rfl ?_
      refine v_iload C 5 dX2_makeTurn_85 rfl (n := 87) rfl ?_
      refine v_iadd C dX2_makeTurn_87 (n := 88) rfl ?_
      obtain ⟨hi9, h⟩ := ck_e h
      refine v_ald C aX_37 hi9 dX2_makeTurn_88 (n := 89) rfl ?_
      refine v_iadd C dX2_makeTurn_89 (n := 90) rfl ?_
      obtain ⟨hi10, h⟩ := ck_e h
      refine v_ald C aX_34 hi10 dX2_makeTurn_90 (n := 91) rfl ?_
      obtain ⟨y11, ey11, h⟩ := lt_e h
      refine v_istore (L' := [(6, .int y11), (0, .ref (xq x 32)), (1, .int x1), (2, .int x2), (3, .int x3), (4, .int x4), (5, .int x5)]) C dX2_makeTurn_91 (by decide) rfl (n := 93) rfl ey11 ?_
      refine v_aload_n C 1 dX2_makeTurn_93 rfl rfl (n := 94) rfl ?_
      refine g_X2_at C w_6_20 dX2_makeTurn_94 (n := 97) rfl ?_
      refine v_iload_n C 4 dX2_makeTurn_97 rfl rfl (n := 98) rfl ?_
      refine v_iload C 6 dX2_makeTurn_98 rfl (n := 100) rfl ?_
      refine v_iadd C dX2_makeTurn_100 (n := 101) rfl ?_
      refine v_iload C 0 dX2_makeTurn_101 rfl (n := 103) rfl ?_
      obtain ⟨hi12, h⟩ := ck_e h
      obtain ⟨S13, eS13, h⟩ := lt_e h
      refine v_ast C aX_37 hi12 dX2_makeTurn_103 (n := 104) rfl eS13 ?_
      refine v_aload_n C 1 dX2_makeTurn_104 rfl rfl (n := 105) rfl ?_
      refine g_X2_seen C w_6_23 dX2_makeTurn_105 (n := 108) rfl ?_
      refine v_aload_n C 1 dX2_makeTurn_108 rfl rfl (n := 109) rfl ?_
      refine g_X2_garden C w_7_0 dX2_makeTurn_109 (n := 112) rfl ?_
      refine v_iload C 0 dX2_makeTurn_112 rfl (n := 114) rfl ?_
      obtain ⟨r15, S14, eS14, h⟩ := bI_e h
      refine v_callVI (As := [.int y11]) C (c_X0_endsAt y11 S13 eS14) mf_X0_endsAt w_30_18 (oX0 _ _ _) rfl ⟨rfl, rfl, by decide, by decide⟩ rfl rfl (Nat.le_of_ble_eq_true rfl) dX2_makeTurn_114 (n := 117) rfl ?_
      refine v_dup2 C dX2_makeTurn_117 rfl rfl (n := 118) rfl ?_
      obtain ⟨hi16, h⟩ := ck_e h
      refine v_ald C aX_40 hi16 dX2_makeTurn_118 (n := 119) rfl ?_
      refine v_iconst (v := 1) C dX2_makeTurn_119 (by decide) (n := 120) rfl ?_
      refine v_iload C 6 dX2_makeTurn_120 rfl (n := 122) rfl ?_
      refine v_ishl C dX2_makeTurn_122 (n := 123) rfl ?_
      refine v_ior C dX2_makeTurn_123 (n := 124) rfl ?_
      obtain ⟨S17, eS17, h⟩ := lt_e h
      refine v_ast C aX_40 hi16 dX2_makeTurn_124 (n := 125) rfl eS17 ?_
      obtain ⟨y18, ey18, h⟩ := lt_e h
      refine v_iinc (L' := [(5, .int y18), (6, .int y11), (0, .ref (xq x 32)), (1, .int x1), (2, .int x2), (3, .int x3), (4, .int x4)]) C 6 dX2_makeTurn_125 rfl (by rw [ey18]; rfl) (by decide) rfl (n := 128) rfl ?_
      refine v_goto C dX2_makeTurn_128 (n := 48) (by decide) ?_
      refine v_sub [2, 3, 4, 5, 6, 0] rfl ?_
      exact hk48 x1 x2 x3 x4 y18 S17 h
theorem tg_X2_makeTurn_48 {x : Ctx} (C : Cx x WX cX2_makeTurn RX2 7 rm_X2_makeTurn none) {res : St}  : ∀ (n : Nat) (x1 : Int32) (x2 : Int32) (x3 : Int32) (x4 : Int32) (x5 : Int32) (S : St), g_X2_makeTurn_48  n x1 x2 x3 x4 x5 S = some res → V x WX 7 (QV x WX res) S 48 [(0, .ref (xq x 32)), (1, .int x1), (2, .int x2), (3, .int x3), (4, .int x4), (5, .int x5)] [] := by
  intro n
  induction n with
  | zero => intro x1 x2 x3 x4 x5 S h; cases h
  | succ n ih => intro x1 x2 x3 x4 x5 S h; exact t_X2_makeTurn_48 C (fun x1 x2 x3 x4 x5 S h => ih x1 x2 x3 x4 x5 S h) x1 x2 x3 x4 x5 S h
set_option maxRecDepth 20000 in
set_option maxHeartbeats 2000000 in
theorem t_X2_makeTurn_24 {x : Ctx} (C : Cx x WX cX2_makeTurn RX2 7 rm_X2_makeTurn none) {res : St} {k24 : Int32 → Int32 → Int32 → Int32 → Int32 → St → Option (St)} (hk24 : ∀ (x1 : Int32) (x2 : Int32) (x3 : Int32) (x4 : Int32) (x5 : Int32) (S : St), k24 x1 x2 x3 x4 x5 S = some res → V x WX 7 (QV x WX res) S 24 [(0, .ref (xq x 32)), (1, .int x1), (2, .int x2), (3, .int x3), (4, .int x4), (5, .int x5)] []) (x1 : Int32) (x2 : Int32) (x3 : Int32) (x4 : Int32) (x5 : Int32) (S : St) (h : f_X2_makeTurn_24 k24 x1 x2 x3 x4 x5 S = some res) : V x WX 7 (QV x WX res) S 24 [(0, .ref (xq x 32)), (1, .int x1), (2, .int x2), (3, .int x3), (4, .int x4), (5, .int x5)] [] := by
  unfold f_X2_makeTurn_24 at h
  refine v_iload C 5 dX2_makeTurn_24 rfl (n := 26) rfl ?_
  refine v_bipush (v := 6) C dX2_makeTurn_26 (by decide) (n := 28) rfl ?_
  refine v_icmp_gt C dX2_makeTurn_28 (t := 45) (by decide) (n := 31) rfl (fun c1 => ?_) (fun c1 => ?_)
  · have h := ite_p c1 h
    refine v_iconst (v := 0) C dX2_makeTurn_45 (by decide) (n := 46) rfl ?_
    refine v_istore (L' := [(5, .int 0), (0, .ref (xq x 32)), (1, .int x1), (2, .int x2), (3, .int x3), (4, .int x4)]) C dX2_makeTurn_46 (by decide) rfl (n := 48) rfl rfl ?_
    refine v_sub [1, 2, 3, 4, 5, 0] rfl ?_
    exact tg_X2_makeTurn_48 C  fuel x1 x2 x3 x4 0 S h
  · have h := ite_n c1 h
    refine v_aload_n C 0 dX2_makeTurn_31 rfl rfl (n := 32) rfl ?_
    refine g_X2_seen C w_6_23 dX2_makeTurn_32 (n := 35) rfl ?_
    refine v_iload C 5 dX2_makeTurn_35 rfl (n := 37) rfl ?_
    refine v_iconst (v := 0) C dX2_makeTurn_37 (by decide) (n := 38) rfl ?_
    obtain ⟨hi2, h⟩ := ck_e h
    obtain ⟨S3, eS3, h⟩ := lt_e h
    refine v_ast C aX_40 hi2 dX2_makeTurn_38 (n := 39) rfl eS3 ?_
    obtain ⟨y4, ey4, h⟩ := lt_e h
    refine v_iinc (L' := [(5, .int y4), (0, .ref (xq x 32)), (1, .int x1), (2, .int x2), (3, .int x3), (4, .int x4)]) C 5 dX2_makeTurn_39 rfl (by rw [ey4]; rfl) (by decide) rfl (n := 42) rfl ?_
    refine v_goto C dX2_makeTurn_42 (n := 24) (by decide) ?_
    refine v_sub [1, 2, 3, 4, 5, 0] rfl ?_
    exact hk24 x1 x2 x3 x4 y4 S3 h
theorem tg_X2_makeTurn_24 {x : Ctx} (C : Cx x WX cX2_makeTurn RX2 7 rm_X2_makeTurn none) {res : St}  : ∀ (n : Nat) (x1 : Int32) (x2 : Int32) (x3 : Int32) (x4 : Int32) (x5 : Int32) (S : St), g_X2_makeTurn_24  n x1 x2 x3 x4 x5 S = some res → V x WX 7 (QV x WX res) S 24 [(0, .ref (xq x 32)), (1, .int x1), (2, .int x2), (3, .int x3), (4, .int x4), (5, .int x5)] [] := by
  intro n
  induction n with
  | zero => intro x1 x2 x3 x4 x5 S h; cases h
  | succ n ih => intro x1 x2 x3 x4 x5 S h; exact t_X2_makeTurn_24 C (fun x1 x2 x3 x4 x5 S h => ih x1 x2 x3 x4 x5 S h) x1 x2 x3 x4 x5 S h
set_option maxRecDepth 20000 in
set_option maxHeartbeats 2000000 in
theorem t_X2_makeTurn_0 {x : Ctx} (C : Cx x WX cX2_makeTurn RX2 7 rm_X2_makeTurn none) {res : St}  (x1 : Int32) (S : St) (h : f_X2_makeTurn_0  x1 S = some res) : V x WX 7 (QV x WX res) S 0 [(0, .ref (xq x 32)), (1, .int x1)] [] := by
  unfold f_X2_makeTurn_0 at h
  refine v_iload_n C 1 dX2_makeTurn_0 rfl rfl (n := 1) rfl ?_
  refine v_bipush (v := 24) C dX2_makeTurn_1 (by decide) (n := 3) rfl ?_
  refine v_imul C dX2_makeTurn_3 (n := 4) rfl ?_
  obtain ⟨y1, ey1, h⟩ := lt_e h
  refine v_istore_n (L' := [(2, .int y1), (0, .ref (xq x 32)), (1, .int x1)]) C dX2_makeTurn_4 rfl (by decide) rfl (n := 5) rfl ey1 ?_
  refine v_iload_n C 0 dX2_makeTurn_5 rfl rfl (n := 6) rfl ?_
  refine v_bipush (v := 24) C dX2_makeTurn_6 (by decide) (n := 8) rfl ?_
  refine v_iadd C dX2_makeTurn_8 (n := 9) rfl ?_
  obtain ⟨y2, ey2, h⟩ := lt_e h
  refine v_istore_n (L' := [(3, .int y2), (2, .int y1), (0, .ref (xq x 32)), (1, .int x1)]) C dX2_makeTurn_9 rfl (by decide) rfl (n := 10) rfl ey2 ?_
  refine v_aload_n C 2 dX2_makeTurn_10 rfl rfl (n := 11) rfl ?_
  refine g_X2_turns C w_6_18 dX2_makeTurn_11 (n := 14) rfl ?_
  refine v_iload_n C 3 dX2_makeTurn_14 rfl rfl (n := 15) rfl ?_
  obtain ⟨hi3, h⟩ := ck_e h
  refine v_ald C aX_35 hi3 dX2_makeTurn_15 (n := 16) rfl ?_
  refine v_bipush (v := 24) C dX2_makeTurn_16 (by decide) (n := 18) rfl ?_
  refine v_imul C dX2_makeTurn_18 (n := 19) rfl ?_
  obtain ⟨y4, ey4, h⟩ := lt_e h
  refine v_istore (L' := [(4, .int y4), (3, .int y2), (2, .int y1), (0, .ref (xq x 32)), (1, .int x1)]) C dX2_makeTurn_19 (by decide) rfl (n := 21) rfl ey4 ?_
  refine v_iconst (v := 0) C dX2_makeTurn_21 (by decide) (n := 22) rfl ?_
  refine v_istore (L' := [(5, .int 0), (4, .int y4), (3, .int y2), (2, .int y1), (0, .ref (xq x 32)), (1, .int x1)]) C dX2_makeTurn_22 (by decide) rfl (n := 24) rfl rfl ?_
  refine v_sub [4, 5, 3, 2, 1, 0] rfl ?_
  exact tg_X2_makeTurn_24 C  fuel x1 y1 y2 y4 0 S h
theorem c_X2_makeTurn {l : Launch} {D : va_G} {q : Nat → Nat} {ar : Ar} (a1 : Int32) (S : St) {res : St} (h : m_X2_makeTurn a1 S = some res) : MetV l D q ar WX yX2_makeTurn cX2_makeTurn 7 none rm_X2_makeTurn [.ref (q 32), .int a1] S res := by
  refine metV_of adrX (by decide +kernel) (Nat.le_of_ble_eq_true rfl) (fun x e1 e2 e3 e4 C => ?_)
  subst e1; subst e2; subst e3; subst e4
  exact v_sub [0, 1] rfl (t_X2_makeTurn_0 C a1 S h)
theorem mf_X2_makeTurn : CalV yX2_makeTurn cX2_makeTurn 7 none RX2 1 := ⟨w_31_19, w_31_17, w_31_18, w_3_0, rfl, by decide +kernel, by decide +kernel, by decide +kernel⟩
/-! LabyrinthGarden$Homer.meetsTwin -/
def f_X2_meetsTwin_5 (k5 : Int32 → Int32 → Int32 → Int32 → St → Option (Int32 × St)) (x1 : Int32) (x2 : Int32) (x3 : Int32) (x4 : Int32) (S : St) : Option (Int32 × St) :=
  if (rd S 6 2) ≤ x4 then (
    some (0, S))
  else (
    ck (x1 + x2) 144 <|
    bI (m_X9_hasBit (rd S 38 (x1 + x2).toNatClampNeg) x4 S) fun r4 S3 =>
    if r4 = 0 then (
      lt (x4 + 1 : Int32) fun y6 =>
      k5 x1 x2 x3 y6 S3)
    else (
      ck (x1 + x4) 144 <|
      bI (m_X9_hasBit x3 (rd S3 37 (x1 + x4).toNatClampNeg) S3) fun r9 S8 =>
      if r9 = 0 then (
        lt (x4 + 1 : Int32) fun y11 =>
        k5 x1 x2 x3 y11 S8)
      else (
        some (1, S8))))
def g_X2_meetsTwin_5  : Nat → Int32 → Int32 → Int32 → Int32 → St → Option (Int32 × St)
  | 0 => fun _ _ _ _ _ => none
  | n + 1 => f_X2_meetsTwin_5 (g_X2_meetsTwin_5  n)
def f_X2_meetsTwin_0  (x1 : Int32) (x2 : Int32) (x3 : Int32) (S : St) : Option (Int32 × St) :=
  lt ((x2 + 1) : Int32) fun y1 =>
  g_X2_meetsTwin_5  fuel x1 x2 x3 y1 S
def m_X2_meetsTwin (a1 : Int32) (a2 : Int32) (a3 : Int32) (S : St) : Option (Int32 × St) := f_X2_meetsTwin_0 a1 a2 a3 S
def rm_X2_meetsTwin : Room := { frames := 1, cells := 0, slots := 0, locals := 21 }
set_option maxRecDepth 20000 in
set_option maxHeartbeats 2000000 in
theorem t_X2_meetsTwin_5 {x : Ctx} (C : Cx x WX cX2_meetsTwin RX2 5 rm_X2_meetsTwin (some .boolean)) {res : Int32 × St} {k5 : Int32 → Int32 → Int32 → Int32 → St → Option (Int32 × St)} (hk5 : ∀ (x1 : Int32) (x2 : Int32) (x3 : Int32) (x4 : Int32) (S : St), k5 x1 x2 x3 x4 S = some res → V x WX 5 (QI x WX res) S 5 [(0, .ref (xq x 32)), (1, .int x1), (2, .int x2), (3, .int x3), (4, .int x4)] []) (x1 : Int32) (x2 : Int32) (x3 : Int32) (x4 : Int32) (S : St) (h : f_X2_meetsTwin_5 k5 x1 x2 x3 x4 S = some res) : V x WX 5 (QI x WX res) S 5 [(0, .ref (xq x 32)), (1, .int x1), (2, .int x2), (3, .int x3), (4, .int x4)] [] := by
  unfold f_X2_meetsTwin_5 at h
  refine v_iload C 4 dX2_meetsTwin_5 rfl (n := 7) rfl ?_
  refine v_aload_n C 0 dX2_meetsTwin_7 rfl rfl (n := 8) rfl ?_
  refine g_X2_garden C w_7_0 dX2_meetsTwin_8 (n := 11) rfl ?_
  refine g_X0_places C w_30_6 dX2_meetsTwin_11 (n := 14) rfl ?_
  refine v_icmp_ge C dX2_meetsTwin_14 (t := 57) (by decide) (n := 17) rfl (fun c1 => ?_) (fun c1 => ?_)
  · have h := ite_p c1 h
    refine v_iconst (v := 0) C dX2_meetsTwin_57 (by decide) (n := 58) rfl ?_
    obtain rfl := Option.some.inj h
    exact v_zret C (Or.inl rfl) dX2_meetsTwin_58
  · have h := ite_n c1 h
    refine v_aload_n C 0 dX2_meetsTwin_17 rfl rfl (n := 18) rfl ?_
    refine g_X2_alike C w_6_21 dX2_meetsTwin_18 (n := 21) rfl ?_
    refine v_iload_n C 1 dX2_meetsTwin_21 rfl rfl (n := 22) rfl ?_
    refine v_iload_n C 2 dX2_meetsTwin_22 rfl rfl (n := 23) rfl ?_
    refine v_iadd C dX2_meetsTwin_23 (n := 24) rfl ?_
    obtain ⟨hi2, h⟩ := ck_e h
    refine v_ald C aX_38 hi2 dX2_meetsTwin_24 (n := 25) rfl ?_
    refine v_iload C 4 dX2_meetsTwin_25 rfl (n := 27) rfl ?_
    obtain ⟨r4, S3, eS3, h⟩ := bI_e h
    refine v_callNI (As := [.int (rd S 38 (x1 + x2).toNatClampNeg), .int x4]) C (c_X9_hasBit (rd S 38 (x1 + x2).toNatClampNeg) x4 S eS3) mf_X9_hasBit (List.mem_of_getElem? (i := 14) rfl : (RX2, 98, yX9_hasBit, RX9) ∈ nestW) ⟨rfl, rfl, by decide, by decide⟩ rfl rfl (Nat.le_of_ble_eq_true rfl) dX2_meetsTwin_27 (n := 30) rfl ?_
    refine v_if_eq C dX2_meetsTwin_30 (t := 51) (by decide) (n := 33) rfl (fun c5 => ?_) (fun c5 => ?_)
    · have h := ite_p c5 h
      obtain ⟨y6, ey6, h⟩ := lt_e h
      refine v_iinc (L' := [(4, .int y6), (0, .ref (xq x 32)), (1, .int x1), (2, .int x2), (3, .int x3)]) C 4 dX2_meetsTwin_51 rfl (by rw [ey6]; rfl) (by decide) rfl (n := 54) rfl ?_
      refine v_goto C dX2_meetsTwin_54 (n := 5) (by decide) ?_
      refine v_sub [1, 2, 3, 4, 0] rfl ?_
      exact hk5 x1 x2 x3 y6 S3 h
    · have h := ite_n c5 h
      refine v_iload_n C 3 dX2_meetsTwin_33 rfl rfl (n := 34) rfl ?_
      refine v_aload_n C 0 dX2_meetsTwin_34 rfl rfl (n := 35) rfl ?_
      refine g_X2_at C w_6_20 dX2_meetsTwin_35 (n := 38) rfl ?_
      refine v_iload_n C 1 dX2_meetsTwin_38 rfl rfl (n := 39) rfl ?_
      refine v_iload C 4 dX2_meetsTwin_39 rfl (n := 41) rfl ?_
      refine v_iadd C dX2_meetsTwin_41 (n := 42) rfl ?_
      obtain ⟨hi7, h⟩ := ck_e h
      refine v_ald C aX_37 hi7 dX2_meetsTwin_42 (n := 43) rfl ?_
      obtain ⟨r9, S8, eS8, h⟩ := bI_e h
      refine v_callNI (As := [.int x3, .int (rd S3 37 (x1 + x4).toNatClampNeg)]) C (c_X9_hasBit x3 (rd S3 37 (x1 + x4).toNatClampNeg) S3 eS8) mf_X9_hasBit (List.mem_of_getElem? (i := 14) rfl : (RX2, 98, yX9_hasBit, RX9) ∈ nestW) ⟨rfl, rfl, by decide, by decide⟩ rfl rfl (Nat.le_of_ble_eq_true rfl) dX2_meetsTwin_43 (n := 46) rfl ?_
      refine v_if_eq C dX2_meetsTwin_46 (t := 51) (by decide) (n := 49) rfl (fun c10 => ?_) (fun c10 => ?_)
      · have h := ite_p c10 h
        obtain ⟨y11, ey11, h⟩ := lt_e h
        refine v_iinc (L' := [(4, .int y11), (0, .ref (xq x 32)), (1, .int x1), (2, .int x2), (3, .int x3)]) C 4 dX2_meetsTwin_51 rfl (by rw [ey11]; rfl) (by decide) rfl (n := 54) rfl ?_
        refine v_goto C dX2_meetsTwin_54 (n := 5) (by decide) ?_
        refine v_sub [1, 2, 3, 4, 0] rfl ?_
        exact hk5 x1 x2 x3 y11 S8 h
      · have h := ite_n c10 h
        refine v_iconst (v := 1) C dX2_meetsTwin_49 (by decide) (n := 50) rfl ?_
        obtain rfl := Option.some.inj h
        exact v_zret C (Or.inr rfl) dX2_meetsTwin_50
theorem tg_X2_meetsTwin_5 {x : Ctx} (C : Cx x WX cX2_meetsTwin RX2 5 rm_X2_meetsTwin (some .boolean)) {res : Int32 × St}  : ∀ (n : Nat) (x1 : Int32) (x2 : Int32) (x3 : Int32) (x4 : Int32) (S : St), g_X2_meetsTwin_5  n x1 x2 x3 x4 S = some res → V x WX 5 (QI x WX res) S 5 [(0, .ref (xq x 32)), (1, .int x1), (2, .int x2), (3, .int x3), (4, .int x4)] [] := by
  intro n
  induction n with
  | zero => intro x1 x2 x3 x4 S h; cases h
  | succ n ih => intro x1 x2 x3 x4 S h; exact t_X2_meetsTwin_5 C (fun x1 x2 x3 x4 S h => ih x1 x2 x3 x4 S h) x1 x2 x3 x4 S h
set_option maxRecDepth 20000 in
set_option maxHeartbeats 2000000 in
theorem t_X2_meetsTwin_0 {x : Ctx} (C : Cx x WX cX2_meetsTwin RX2 5 rm_X2_meetsTwin (some .boolean)) {res : Int32 × St}  (x1 : Int32) (x2 : Int32) (x3 : Int32) (S : St) (h : f_X2_meetsTwin_0  x1 x2 x3 S = some res) : V x WX 5 (QI x WX res) S 0 [(0, .ref (xq x 32)), (1, .int x1), (2, .int x2), (3, .int x3)] [] := by
  unfold f_X2_meetsTwin_0 at h
  refine v_iload_n C 2 dX2_meetsTwin_0 rfl rfl (n := 1) rfl ?_
  refine v_iconst (v := 1) C dX2_meetsTwin_1 (by decide) (n := 2) rfl ?_
  refine v_iadd C dX2_meetsTwin_2 (n := 3) rfl ?_
  obtain ⟨y1, ey1, h⟩ := lt_e h
  refine v_istore (L' := [(4, .int y1), (0, .ref (xq x 32)), (1, .int x1), (2, .int x2), (3, .int x3)]) C dX2_meetsTwin_3 (by decide) rfl (n := 5) rfl ey1 ?_
  refine v_sub [1, 2, 3, 4, 0] rfl ?_
  exact tg_X2_meetsTwin_5 C  fuel x1 x2 x3 y1 S h
theorem c_X2_meetsTwin {l : Launch} {D : va_G} {q : Nat → Nat} {ar : Ar} (a1 : Int32) (a2 : Int32) (a3 : Int32) (S : St) {res : Int32 × St} (h : m_X2_meetsTwin a1 a2 a3 S = some res) : MetI l D q ar WX yX2_meetsTwin cX2_meetsTwin 5 (some .boolean) rm_X2_meetsTwin [.ref (q 32), .int a1, .int a2, .int a3] S res := by
  refine metI_of adrX (by decide +kernel) (Nat.le_of_ble_eq_true rfl) (fun x e1 e2 e3 e4 C => ?_)
  subst e1; subst e2; subst e3; subst e4
  exact v_sub [0, 1, 2, 3] rfl (t_X2_meetsTwin_0 C a1 a2 a3 S h)
theorem mf_X2_meetsTwin : CalV yX2_meetsTwin cX2_meetsTwin 5 (some .boolean) RX2 3 := ⟨w_32_3, w_32_1, w_32_2, w_3_0, rfl, by decide +kernel, by decide +kernel, by decide +kernel⟩
/-! LabyrinthGarden$Homer.isHopeless -/
def f_X2_isHopeless_8 (k8 : Int32 → Int32 → Int32 → Int32 → St → Option (Int32 × St)) (x1 : Int32) (x2 : Int32) (x3 : Int32) (x4 : Int32) (S : St) : Option (Int32 × St) :=
  if (rd S 6 2) ≤ x4 then (
    some (0, S))
  else (
    ck x1 6 <|
    bI (m_X9_hasBit (rd S 39 x1.toNatClampNeg) x4 S) fun r4 S3 =>
    if r4 = 0 then (
      lt (x4 + 1 : Int32) fun y6 =>
      k8 x1 x2 x3 y6 S3)
    else (
      ck (x3 + x4) 144 <|
      ck ((x2 * 24) + (rd S3 37 (x3 + x4).toNatClampNeg)) 144 <|
      bI (m_X2_meetsTwin x3 x4 (rd S3 36 ((x2 * 24) + (rd S3 37 (x3 + x4).toNatClampNeg)).toNatClampNeg) S3) fun r10 S9 =>
      if r10 = 0 then (
        lt (x4 + 1 : Int32) fun y12 =>
        k8 x1 x2 x3 y12 S9)
      else (
        some (1, S9))))
def g_X2_isHopeless_8  : Nat → Int32 → Int32 → Int32 → Int32 → St → Option (Int32 × St)
  | 0 => fun _ _ _ _ _ => none
  | n + 1 => f_X2_isHopeless_8 (g_X2_isHopeless_8  n)
def f_X2_isHopeless_0  (x1 : Int32) (x2 : Int32) (S : St) : Option (Int32 × St) :=
  lt ((x1 * 24) : Int32) fun y1 =>
  g_X2_isHopeless_8  fuel x1 x2 y1 0 S
def m_X2_isHopeless (a1 : Int32) (a2 : Int32) (S : St) : Option (Int32 × St) := f_X2_isHopeless_0 a1 a2 S
def rm_X2_isHopeless : Room := { frames := 2, cells := 0, slots := 0, locals := 45 }
set_option maxRecDepth 20000 in
set_option maxHeartbeats 2000000 in
theorem t_X2_isHopeless_8 {x : Ctx} (C : Cx x WX cX2_isHopeless RX2 5 rm_X2_isHopeless (some .boolean)) {res : Int32 × St} {k8 : Int32 → Int32 → Int32 → Int32 → St → Option (Int32 × St)} (hk8 : ∀ (x1 : Int32) (x2 : Int32) (x3 : Int32) (x4 : Int32) (S : St), k8 x1 x2 x3 x4 S = some res → V x WX 5 (QI x WX res) S 8 [(0, .ref (xq x 32)), (1, .int x1), (2, .int x2), (3, .int x3), (4, .int x4)] []) (x1 : Int32) (x2 : Int32) (x3 : Int32) (x4 : Int32) (S : St) (h : f_X2_isHopeless_8 k8 x1 x2 x3 x4 S = some res) : V x WX 5 (QI x WX res) S 8 [(0, .ref (xq x 32)), (1, .int x1), (2, .int x2), (3, .int x3), (4, .int x4)] [] := by
  unfold f_X2_isHopeless_8 at h
  refine v_iload C 4 dX2_isHopeless_8 rfl (n := 10) rfl ?_
  refine v_aload_n C 0 dX2_isHopeless_10 rfl rfl (n := 11) rfl ?_
  refine g_X2_garden C w_7_0 dX2_isHopeless_11 (n := 14) rfl ?_
  refine g_X0_places C w_30_6 dX2_isHopeless_14 (n := 17) rfl ?_
  refine v_icmp_ge C dX2_isHopeless_17 (t := 71) (by decide) (n := 20) rfl (fun c1 => ?_) (fun c1 => ?_)
  · have h := ite_p c1 h
    refine v_iconst (v := 0) C dX2_isHopeless_71 (by decide) (n := 72) rfl ?_
    obtain rfl := Option.some.inj h
    exact v_zret C (Or.inl rfl) dX2_isHopeless_72
  · have h := ite_n c1 h
    refine v_aload_n C 0 dX2_isHopeless_20 rfl rfl (n := 21) rfl ?_
    refine g_X2_unsure C w_6_22 dX2_isHopeless_21 (n := 24) rfl ?_
    refine v_iload_n C 1 dX2_isHopeless_24 rfl rfl (n := 25) rfl ?_
    obtain ⟨hi2, h⟩ := ck_e h
    refine v_ald C aX_39 hi2 dX2_isHopeless_25 (n := 26) rfl ?_
    refine v_iload C 4 dX2_isHopeless_26 rfl (n := 28) rfl ?_
    obtain ⟨r4, S3, eS3, h⟩ := bI_e h
    refine v_callNI (As := [.int (rd S 39 x1.toNatClampNeg), .int x4]) C (c_X9_hasBit (rd S 39 x1.toNatClampNeg) x4 S eS3) mf_X9_hasBit (List.mem_of_getElem? (i := 14) rfl : (RX2, 98, yX9_hasBit, RX9) ∈ nestW) ⟨rfl, rfl, by decide, by decide⟩ rfl rfl (Nat.le_of_ble_eq_true rfl) dX2_isHopeless_28 (n := 31) rfl ?_
    refine v_if_eq C dX2_isHopeless_31 (t := 65) (by decide) (n := 34) rfl (fun c5 => ?_) (fun c5 => ?_)
    · have h := ite_p c5 h
      obtain ⟨y6, ey6, h⟩ := lt_e h
      refine v_iinc (L' := [(4, .int y6), (0, .ref (xq x 32)), (1, .int x1), (2, .int x2), (3, .int x3)]) C 4 dX2_isHopeless_65 rfl (by rw [ey6]; rfl) (by decide) rfl (n := 68) rfl ?_
      refine v_goto C dX2_isHopeless_68 (n := 8) (by decide) ?_
      refine v_sub [1, 2, 3, 4, 0] rfl ?_
      exact hk8 x1 x2 x3 y6 S3 h
    · have h := ite_n c5 h
      refine v_aload_n C 0 dX2_isHopeless_34 rfl rfl (n := 35) rfl ?_
      refine v_iload_n C 3 dX2_isHopeless_35 rfl rfl (n := 36) rfl ?_
      refine v_iload C 4 dX2_isHopeless_36 rfl (n := 38) rfl ?_
      refine v_aload_n C 0 dX2_isHopeless_38 rfl rfl (n := 39) rfl ?_
      refine g_X2_twins C w_6_19 dX2_isHopeless_39 (n := 42) rfl ?_
      refine v_iload_n C 2 dX2_isHopeless_42 rfl rfl (n := 43) rfl ?_
      refine v_bipush (v := 24) C dX2_isHopeless_43 (by decide) (n := 45) rfl ?_
      refine v_imul C dX2_isHopeless_45 (n := 46) rfl ?_
      refine v_aload_n C 0 dX2_isHopeless_46 rfl rfl (n := 47) rfl ?_
      refine g_X2_at C w_6_20 dX2_isHopeless_47 (n := 50) rfl ?_
      refine v_iload_n C 3 dX2_isHopeless_50 rfl rfl (n := 51) rfl ?_
      refine v_iload C 4 dX2_isHopeless_51 rfl (n := 53) rfl ?_
      refine v_iadd C dX2_isHopeless_53 (n := 54) rfl ?_
      obtain ⟨hi7, h⟩ := ck_e h
      refine v_ald C aX_37 hi7 dX2_isHopeless_54 (n := 55) rfl ?_
      refine v_iadd C dX2_isHopeless_55 (n := 56) rfl ?_
      obtain ⟨hi8, h⟩ := ck_e h
      refine v_ald C aX_36 hi8 dX2_isHopeless_56 (n := 57) rfl ?_
      obtain ⟨r10, S9, eS9, h⟩ := bI_e h
      refine v_callVI (As := [.int x3, .int x4, .int (rd S3 36 ((x2 * 24) + (rd S3 37 (x3 + x4).toNatClampNeg)).toNatClampNeg)]) C (c_X2_meetsTwin x3 x4 (rd S3 36 ((x2 * 24) + (rd S3 37 (x3 + x4).toNatClampNeg)).toNatClampNeg) S3 eS9) mf_X2_meetsTwin w_32_0 (oX2 _ _ _) rfl ⟨rfl, rfl, by decide, by decide⟩ rfl rfl (Nat.le_of_ble_eq_true rfl) dX2_isHopeless_57 (n := 60) rfl ?_
      refine v_if_eq C dX2_isHopeless_60 (t := 65) (by decide) (n := 63) rfl (fun c11 => ?_) (fun c11 => ?_)
      · have h := ite_p c11 h
        obtain ⟨y12, ey12, h⟩ := lt_e h
        refine v_iinc (L' := [(4, .int y12), (0, .ref (xq x 32)), (1, .int x1), (2, .int x2), (3, .int x3)]) C 4 dX2_isHopeless_65 rfl (by rw [ey12]; rfl) (by decide) rfl (n := 68) rfl ?_
        refine v_goto C dX2_isHopeless_68 (n := 8) (by decide) ?_
        refine v_sub [1, 2, 3, 4, 0] rfl ?_
        exact hk8 x1 x2 x3 y12 S9 h
      · have h := ite_n c11 h
        refine v_iconst (v := 1) C dX2_isHopeless_63 (by decide) (n := 64) rfl ?_
        obtain rfl := Option.some.inj h
        exact v_zret C (Or.inr rfl) dX2_isHopeless_64
theorem tg_X2_isHopeless_8 {x : Ctx} (C : Cx x WX cX2_isHopeless RX2 5 rm_X2_isHopeless (some .boolean)) {res : Int32 × St}  : ∀ (n : Nat) (x1 : Int32) (x2 : Int32) (x3 : Int32) (x4 : Int32) (S : St), g_X2_isHopeless_8  n x1 x2 x3 x4 S = some res → V x WX 5 (QI x WX res) S 8 [(0, .ref (xq x 32)), (1, .int x1), (2, .int x2), (3, .int x3), (4, .int x4)] [] := by
  intro n
  induction n with
  | zero => intro x1 x2 x3 x4 S h; cases h
  | succ n ih => intro x1 x2 x3 x4 S h; exact t_X2_isHopeless_8 C (fun x1 x2 x3 x4 S h => ih x1 x2 x3 x4 S h) x1 x2 x3 x4 S h
set_option maxRecDepth 20000 in
set_option maxHeartbeats 2000000 in
theorem t_X2_isHopeless_0 {x : Ctx} (C : Cx x WX cX2_isHopeless RX2 5 rm_X2_isHopeless (some .boolean)) {res : Int32 × St}  (x1 : Int32) (x2 : Int32) (S : St) (h : f_X2_isHopeless_0  x1 x2 S = some res) : V x WX 5 (QI x WX res) S 0 [(0, .ref (xq x 32)), (1, .int x1), (2, .int x2)] [] := by
  unfold f_X2_isHopeless_0 at h
  refine v_iload_n C 1 dX2_isHopeless_0 rfl rfl (n := 1) rfl ?_
  refine v_bipush (v := 24) C dX2_isHopeless_1 (by decide) (n := 3) rfl ?_
  refine v_imul C dX2_isHopeless_3 (n := 4) rfl ?_
  obtain ⟨y1, ey1, h⟩ := lt_e h
  refine v_istore_n (L' := [(3, .int y1), (0, .ref (xq x 32)), (1, .int x1), (2, .int x2)]) C dX2_isHopeless_4 rfl (by decide) rfl (n := 5) rfl ey1 ?_
  refine v_iconst (v := 0) C dX2_isHopeless_5 (by decide) (n := 6) rfl ?_
  refine v_istore (L' := [(4, .int 0), (3, .int y1), (0, .ref (xq x 32)), (1, .int x1), (2, .int x2)]) C dX2_isHopeless_6 (by decide) rfl (n := 8) rfl rfl ?_
  refine v_sub [2, 3, 4, 1, 0] rfl ?_
  exact tg_X2_isHopeless_8 C  fuel x1 x2 y1 0 S h
theorem c_X2_isHopeless {l : Launch} {D : va_G} {q : Nat → Nat} {ar : Ar} (a1 : Int32) (a2 : Int32) (S : St) {res : Int32 × St} (h : m_X2_isHopeless a1 a2 S = some res) : MetI l D q ar WX yX2_isHopeless cX2_isHopeless 5 (some .boolean) rm_X2_isHopeless [.ref (q 32), .int a1, .int a2] S res := by
  refine metI_of adrX (by decide +kernel) (Nat.le_of_ble_eq_true rfl) (fun x e1 e2 e3 e4 C => ?_)
  subst e1; subst e2; subst e3; subst e4
  exact v_sub [0, 1, 2] rfl (t_X2_isHopeless_0 C a1 a2 S h)
theorem mf_X2_isHopeless : CalV yX2_isHopeless cX2_isHopeless 5 (some .boolean) RX2 2 := ⟨w_31_23, w_31_21, w_31_22, w_3_0, rfl, by decide +kernel, by decide +kernel, by decide +kernel⟩
/-! LabyrinthGarden$Homer.nextTale -/
def f_X2_nextTale_4 (k4 : Int32 → St → Option (Int32 × St)) (x2 : Int32) (S : St) : Option (Int32 × St) :=
  if x2 < 0 then (
    some ((-1), S))
  else (
    ck x2 5 <|
    if (rd S 32 3) ≤ ((rd S 35 x2.toNatClampNeg) + 1) then (
      lt (up S 35 x2.toNatClampNeg 0) fun S4 =>
      lt (x2 + (-1) : Int32) fun y5 =>
      k4 y5 S4)
    else (
      lt (up S 35 x2.toNatClampNeg ((rd S 35 x2.toNatClampNeg) + 1)) fun S6 =>
      some (x2, S6)))
def g_X2_nextTale_4  : Nat → Int32 → St → Option (Int32 × St)
  | 0 => fun _ _ => none
  | n + 1 => f_X2_nextTale_4 (g_X2_nextTale_4  n)
def f_X2_nextTale_0  (x1 : Int32) (S : St) : Option (Int32 × St) :=
  lt ((x1 - 1) : Int32) fun y1 =>
  g_X2_nextTale_4  fuel y1 S
def m_X2_nextTale (a1 : Int32) (S : St) : Option (Int32 × St) := f_X2_nextTale_0 a1 S
def rm_X2_nextTale : Room := { frames := 0, cells := 0, slots := 0, locals := 0 }
set_option maxRecDepth 20000 in
set_option maxHeartbeats 2000000 in
theorem t_X2_nextTale_4 {x : Ctx} (C : Cx x WX cX2_nextTale RX2 3 rm_X2_nextTale (some .int)) {res : Int32 × St} {k4 : Int32 → St → Option (Int32 × St)} (hk4 : ∀ (x2 : Int32) (S : St), k4 x2 S = some res → V x WX 3 (QI x WX res) S 4 [(0, .ref (xq x 32)), (2, .int x2)] []) (x2 : Int32) (S : St) (h : f_X2_nextTale_4 k4 x2 S = some res) : V x WX 3 (QI x WX res) S 4 [(0, .ref (xq x 32)), (2, .int x2)] [] := by
  unfold f_X2_nextTale_4 at h
  refine v_iload_n C 1 dX2_nextTale_4 rfl rfl (n := 5) rfl ?_
  refine v_if_lt C dX2_nextTale_5 (t := 48) (by decide) (n := 8) rfl (fun c1 => ?_) (fun c1 => ?_)
  · have h := ite_p c1 h
    refine v_iconst (v := (-1)) C dX2_nextTale_48 (by decide) (n := 49) rfl ?_
    obtain rfl := Option.some.inj h
    exact v_iret C dX2_nextTale_49
  · have h := ite_n c1 h
    refine v_aload_n C 0 dX2_nextTale_8 rfl rfl (n := 9) rfl ?_
    refine g_X2_turns C w_6_18 dX2_nextTale_9 (n := 12) rfl ?_
    refine v_iload_n C 1 dX2_nextTale_12 rfl rfl (n := 13) rfl ?_
    obtain ⟨hi2, h⟩ := ck_e h
    refine v_ald C aX_35 hi2 dX2_nextTale_13 (n := 14) rfl ?_
    refine v_iconst (v := 1) C dX2_nextTale_14 (by decide) (n := 15) rfl ?_
    refine v_iadd C dX2_nextTale_15 (n := 16) rfl ?_
    refine v_aload_n C 0 dX2_nextTale_16 rfl rfl (n := 17) rfl ?_
    refine g_X2_turnsToTry C w_6_16 dX2_nextTale_17 (n := 20) rfl ?_
    refine v_icmp_ge C dX2_nextTale_20 (t := 35) (by decide) (n := 23) rfl (fun c3 => ?_) (fun c3 => ?_)
    · have h := ite_p c3 h
      refine v_aload_n C 0 dX2_nextTale_35 rfl rfl (n := 36) rfl ?_
      refine g_X2_turns C w_6_18 dX2_nextTale_36 (n := 39) rfl ?_
      refine v_iload_n C 1 dX2_nextTale_39 rfl rfl (n := 40) rfl ?_
      refine v_iconst (v := 0) C dX2_nextTale_40 (by decide) (n := 41) rfl ?_
      obtain ⟨S4, eS4, h⟩ := lt_e h
      refine v_ast C aX_35 hi2 dX2_nextTale_41 (n := 42) rfl eS4 ?_
      obtain ⟨y5, ey5, h⟩ := lt_e h
      refine v_iinc (L' := [(2, .int y5), (0, .ref (xq x 32))]) C 1 dX2_nextTale_42 rfl (by rw [ey5]; rfl) (by decide) rfl (n := 45) rfl ?_
      refine v_goto C dX2_nextTale_45 (n := 4) (by decide) ?_
      refine v_sub [1, 0] rfl ?_
      exact hk4 y5 S4 h
    · have h := ite_n c3 h
      refine v_aload_n C 0 dX2_nextTale_23 rfl rfl (n := 24) rfl ?_
      refine g_X2_turns C w_6_18 dX2_nextTale_24 (n := 27) rfl ?_
      refine v_iload_n C 1 dX2_nextTale_27 rfl rfl (n := 28) rfl ?_
      refine v_dup2 C dX2_nextTale_28 rfl rfl (n := 29) rfl ?_
      refine v_ald C aX_35 hi2 dX2_nextTale_29 (n := 30) rfl ?_
      refine v_iconst (v := 1) C dX2_nextTale_30 (by decide) (n := 31) rfl ?_
      refine v_iadd C dX2_nextTale_31 (n := 32) rfl ?_
      obtain ⟨S6, eS6, h⟩ := lt_e h
      refine v_ast C aX_35 hi2 dX2_nextTale_32 (n := 33) rfl eS6 ?_
      refine v_iload_n C 1 dX2_nextTale_33 rfl rfl (n := 34) rfl ?_
      obtain rfl := Option.some.inj h
      exact v_iret C dX2_nextTale_34
theorem tg_X2_nextTale_4 {x : Ctx} (C : Cx x WX cX2_nextTale RX2 3 rm_X2_nextTale (some .int)) {res : Int32 × St}  : ∀ (n : Nat) (x2 : Int32) (S : St), g_X2_nextTale_4  n x2 S = some res → V x WX 3 (QI x WX res) S 4 [(0, .ref (xq x 32)), (2, .int x2)] [] := by
  intro n
  induction n with
  | zero => intro x2 S h; cases h
  | succ n ih => intro x2 S h; exact t_X2_nextTale_4 C (fun x2 S h => ih x2 S h) x2 S h
set_option maxRecDepth 20000 in
set_option maxHeartbeats 2000000 in
theorem t_X2_nextTale_0 {x : Ctx} (C : Cx x WX cX2_nextTale RX2 3 rm_X2_nextTale (some .int)) {res : Int32 × St}  (x1 : Int32) (S : St) (h : f_X2_nextTale_0  x1 S = some res) : V x WX 3 (QI x WX res) S 0 [(0, .ref (xq x 32)), (1, .int x1)] [] := by
  unfold f_X2_nextTale_0 at h
  refine v_iload_n C 1 dX2_nextTale_0 rfl rfl (n := 1) rfl ?_
  refine v_iconst (v := 1) C dX2_nextTale_1 (by decide) (n := 2) rfl ?_
  refine v_isub C dX2_nextTale_2 (n := 3) rfl ?_
  obtain ⟨y1, ey1, h⟩ := lt_e h
  refine v_istore_n (L' := [(2, .int y1), (0, .ref (xq x 32)), (1, .int x1)]) C dX2_nextTale_3 rfl (by decide) rfl (n := 4) rfl ey1 ?_
  refine v_sub [1, 0] rfl ?_
  exact tg_X2_nextTale_4 C  fuel y1 S h
theorem c_X2_nextTale {l : Launch} {D : va_G} {q : Nat → Nat} {ar : Ar} (a1 : Int32) (S : St) {res : Int32 × St} (h : m_X2_nextTale a1 S = some res) : MetI l D q ar WX yX2_nextTale cX2_nextTale 3 (some .int) rm_X2_nextTale [.ref (q 32), .int a1] S res := by
  refine metI_of adrX (by decide +kernel) (Nat.le_of_ble_eq_true rfl) (fun x e1 e2 e3 e4 C => ?_)
  subst e1; subst e2; subst e3; subst e4
  exact v_sub [0, 1] rfl (t_X2_nextTale_0 C a1 S h)
theorem mf_X2_nextTale : CalV yX2_nextTale cX2_nextTale 3 (some .int) RX2 1 := ⟨w_32_7, w_32_5, w_32_6, w_3_0, rfl, by decide +kernel, by decide +kernel, by decide +kernel⟩
/-! LabyrinthGarden$Homer.tellsWith -/
def f_X2_tellsWith_78 (k24 : Int32 → Int32 → Int32 → St → Option (Int32 × St)) (x1 : Int32) (x2 : Int32) (x3 : Int32) (x4 : Int32) (S : St) : Option (Int32 × St) :=
  if x4 = 0 then (
    bI (m_X2_nextTale x2 S) fun r3 S2 =>
    lt (x3 + 1 : Int32) fun y4 =>
    k24 x1 r3 y4 S2)
  else (
    some (1, S))
def f_X2_tellsWith_39 (k24 : Int32 → Int32 → Int32 → St → Option (Int32 × St)) (k39 : Int32 → Int32 → Int32 → Int32 → St → Option (Int32 × St)) (x1 : Int32) (x2 : Int32) (x3 : Int32) (x4 : Int32) (S : St) : Option (Int32 × St) :=
  if x1 ≤ x2 then (
    f_X2_tellsWith_78 k24 x1 x2 x3 x4 S)
  else (
    if x4 = 0 then (
      f_X2_tellsWith_78 k24 x1 x2 x3 x4 S)
    else (
      bV (m_X2_makeTurn x2 S) fun S3 =>
      lt (x2 + 1 : Int32) fun y4 =>
      bI (m_X2_isHopeless y4 (x1 - y4) S3) fun r6 S5 =>
      if r6 = 0 then (
        k39 x1 y4 x3 1 S5)
      else (
        k39 x1 y4 x3 0 S5)))
def g_X2_tellsWith_39 (k24 : Int32 → Int32 → Int32 → St → Option (Int32 × St)) : Nat → Int32 → Int32 → Int32 → Int32 → St → Option (Int32 × St)
  | 0 => fun _ _ _ _ _ => none
  | n + 1 => f_X2_tellsWith_39 k24 (g_X2_tellsWith_39 k24 n)
def f_X2_tellsWith_24 (k24 : Int32 → Int32 → Int32 → St → Option (Int32 × St)) (x1 : Int32) (x2 : Int32) (x3 : Int32) (S : St) : Option (Int32 × St) :=
  if 7776 ≤ x3 then (
    some (0, S))
  else (
    if x2 = (-1) then (
      some (0, S))
    else (
      g_X2_tellsWith_39 k24 fuel x1 x2 x3 1 S))
def g_X2_tellsWith_24  : Nat → Int32 → Int32 → Int32 → St → Option (Int32 × St)
  | 0 => fun _ _ _ _ => none
  | n + 1 => f_X2_tellsWith_24 (g_X2_tellsWith_24  n)
def f_X2_tellsWith_2 (k2 : Int32 → Int32 → St → Option (Int32 × St)) (x1 : Int32) (x2 : Int32) (S : St) : Option (Int32 × St) :=
  if x1 ≤ x2 then (
    g_X2_tellsWith_24  fuel x1 0 0 S)
  else (
    ck x2 5 <|
    lt (up S 35 x2.toNatClampNeg 0) fun S3 =>
    lt (x2 + 1 : Int32) fun y4 =>
    k2 x1 y4 S3)
def g_X2_tellsWith_2  : Nat → Int32 → Int32 → St → Option (Int32 × St)
  | 0 => fun _ _ _ => none
  | n + 1 => f_X2_tellsWith_2 (g_X2_tellsWith_2  n)
def f_X2_tellsWith_0  (x1 : Int32) (S : St) : Option (Int32 × St) :=
  g_X2_tellsWith_2  fuel x1 0 S
def m_X2_tellsWith (a1 : Int32) (S : St) : Option (Int32 × St) := f_X2_tellsWith_0 a1 S
def rm_X2_tellsWith : Room := { frames := 3, cells := 0, slots := 0, locals := 69 }
set_option maxRecDepth 20000 in
set_option maxHeartbeats 2000000 in
theorem t_X2_tellsWith_78 {x : Ctx} (C : Cx x WX cX2_tellsWith RX2 5 rm_X2_tellsWith (some .boolean)) {res : Int32 × St} {k24 : Int32 → Int32 → Int32 → St → Option (Int32 × St)} (hk24 : ∀ (x1 : Int32) (x2 : Int32) (x3 : Int32) (S : St), k24 x1 x2 x3 S = some res → V x WX 5 (QI x WX res) S 24 [(0, .ref (xq x 32)), (1, .int x1), (2, .int x2), (3, .int x3)] []) (x1 : Int32) (x2 : Int32) (x3 : Int32) (x4 : Int32) (S : St) (h : f_X2_tellsWith_78 k24 x1 x2 x3 x4 S = some res) : V x WX 5 (QI x WX res) S 78 [(0, .ref (xq x 32)), (1, .int x1), (2, .int x2), (3, .int x3), (4, .int x4)] [] := by
  unfold f_X2_tellsWith_78 at h
  refine v_iload C 4 dX2_tellsWith_78 rfl (n := 80) rfl ?_
  refine v_if_eq C dX2_tellsWith_80 (t := 85) (by decide) (n := 83) rfl (fun c1 => ?_) (fun c1 => ?_)
  · have h := ite_p c1 h
    refine v_aload_n C 0 dX2_tellsWith_85 rfl rfl (n := 86) rfl ?_
    refine v_iload_n C 2 dX2_tellsWith_86 rfl rfl (n := 87) rfl ?_
    obtain ⟨r3, S2, eS2, h⟩ := bI_e h
    refine v_callVI (As := [.int x2]) C (c_X2_nextTale x2 S eS2) mf_X2_nextTale w_32_4 (oX2 _ _ _) rfl ⟨rfl, rfl, by decide, by decide⟩ rfl rfl (Nat.le_of_ble_eq_true rfl) dX2_tellsWith_87 (n := 90) rfl ?_
    refine v_istore_n (L' := [(2, .int r3), (0, .ref (xq x 32)), (1, .int x1), (3, .int x3), (4, .int x4)]) C dX2_tellsWith_90 rfl (by decide) rfl (n := 91) rfl rfl ?_
    obtain ⟨y4, ey4, h⟩ := lt_e h
    refine v_iinc (L' := [(3, .int y4), (2, .int r3), (0, .ref (xq x 32)), (1, .int x1), (4, .int x4)]) C 3 dX2_tellsWith_91 rfl (by rw [ey4]; rfl) (by decide) rfl (n := 94) rfl ?_
    refine v_goto C dX2_tellsWith_94 (n := 24) (by decide) ?_
    refine v_sub [2, 3, 1, 0] rfl ?_
    exact hk24 x1 r3 y4 S2 h
  · have h := ite_n c1 h
    refine v_iconst (v := 1) C dX2_tellsWith_83 (by decide) (n := 84) rfl ?_
    obtain rfl := Option.some.inj h
    exact v_zret C (Or.inr rfl) dX2_tellsWith_84
set_option maxRecDepth 20000 in
set_option maxHeartbeats 2000000 in
theorem t_X2_tellsWith_39 {x : Ctx} (C : Cx x WX cX2_tellsWith RX2 5 rm_X2_tellsWith (some .boolean)) {res : Int32 × St} {k24 : Int32 → Int32 → Int32 → St → Option (Int32 × St)} (hk24 : ∀ (x1 : Int32) (x2 : Int32) (x3 : Int32) (S : St), k24 x1 x2 x3 S = some res → V x WX 5 (QI x WX res) S 24 [(0, .ref (xq x 32)), (1, .int x1), (2, .int x2), (3, .int x3)] []) {k39 : Int32 → Int32 → Int32 → Int32 → St → Option (Int32 × St)} (hk39 : ∀ (x1 : Int32) (x2 : Int32) (x3 : Int32) (x4 : Int32) (S : St), k39 x1 x2 x3 x4 S = some res → V x WX 5 (QI x WX res) S 39 [(0, .ref (xq x 32)), (1, .int x1), (2, .int x2), (3, .int x3), (4, .int x4)] []) (x1 : Int32) (x2 : Int32) (x3 : Int32) (x4 : Int32) (S : St) (h : f_X2_tellsWith_39 k24 k39 x1 x2 x3 x4 S = some res) : V x WX 5 (QI x WX res) S 39 [(0, .ref (xq x 32)), (1, .int x1), (2, .int x2), (3, .int x3), (4, .int x4)] [] := by
  unfold f_X2_tellsWith_39 at h
  refine v_iload_n C 2 dX2_tellsWith_39 rfl rfl (n := 40) rfl ?_
  refine v_iload_n C 1 dX2_tellsWith_40 rfl rfl (n := 41) rfl ?_
  refine v_icmp_ge C dX2_tellsWith_41 (t := 78) (by decide) (n := 44) rfl (fun c1 => ?_) (fun c1 => ?_)
  · have h := ite_p c1 h
    refine v_sub [0, 1, 2, 3, 4] rfl ?_
    exact t_X2_tellsWith_78 C hk24 x1 x2 x3 x4 S h
  · have h := ite_n c1 h
    refine v_iload C 4 dX2_tellsWith_44 rfl (n := 46) rfl ?_
    refine v_if_eq C dX2_tellsWith_46 (t := 78) (by decide) (n := 49) rfl (fun c2 => ?_) (fun c2 => ?_)
    · have h := ite_p c2 h
      refine v_sub [0, 1, 2, 3, 4] rfl ?_
      exact t_X2_tellsWith_78 C hk24 x1 x2 x3 x4 S h
    · have h := ite_n c2 h
      refine v_aload_n C 0 dX2_tellsWith_49 rfl rfl (n := 50) rfl ?_
      refine v_iload_n C 2 dX2_tellsWith_50 rfl rfl (n := 51) rfl ?_
      obtain ⟨S3, eS3, h⟩ := bV_e h
      refine v_callVV (As := [.int x2]) C (c_X2_makeTurn x2 S eS3) mf_X2_makeTurn w_31_16 (oX2 _ _ _) rfl ⟨rfl, rfl, by decide, by decide⟩ rfl rfl (Nat.le_of_ble_eq_true rfl) dX2_tellsWith_51 (n := 54) rfl ?_
      obtain ⟨y4, ey4, h⟩ := lt_e h
      refine v_iinc (L' := [(2, .int y4), (0, .ref (xq x 32)), (1, .int x1), (3, .int x3), (4, .int x4)]) C 2 dX2_tellsWith_54 rfl (by rw [ey4]; rfl) (by decide) rfl (n := 57) rfl ?_
      refine v_aload_n C 1 dX2_tellsWith_57 rfl rfl (n := 58) rfl ?_
      refine v_iload_n C 0 dX2_tellsWith_58 rfl rfl (n := 59) rfl ?_
      refine v_iload_n C 2 dX2_tellsWith_59 rfl rfl (n := 60) rfl ?_
      refine v_iload_n C 0 dX2_tellsWith_60 rfl rfl (n := 61) rfl ?_
      refine v_isub C dX2_tellsWith_61 (n := 62) rfl ?_
      obtain ⟨r6, S5, eS5, h⟩ := bI_e h
      refine v_callVI (As := [.int y4, .int (x1 - y4)]) C (c_X2_isHopeless y4 (x1 - y4) S3 eS5) mf_X2_isHopeless w_31_20 (oX2 _ _ _) rfl ⟨rfl, rfl, by decide, by decide⟩ rfl rfl (Nat.le_of_ble_eq_true rfl) dX2_tellsWith_62 (n := 65) rfl ?_
      refine v_if_ne C dX2_tellsWith_65 (t := 72) (by decide) (n := 68) rfl (fun c7 => ?_) (fun c7 => ?_)
      · have h := ite_n c7 h
        refine v_iconst (v := 0) C dX2_tellsWith_72 (by decide) (n := 73) rfl ?_
        refine v_istore (L' := [(4, .int 0), (2, .int y4), (0, .ref (xq x 32)), (1, .int x1), (3, .int x3)]) C dX2_tellsWith_73 (by decide) rfl (n := 75) rfl rfl ?_
        refine v_goto C dX2_tellsWith_75 (n := 39) (by decide) ?_
        refine v_sub [2, 3, 1, 4, 0] rfl ?_
        exact hk39 x1 y4 x3 0 S5 h
      · have h := ite_p c7 h
        refine v_iconst (v := 1) C dX2_tellsWith_68 (by decide) (n := 69) rfl ?_
        refine v_goto C dX2_tellsWith_69 (n := 73) (by decide) ?_
        refine v_istore (L' := [(4, .int 1), (2, .int y4), (0, .ref (xq x 32)), (1, .int x1), (3, .int x3)]) C dX2_tellsWith_73 (by decide) rfl (n := 75) rfl rfl ?_
        refine v_goto C dX2_tellsWith_75 (n := 39) (by decide) ?_
        refine v_sub [2, 3, 1, 4, 0] rfl ?_
        exact hk39 x1 y4 x3 1 S5 h
theorem tg_X2_tellsWith_39 {x : Ctx} (C : Cx x WX cX2_tellsWith RX2 5 rm_X2_tellsWith (some .boolean)) {res : Int32 × St} {k24 : Int32 → Int32 → Int32 → St → Option (Int32 × St)} (hk24 : ∀ (x1 : Int32) (x2 : Int32) (x3 : Int32) (S : St), k24 x1 x2 x3 S = some res → V x WX 5 (QI x WX res) S 24 [(0, .ref (xq x 32)), (1, .int x1), (2, .int x2), (3, .int x3)] []) : ∀ (n : Nat) (x1 : Int32) (x2 : Int32) (x3 : Int32) (x4 : Int32) (S : St), g_X2_tellsWith_39 k24 n x1 x2 x3 x4 S = some res → V x WX 5 (QI x WX res) S 39 [(0, .ref (xq x 32)), (1, .int x1), (2, .int x2), (3, .int x3), (4, .int x4)] [] := by
  intro n
  induction n with
  | zero => intro x1 x2 x3 x4 S h; cases h
  | succ n ih => intro x1 x2 x3 x4 S h; exact t_X2_tellsWith_39 C hk24 (fun x1 x2 x3 x4 S h => ih x1 x2 x3 x4 S h) x1 x2 x3 x4 S h
set_option maxRecDepth 20000 in
set_option maxHeartbeats 2000000 in
theorem t_X2_tellsWith_24 {x : Ctx} (C : Cx x WX cX2_tellsWith RX2 5 rm_X2_tellsWith (some .boolean)) {res : Int32 × St} {k24 : Int32 → Int32 → Int32 → St → Option (Int32 × St)} (hk24 : ∀ (x1 : Int32) (x2 : Int32) (x3 : Int32) (S : St), k24 x1 x2 x3 S = some res → V x WX 5 (QI x WX res) S 24 [(0, .ref (xq x 32)), (1, .int x1), (2, .int x2), (3, .int x3)] []) (x1 : Int32) (x2 : Int32) (x3 : Int32) (S : St) (h : f_X2_tellsWith_24 k24 x1 x2 x3 S = some res) : V x WX 5 (QI x WX res) S 24 [(0, .ref (xq x 32)), (1, .int x1), (2, .int x2), (3, .int x3)] [] := by
  unfold f_X2_tellsWith_24 at h
  refine v_iload_n C 3 dX2_tellsWith_24 rfl rfl (n := 25) rfl ?_
  refine v_sipush (v := 7776) C dX2_tellsWith_25 (by decide) (n := 28) rfl ?_
  refine v_icmp_ge C dX2_tellsWith_28 (t := 97) (by decide) (n := 31) rfl (fun c1 => ?_) (fun c1 => ?_)
  · have h := ite_p c1 h
    refine v_iconst (v := 0) C dX2_tellsWith_97 (by decide) (n := 98) rfl ?_
    obtain rfl := Option.some.inj h
    exact v_zret C (Or.inl rfl) dX2_tellsWith_98
  · have h := ite_n c1 h
    refine v_iload_n C 2 dX2_tellsWith_31 rfl rfl (n := 32) rfl ?_
    refine v_iconst (v := (-1)) C dX2_tellsWith_32 (by decide) (n := 33) rfl ?_
    refine v_icmp_eq C dX2_tellsWith_33 (t := 97) (by decide) (n := 36) rfl (fun c2 => ?_) (fun c2 => ?_)
    · have h := ite_p c2 h
      refine v_iconst (v := 0) C dX2_tellsWith_97 (by decide) (n := 98) rfl ?_
      obtain rfl := Option.some.inj h
      exact v_zret C (Or.inl rfl) dX2_tellsWith_98
    · have h := ite_n c2 h
      refine v_iconst (v := 1) C dX2_tellsWith_36 (by decide) (n := 37) rfl ?_
      refine v_istore (L' := [(4, .int 1), (0, .ref (xq x 32)), (1, .int x1), (2, .int x2), (3, .int x3)]) C dX2_tellsWith_37 (by decide) rfl (n := 39) rfl rfl ?_
      refine v_sub [1, 2, 3, 4, 0] rfl ?_
      exact tg_X2_tellsWith_39 C hk24 fuel x1 x2 x3 1 S h
theorem tg_X2_tellsWith_24 {x : Ctx} (C : Cx x WX cX2_tellsWith RX2 5 rm_X2_tellsWith (some .boolean)) {res : Int32 × St}  : ∀ (n : Nat) (x1 : Int32) (x2 : Int32) (x3 : Int32) (S : St), g_X2_tellsWith_24  n x1 x2 x3 S = some res → V x WX 5 (QI x WX res) S 24 [(0, .ref (xq x 32)), (1, .int x1), (2, .int x2), (3, .int x3)] [] := by
  intro n
  induction n with
  | zero => intro x1 x2 x3 S h; cases h
  | succ n ih => intro x1 x2 x3 S h; exact t_X2_tellsWith_24 C (fun x1 x2 x3 S h => ih x1 x2 x3 S h) x1 x2 x3 S h
set_option maxRecDepth 20000 in
set_option maxHeartbeats 2000000 in
theorem t_X2_tellsWith_2 {x : Ctx} (C : Cx x WX cX2_tellsWith RX2 5 rm_X2_tellsWith (some .boolean)) {res : Int32 × St} {k2 : Int32 → Int32 → St → Option (Int32 × St)} (hk2 : ∀ (x1 : Int32) (x2 : Int32) (S : St), k2 x1 x2 S = some res → V x WX 5 (QI x WX res) S 2 [(0, .ref (xq x 32)), (1, .int x1), (2, .int x2)] []) (x1 : Int32) (x2 : Int32) (S : St) (h : f_X2_tellsWith_2 k2 x1 x2 S = some res) : V x WX 5 (QI x WX res) S 2 [(0, .ref (xq x 32)), (1, .int x1), (2, .int x2)] [] := by
  unfold f_X2_tellsWith_2 at h
  refine v_iload_n C 2 dX2_tellsWith_2 rfl rfl (n := 3) rfl ?_
  refine v_iload_n C 1 dX2_tellsWith_3 rfl rfl (n := 4) rfl ?_
  refine v_icmp_ge C dX2_tellsWith_4 (t := 20) (by decide) (n := 7) rfl (fun c1 => ?_) (fun c1 => ?_)
  · have h := ite_p c1 h
    refine v_iconst (v := 0) C dX2_tellsWith_20 (by decide) (n := 21) rfl ?_
    refine v_istore_n (L' := [(2, .int 0), (0, .ref (xq x 32)), (1, .int x1)]) C dX2_tellsWith_21 rfl (by decide) rfl (n := 22) rfl rfl ?_
    refine v_iconst (v := 0) C dX2_tellsWith_22 (by decide) (n := 23) rfl ?_
    refine v_istore_n (L' := [(3, .int 0), (2, .int 0), (0, .ref (xq x 32)), (1, .int x1)]) C dX2_tellsWith_23 rfl (by decide) rfl (n := 24) rfl rfl ?_
    refine v_sub [2, 3, 1, 0] rfl ?_
    exact tg_X2_tellsWith_24 C  fuel x1 0 0 S h
  · have h := ite_n c1 h
    refine v_aload_n C 0 dX2_tellsWith_7 rfl rfl (n := 8) rfl ?_
    refine g_X2_turns C w_6_18 dX2_tellsWith_8 (n := 11) rfl ?_
    refine v_iload_n C 2 dX2_tellsWith_11 rfl rfl (n := 12) rfl ?_
    refine v_iconst (v := 0) C dX2_tellsWith_12 (by decide) (n := 13) rfl ?_
    obtain ⟨hi2, h⟩ := ck_e h
    obtain ⟨S3, eS3, h⟩ := lt_e h
    refine v_ast C aX_35 hi2 dX2_tellsWith_13 (n := 14) rfl eS3 ?_
    obtain ⟨y4, ey4, h⟩ := lt_e h
    refine v_iinc (L' := [(2, .int y4), (0, .ref (xq x 32)), (1, .int x1)]) C 2 dX2_tellsWith_14 rfl (by rw [ey4]; rfl) (by decide) rfl (n := 17) rfl ?_
    refine v_goto C dX2_tellsWith_17 (n := 2) (by decide) ?_
    refine v_sub [1, 2, 0] rfl ?_
    exact hk2 x1 y4 S3 h
theorem tg_X2_tellsWith_2 {x : Ctx} (C : Cx x WX cX2_tellsWith RX2 5 rm_X2_tellsWith (some .boolean)) {res : Int32 × St}  : ∀ (n : Nat) (x1 : Int32) (x2 : Int32) (S : St), g_X2_tellsWith_2  n x1 x2 S = some res → V x WX 5 (QI x WX res) S 2 [(0, .ref (xq x 32)), (1, .int x1), (2, .int x2)] [] := by
  intro n
  induction n with
  | zero => intro x1 x2 S h; cases h
  | succ n ih => intro x1 x2 S h; exact t_X2_tellsWith_2 C (fun x1 x2 S h => ih x1 x2 S h) x1 x2 S h
set_option maxRecDepth 20000 in
set_option maxHeartbeats 2000000 in
theorem t_X2_tellsWith_0 {x : Ctx} (C : Cx x WX cX2_tellsWith RX2 5 rm_X2_tellsWith (some .boolean)) {res : Int32 × St}  (x1 : Int32) (S : St) (h : f_X2_tellsWith_0  x1 S = some res) : V x WX 5 (QI x WX res) S 0 [(0, .ref (xq x 32)), (1, .int x1)] [] := by
  unfold f_X2_tellsWith_0 at h
  refine v_iconst (v := 0) C dX2_tellsWith_0 (by decide) (n := 1) rfl ?_
  refine v_istore_n (L' := [(2, .int 0), (0, .ref (xq x 32)), (1, .int x1)]) C dX2_tellsWith_1 rfl (by decide) rfl (n := 2) rfl rfl ?_
  refine v_sub [1, 2, 0] rfl ?_
  exact tg_X2_tellsWith_2 C  fuel x1 0 S h
theorem c_X2_tellsWith {l : Launch} {D : va_G} {q : Nat → Nat} {ar : Ar} (a1 : Int32) (S : St) {res : Int32 × St} (h : m_X2_tellsWith a1 S = some res) : MetI l D q ar WX yX2_tellsWith cX2_tellsWith 5 (some .boolean) rm_X2_tellsWith [.ref (q 32), .int a1] S res := by
  refine metI_of adrX (by decide +kernel) (Nat.le_of_ble_eq_true rfl) (fun x e1 e2 e3 e4 C => ?_)
  subst e1; subst e2; subst e3; subst e4
  exact v_sub [0, 1] rfl (t_X2_tellsWith_0 C a1 S h)
theorem mf_X2_tellsWith : CalV yX2_tellsWith cX2_tellsWith 5 (some .boolean) RX2 1 := ⟨w_31_15, w_31_13, w_31_14, w_3_0, rfl, by decide +kernel, by decide +kernel, by decide +kernel⟩
/-! LabyrinthGarden$Homer.seek -/
def f_X2_seek_22 (k22 : Int32 → St → Option (Int32 × St)) (x2 : Int32) (S : St) : Option (Int32 × St) :=
  if 5 < x2 then (
    some ((-1), S))
  else (
    bI (m_X2_tellsWith x2 S) fun r3 S2 =>
    if r3 = 0 then (
      lt (x2 + 1 : Int32) fun y5 =>
      k22 y5 S2)
    else (
      ckc 0 0 x2 5 5 <|
      lt (upA S2 33 (va_cpy (S2.1 35) (S2.1 33) (0 : Int32).toNatClampNeg (0 : Int32).toNatClampNeg x2.toNatClampNeg)) fun S7 =>
      lt (up S7 32 1 x2) fun S8 =>
      some (x2, S8)))
def g_X2_seek_22  : Nat → Int32 → St → Option (Int32 × St)
  | 0 => fun _ _ => none
  | n + 1 => f_X2_seek_22 (g_X2_seek_22  n)
def f_X2_seek_0   (S : St) : Option (Int32 × St) :=
  bV (m_X2_chooseTurns  S) fun S1 =>
  bI (m_X2_leastTurns  S1) fun r3 S2 =>
  if r3 = (-1) then (
    some ((-1), S2))
  else (
    bV (m_X2_begin  S2) fun S5 =>
    g_X2_seek_22  fuel r3 S5)
def m_X2_seek  (S : St) : Option (Int32 × St) := f_X2_seek_0  S
def rm_X2_seek : Room := { frames := 4, cells := 0, slots := 0, locals := 93 }
set_option maxRecDepth 20000 in
set_option maxHeartbeats 2000000 in
theorem t_X2_seek_22 {x : Ctx} (C : Cx x WX cX2_seek RX2 3 rm_X2_seek (some .int)) {res : Int32 × St} {k22 : Int32 → St → Option (Int32 × St)} (hk22 : ∀ (x2 : Int32) (S : St), k22 x2 S = some res → V x WX 3 (QI x WX res) S 22 [(0, .ref (xq x 32)), (2, .int x2)] []) (x2 : Int32) (S : St) (h : f_X2_seek_22 k22 x2 S = some res) : V x WX 3 (QI x WX res) S 22 [(0, .ref (xq x 32)), (2, .int x2)] [] := by
  unfold f_X2_seek_22 at h
  refine v_iload_n C 1 dX2_seek_22 rfl rfl (n := 23) rfl ?_
  refine v_iconst (v := 5) C dX2_seek_23 (by decide) (n := 24) rfl ?_
  refine v_icmp_gt C dX2_seek_24 (t := 62) (by decide) (n := 27) rfl (fun c1 => ?_) (fun c1 => ?_)
  · have h := ite_p c1 h
    refine v_iconst (v := (-1)) C dX2_seek_62 (by decide) (n := 63) rfl ?_
    obtain rfl := Option.some.inj h
    exact v_iret C dX2_seek_63
  · have h := ite_n c1 h
    refine v_aload_n C 0 dX2_seek_27 rfl rfl (n := 28) rfl ?_
    refine v_iload_n C 1 dX2_seek_28 rfl rfl (n := 29) rfl ?_
    obtain ⟨r3, S2, eS2, h⟩ := bI_e h
    refine v_callVI (As := [.int x2]) C (c_X2_tellsWith x2 S eS2) mf_X2_tellsWith w_31_12 (oX2 _ _ _) rfl ⟨rfl, rfl, by decide, by decide⟩ rfl rfl (Nat.le_of_ble_eq_true rfl) dX2_seek_29 (n := 32) rfl ?_
    refine v_if_eq C dX2_seek_32 (t := 56) (by decide) (n := 35) rfl (fun c4 => ?_) (fun c4 => ?_)
    · have h := ite_p c4 h
      obtain ⟨y5, ey5, h⟩ := lt_e h
      refine v_iinc (L' := [(2, .int y5), (0, .ref (xq x 32))]) C 1 dX2_seek_56 rfl (by rw [ey5]; rfl) (by decide) rfl (n := 59) rfl ?_
      refine v_goto C dX2_seek_59 (n := 22) (by decide) ?_
      refine v_sub [1, 0] rfl ?_
      exact hk22 y5 S2 h
    · have h := ite_n c4 h
      refine v_aload_n C 0 dX2_seek_35 rfl rfl (n := 36) rfl ?_
      refine g_X2_turns C w_6_18 dX2_seek_36 (n := 39) rfl ?_
      refine v_iconst (v := 0) C dX2_seek_39 (by decide) (n := 40) rfl ?_
      refine v_aload_n C 0 dX2_seek_40 rfl rfl (n := 41) rfl ?_
      refine g_X2_kept C w_6_14 dX2_seek_41 (n := 44) rfl ?_
      refine v_iconst (v := 0) C dX2_seek_44 (by decide) (n := 45) rfl ?_
      refine v_iload_n C 1 dX2_seek_45 rfl rfl (n := 46) rfl ?_
      obtain ⟨hc6, h⟩ := ckc_e h
      obtain ⟨S7, eS7, h⟩ := lt_e h
      refine v_copy C aX_35 aX_33 w_29_22 w_29_23 w_30_0 w_30_1 hc6 ⟨by decide, Nat.le_of_ble_eq_true rfl⟩ dX2_seek_46 (n := 49) rfl eS7 ?_
      refine v_aload_n C 0 dX2_seek_49 rfl rfl (n := 50) rfl ?_
      refine v_iload_n C 1 dX2_seek_50 rfl rfl (n := 51) rfl ?_
      obtain ⟨S8, eS8, h⟩ := lt_e h
      refine p_X2_keptCount C w_6_15 dX2_seek_51 (n := 54) rfl eS8 ?_
      refine v_iload_n C 1 dX2_seek_54 rfl rfl (n := 55) rfl ?_
      obtain rfl := Option.some.inj h
      exact v_iret C dX2_seek_55
theorem tg_X2_seek_22 {x : Ctx} (C : Cx x WX cX2_seek RX2 3 rm_X2_seek (some .int)) {res : Int32 × St}  : ∀ (n : Nat) (x2 : Int32) (S : St), g_X2_seek_22  n x2 S = some res → V x WX 3 (QI x WX res) S 22 [(0, .ref (xq x 32)), (2, .int x2)] [] := by
  intro n
  induction n with
  | zero => intro x2 S h; cases h
  | succ n ih => intro x2 S h; exact t_X2_seek_22 C (fun x2 S h => ih x2 S h) x2 S h
set_option maxRecDepth 20000 in
set_option maxHeartbeats 2000000 in
theorem t_X2_seek_0 {x : Ctx} (C : Cx x WX cX2_seek RX2 3 rm_X2_seek (some .int)) {res : Int32 × St}   (S : St) (h : f_X2_seek_0   S = some res) : V x WX 3 (QI x WX res) S 0 [(0, .ref (xq x 32))] [] := by
  unfold f_X2_seek_0 at h
  refine v_aload_n C 0 dX2_seek_0 rfl rfl (n := 1) rfl ?_
  obtain ⟨S1, eS1, h⟩ := bV_e h
  refine v_callVV (As := []) C (c_X2_chooseTurns  S eS1) mf_X2_chooseTurns w_30_2 (oX2 _ _ _) rfl ⟨rfl, rfl, by decide, by decide⟩ rfl rfl (Nat.le_of_ble_eq_true rfl) dX2_seek_1 (n := 4) rfl ?_
  refine v_aload_n C 0 dX2_seek_4 rfl rfl (n := 5) rfl ?_
  obtain ⟨r3, S2, eS2, h⟩ := bI_e h
  refine v_callVI (As := []) C (c_X2_leastTurns  S1 eS2) mf_X2_leastTurns w_30_14 (oX2 _ _ _) rfl ⟨rfl, rfl, by decide, by decide⟩ rfl rfl (Nat.le_of_ble_eq_true rfl) dX2_seek_5 (n := 8) rfl ?_
  refine v_istore_n (L' := [(1, .int r3), (0, .ref (xq x 32))]) C dX2_seek_8 rfl (by decide) rfl (n := 9) rfl rfl ?_
  refine v_iload_n C 0 dX2_seek_9 rfl rfl (n := 10) rfl ?_
  refine v_iconst (v := (-1)) C dX2_seek_10 (by decide) (n := 11) rfl ?_
  refine v_icmp_ne C dX2_seek_11 (t := 16) (by decide) (n := 14) rfl (fun c4 => ?_) (fun c4 => ?_)
  · have h := ite_n c4 h
    refine v_aload_n C 1 dX2_seek_16 rfl rfl (n := 17) rfl ?_
    obtain ⟨S5, eS5, h⟩ := bV_e h
    refine v_callVV (As := []) C (c_X2_begin  S2 eS5) mf_X2_begin w_31_8 (oX2 _ _ _) rfl ⟨rfl, rfl, by decide, by decide⟩ rfl rfl (Nat.le_of_ble_eq_true rfl) dX2_seek_17 (n := 20) rfl ?_
    refine v_iload_n C 0 dX2_seek_20 rfl rfl (n := 21) rfl ?_
    refine v_istore_n (L' := [(2, .int r3), (1, .int r3), (0, .ref (xq x 32))]) C dX2_seek_21 rfl (by decide) rfl (n := 22) rfl rfl ?_
    refine v_sub [2, 0] rfl ?_
    exact tg_X2_seek_22 C  fuel r3 S5 h
  · have h := ite_p c4 h
    refine v_iconst (v := (-1)) C dX2_seek_14 (by decide) (n := 15) rfl ?_
    obtain rfl := Option.some.inj h
    exact v_iret C dX2_seek_15
theorem c_X2_seek {l : Launch} {D : va_G} {q : Nat → Nat} {ar : Ar}  (S : St) {res : Int32 × St} (h : m_X2_seek  S = some res) : MetI l D q ar WX yX2_seek cX2_seek 3 (some .int) rm_X2_seek [.ref (q 32)] S res := by
  refine metI_of adrX (by decide +kernel) (Nat.le_of_ble_eq_true rfl) (fun x e1 e2 e3 e4 C => ?_)
  subst e1; subst e2; subst e3; subst e4
  exact v_sub [0] rfl (t_X2_seek_0 C  S h)
theorem mf_X2_seek : CalV yX2_seek cX2_seek 3 (some .int) RX2 0 := ⟨w_29_21, w_29_19, w_29_20, w_3_0, rfl, by decide +kernel, by decide +kernel, by decide +kernel⟩
