/-! LabyrinthGarden$Reader.isBlank -/
def f_X3_isBlank_0  (x0 : Int32) (S : St) : Option (Int32 × St) :=
  if x0 = 10 then (
    some (1, S))
  else (
    if x0 = 32 then (
      some (1, S))
    else (
      some (0, S)))
def m_X3_isBlank (a0 : Int32) (S : St) : Option (Int32 × St) := f_X3_isBlank_0 a0 S
def rm_X3_isBlank : Room := { frames := 0, cells := 0, slots := 0, locals := 0 }
set_option maxRecDepth 20000 in
set_option maxHeartbeats 2000000 in
theorem t_X3_isBlank_0 {x : Ctx} (C : Cx x WX cX3_isBlank RX3 1 rm_X3_isBlank (some .boolean)) {res : Int32 × St}  (x0 : Int32) (S : St) (h : f_X3_isBlank_0  x0 S = some res) : V x WX 1 (QI x WX res) S 0 [(0, .int x0)] [] := by
  unfold f_X3_isBlank_0 at h
  refine v_iload_n C 0 dX3_isBlank_0 rfl rfl (n := 1) rfl ?_
  refine v_bipush (v := 10) C dX3_isBlank_1 (by decide) (n := 3) rfl ?_
  refine v_icmp_eq C dX3_isBlank_3 (t := 12) (by decide) (n := 6) rfl (fun c1 => ?_) (fun c1 => ?_)
  · have h := ite_p c1 h
    refine v_iconst (v := 1) C dX3_isBlank_12 (by decide) (n := 13) rfl ?_
    refine v_goto C dX3_isBlank_13 (n := 17) (by decide) ?_
    obtain rfl := Option.some.inj h
    exact v_zret C (Or.inr rfl) dX3_isBlank_17
  · have h := ite_n c1 h
    refine v_iload_n C 0 dX3_isBlank_6 rfl rfl (n := 7) rfl ?_
    refine v_bipush (v := 32) C dX3_isBlank_7 (by decide) (n := 9) rfl ?_
    refine v_icmp_ne C dX3_isBlank_9 (t := 16) (by decide) (n := 12) rfl (fun c2 => ?_) (fun c2 => ?_)
    · have h := ite_n c2 h
      refine v_iconst (v := 0) C dX3_isBlank_16 (by decide) (n := 17) rfl ?_
      obtain rfl := Option.some.inj h
      exact v_zret C (Or.inl rfl) dX3_isBlank_17
    · have h := ite_p c2 h
      refine v_iconst (v := 1) C dX3_isBlank_12 (by decide) (n := 13) rfl ?_
      refine v_goto C dX3_isBlank_13 (n := 17) (by decide) ?_
      obtain rfl := Option.some.inj h
      exact v_zret C (Or.inr rfl) dX3_isBlank_17
theorem c_X3_isBlank {l : Launch} {D : va_G} {q : Nat → Nat} {ar : Ar} (a0 : Int32) (S : St) {res : Int32 × St} (h : m_X3_isBlank a0 S = some res) : MetI l D q ar WX yX3_isBlank cX3_isBlank 1 (some .boolean) rm_X3_isBlank [.int a0] S res := by
  refine metI_of adrX (by decide +kernel) (Nat.le_of_ble_eq_true rfl) (fun x e1 e2 e3 e4 C => ?_)
  subst e1; subst e2; subst e3; subst e4
  exact v_sub [0] rfl (t_X3_isBlank_0 C a0 S h)
theorem mf_X3_isBlank : CalS yX3_isBlank cX3_isBlank 1 (some .boolean) 1 := ⟨w_10_7, w_10_6, w_1_19, by decide +kernel, by decide +kernel, by decide +kernel⟩
/-! LabyrinthGarden$Reader.isDigit -/
def f_X3_isDigit_0  (x0 : Int32) (S : St) : Option (Int32 × St) :=
  if x0 < 48 then (
    some (0, S))
  else (
    if 57 < x0 then (
      some (0, S))
    else (
      some (1, S)))
def m_X3_isDigit (a0 : Int32) (S : St) : Option (Int32 × St) := f_X3_isDigit_0 a0 S
def rm_X3_isDigit : Room := { frames := 0, cells := 0, slots := 0, locals := 0 }
set_option maxRecDepth 20000 in
set_option maxHeartbeats 2000000 in
theorem t_X3_isDigit_0 {x : Ctx} (C : Cx x WX cX3_isDigit RX3 1 rm_X3_isDigit (some .boolean)) {res : Int32 × St}  (x0 : Int32) (S : St) (h : f_X3_isDigit_0  x0 S = some res) : V x WX 1 (QI x WX res) S 0 [(0, .int x0)] [] := by
  unfold f_X3_isDigit_0 at h
  refine v_iload_n C 0 dX3_isDigit_0 rfl rfl (n := 1) rfl ?_
  refine v_bipush (v := 48) C dX3_isDigit_1 (by decide) (n := 3) rfl ?_
  refine v_icmp_lt C dX3_isDigit_3 (t := 16) (by decide) (n := 6) rfl (fun c1 => ?_) (fun c1 => ?_)
  · have h := ite_p c1 h
    refine v_iconst (v := 0) C dX3_isDigit_16 (by decide) (n := 17) rfl ?_
    obtain rfl := Option.some.inj h
    exact v_zret C (Or.inl rfl) dX3_isDigit_17
  · have h := ite_n c1 h
    refine v_iload_n C 0 dX3_isDigit_6 rfl rfl (n := 7) rfl ?_
    refine v_bipush (v := 57) C dX3_isDigit_7 (by decide) (n := 9) rfl ?_
    refine v_icmp_gt C dX3_isDigit_9 (t := 16) (by decide) (n := 12) rfl (fun c2 => ?_) (fun c2 => ?_)
    · have h := ite_p c2 h
      refine v_iconst (v := 0) C dX3_isDigit_16 (by decide) (n := 17) rfl ?_
      obtain rfl := Option.some.inj h
      exact v_zret C (Or.inl rfl) dX3_isDigit_17
    · have h := ite_n c2 h
      refine v_iconst (v := 1) C dX3_isDigit_12 (by decide) (n := 13) rfl ?_
      refine v_goto C dX3_isDigit_13 (n := 17) (by decide) ?_
      obtain rfl := Option.some.inj h
      exact v_zret C (Or.inr rfl) dX3_isDigit_17
theorem c_X3_isDigit {l : Launch} {D : va_G} {q : Nat → Nat} {ar : Ar} (a0 : Int32) (S : St) {res : Int32 × St} (h : m_X3_isDigit a0 S = some res) : MetI l D q ar WX yX3_isDigit cX3_isDigit 1 (some .boolean) rm_X3_isDigit [.int a0] S res := by
  refine metI_of adrX (by decide +kernel) (Nat.le_of_ble_eq_true rfl) (fun x e1 e2 e3 e4 C => ?_)
  subst e1; subst e2; subst e3; subst e4
  exact v_sub [0] rfl (t_X3_isDigit_0 C a0 S h)
theorem mf_X3_isDigit : CalS yX3_isDigit cX3_isDigit 1 (some .boolean) 1 := ⟨w_10_10, w_10_9, w_1_19, by decide +kernel, by decide +kernel, by decide +kernel⟩
/-! LabyrinthGarden$Reader.takeNumber -/
def f_X3_takeNumber_10 (k10 : St → Option (St))  (S : St) : Option (St) :=
  if (rd S 3 3) ≤ (rd S 3 4) then (
    some S)
  else (
    ck (rd S 3 4) 300 <|
    bI (m_X3_isDigit (rd S 2 (rd S 3 4).toNatClampNeg) S) fun r4 S3 =>
    if r4 = 0 then (
      some S3)
    else (
      if 9 < (rd S3 3 7) then (
        lt (up S3 3 4 ((rd S3 3 4) + 1)) fun S7 =>
        k10  S7)
      else (
        ck (rd S3 3 4) 300 <|
        lt (up S3 3 7 (((10 * (rd S3 3 7)) + (rd S3 2 (rd S3 3 4).toNatClampNeg)) - 48)) fun S9 =>
        lt (up S9 3 4 ((rd S9 3 4) + 1)) fun S10 =>
        k10  S10)))
def g_X3_takeNumber_10  : Nat → St → Option (St)
  | 0 => fun _ => none
  | n + 1 => f_X3_takeNumber_10 (g_X3_takeNumber_10  n)
def f_X3_takeNumber_0   (S : St) : Option (St) :=
  lt (up S 3 5 4) fun S1 =>
  lt (up S1 3 7 0) fun S2 =>
  g_X3_takeNumber_10  fuel  S2
def m_X3_takeNumber  (S : St) : Option (St) := f_X3_takeNumber_0  S
def rm_X3_takeNumber : Room := { frames := 1, cells := 0, slots := 0, locals := 20 }
set_option maxRecDepth 20000 in
set_option maxHeartbeats 2000000 in
theorem t_X3_takeNumber_10 {x : Ctx} (C : Cx x WX cX3_takeNumber RX3 1 rm_X3_takeNumber none) {res : St} {k10 : St → Option (St)} (hk10 : ∀  (S : St), k10  S = some res → V x WX 1 (QV x WX res) S 10 [(0, .ref (xq x 3))] [])  (S : St) (h : f_X3_takeNumber_10 k10  S = some res) : V x WX 1 (QV x WX res) S 10 [(0, .ref (xq x 3))] [] := by
  unfold f_X3_takeNumber_10 at h
  refine v_aload_n C 0 dX3_takeNumber_10 rfl rfl (n := 11) rfl ?_
  refine g_X3_position C w_3_15 dX3_takeNumber_11 (n := 14) rfl ?_
  refine v_aload_n C 0 dX3_takeNumber_14 rfl rfl (n := 15) rfl ?_
  refine g_X3_length C w_3_14 dX3_takeNumber_15 (n := 18) rfl ?_
  refine v_icmp_ge C dX3_takeNumber_18 (t := 82) (by decide) (n := 21) rfl (fun c1 => ?_) (fun c1 => ?_)
  · have h := ite_p c1 h
    obtain rfl := Option.some.inj h
    exact v_ret C dX3_takeNumber_82
  · have h := ite_n c1 h
    refine v_aload_n C 0 dX3_takeNumber_21 rfl rfl (n := 22) rfl ?_
    refine g_X3_text C w_3_23 dX3_takeNumber_22 (n := 25) rfl ?_
    refine v_aload_n C 0 dX3_takeNumber_25 rfl rfl (n := 26) rfl ?_
    refine g_X3_position C w_3_15 dX3_takeNumber_26 (n := 29) rfl ?_
    obtain ⟨hi2, h⟩ := ck_e h
    refine v_ald C aX_2 hi2 dX3_takeNumber_29 (n := 30) rfl ?_
    obtain ⟨r4, S3, eS3, h⟩ := bI_e h
    refine v_callSI (As := [.int (rd S 2 (rd S 3 4).toNatClampNeg)]) C (c_X3_isDigit (rd S 2 (rd S 3 4).toNatClampNeg) S eS3) mf_X3_isDigit w_10_8 ⟨rfl, rfl, by decide, by decide⟩ rfl rfl (Nat.le_of_ble_eq_true rfl) dX3_takeNumber_30 (n := 33) rfl ?_
    refine v_if_eq C dX3_takeNumber_33 (t := 82) (by decide) (n := 36) rfl (fun c5 => ?_) (fun c5 => ?_)
    · have h := ite_p c5 h
      obtain rfl := Option.some.inj h
      exact v_ret C dX3_takeNumber_82
    · have h := ite_n c5 h
      refine v_aload_n C 0 dX3_takeNumber_36 rfl rfl (n := 37) rfl ?_
      refine g_X3_tokenValue C w_3_18 dX3_takeNumber_37 (n := 40) rfl ?_
      refine v_bipush (v := 9) C dX3_takeNumber_40 (by decide) (n := 42) rfl ?_
      refine v_icmp_gt C dX3_takeNumber_42 (t := 69) (by decide) (n := 45) rfl (fun c6 => ?_) (fun c6 => ?_)
      · have h := ite_p c6 h
        refine v_aload_n C 0 dX3_takeNumber_69 rfl rfl (n := 70) rfl ?_
        refine v_dup C dX3_takeNumber_70 rfl (n := 71) rfl ?_
        refine g_X3_position C w_3_15 dX3_takeNumber_71 (n := 74) rfl ?_
        refine v_iconst (v := 1) C dX3_takeNumber_74 (by decide) (n := 75) rfl ?_
        refine v_iadd C dX3_takeNumber_75 (n := 76) rfl ?_
        obtain ⟨S7, eS7, h⟩ := lt_e h
        refine p_X3_position C w_3_15 dX3_takeNumber_76 (n := 79) rfl eS7 ?_
        refine v_goto C dX3_takeNumber_79 (n := 10) (by decide) ?_
        refine v_sub [0] rfl ?_
        exact hk10  S7 h
      · have h := ite_n c6 h
        refine v_aload_n C 0 dX3_takeNumber_45 rfl rfl (n := 46) rfl ?_
        refine v_bipush (v := 10) C dX3_takeNumber_46 (by decide) (n := 48) rfl ?_
        refine v_aload_n C 0 dX3_takeNumber_48 rfl rfl (n := 49) rfl ?_
        refine g_X3_tokenValue C w_3_18 dX3_takeNumber_49 (n := 52) rfl ?_
        refine v_imul C dX3_takeNumber_52 (n := 53) rfl ?_
        refine v_aload_n C 0 dX3_takeNumber_53 rfl rfl (n := 54) rfl ?_
        refine g_X3_text C w_3_23 dX3_takeNumber_54 (n := 57) rfl ?_
        refine v_aload_n C 0 dX3_takeNumber_57 rfl rfl (n := 58) rfl ?_
        refine g_X3_position C w_3_15 dX3_takeNumber_58 (n := 61) rfl ?_
        obtain ⟨hi8, h⟩ := ck_e h
        refine v_ald C aX_2 hi8 dX3_takeNumber_61 (n := 62) rfl ?_
        refine v_iadd C dX3_takeNumber_62 (n := 63) rfl ?_
        refine v_bipush (v := 48) C dX3_takeNumber_63 (by decide) (n := 65) rfl ?_
        refine v_isub C dX3_takeNumber_65 (n := 66) rfl ?_
        obtain ⟨S9, eS9, h⟩ := lt_e h
        refine p_X3_tokenValue C w_3_18 dX3_takeNumber_66 (n := 69) rfl eS9 ?_
        refine v_aload_n C 0 dX3_takeNumber_69 rfl rfl (n := 70) rfl ?_
        refine v_dup C dX3_takeNumber_70 rfl (n := 71) rfl ?_
        refine g_X3_position C w_3_15 dX3_takeNumber_71 (n := 74) rfl ?_
        refine v_iconst (v := 1) C dX3_takeNumber_74 (by decide) (n := 75) rfl ?_
        refine v_iadd C dX3_takeNumber_75 (n := 76) rfl ?_
        obtain ⟨S10, eS10, h⟩ := lt_e h
        refine p_X3_position C w_3_15 dX3_takeNumber_76 (n := 79) rfl eS10 ?_
        refine v_goto C dX3_takeNumber_79 (n := 10) (by decide) ?_
        refine v_sub [0] rfl ?_
        exact hk10  S10 h
theorem tg_X3_takeNumber_10 {x : Ctx} (C : Cx x WX cX3_takeNumber RX3 1 rm_X3_takeNumber none) {res : St}  : ∀ (n : Nat)  (S : St), g_X3_takeNumber_10  n  S = some res → V x WX 1 (QV x WX res) S 10 [(0, .ref (xq x 3))] [] := by
  intro n
  induction n with
  | zero => intro  S h; cases h
  | succ n ih => intro  S h; exact t_X3_takeNumber_10 C (fun  S h => ih  S h)  S h
set_option maxRecDepth 20000 in
set_option maxHeartbeats 2000000 in
theorem t_X3_takeNumber_0 {x : Ctx} (C : Cx x WX cX3_takeNumber RX3 1 rm_X3_takeNumber none) {res : St}   (S : St) (h : f_X3_takeNumber_0   S = some res) : V x WX 1 (QV x WX res) S 0 [(0, .ref (xq x 3))] [] := by
  unfold f_X3_takeNumber_0 at h
  refine v_aload_n C 0 dX3_takeNumber_0 rfl rfl (n := 1) rfl ?_
  refine v_iconst (v := 4) C dX3_takeNumber_1 (by decide) (n := 2) rfl ?_
  obtain ⟨S1, eS1, h⟩ := lt_e h
  refine p_X3_token C w_3_16 dX3_takeNumber_2 (n := 5) rfl eS1 ?_
  refine v_aload_n C 0 dX3_takeNumber_5 rfl rfl (n := 6) rfl ?_
  refine v_iconst (v := 0) C dX3_takeNumber_6 (by decide) (n := 7) rfl ?_
  obtain ⟨S2, eS2, h⟩ := lt_e h
  refine p_X3_tokenValue C w_3_18 dX3_takeNumber_7 (n := 10) rfl eS2 ?_
  refine v_sub [0] rfl ?_
  exact tg_X3_takeNumber_10 C  fuel  S2 h
theorem c_X3_takeNumber {l : Launch} {D : va_G} {q : Nat → Nat} {ar : Ar}  (S : St) {res : St} (h : m_X3_takeNumber  S = some res) : MetV l D q ar WX yX3_takeNumber cX3_takeNumber 1 none rm_X3_takeNumber [.ref (q 3)] S res := by
  refine metV_of adrX (by decide +kernel) (Nat.le_of_ble_eq_true rfl) (fun x e1 e2 e3 e4 C => ?_)
  subst e1; subst e2; subst e3; subst e4
  exact v_sub [0] rfl (t_X3_takeNumber_0 C  S h)
theorem mf_X3_takeNumber : CalV yX3_takeNumber cX3_takeNumber 1 none RX3 0 := ⟨w_10_14, w_10_12, w_10_13, w_1_19, rfl, by decide +kernel, by decide +kernel, by decide +kernel⟩
/-! LabyrinthGarden$Reader.isLetter -/
def f_X3_isLetter_0  (x0 : Int32) (S : St) : Option (Int32 × St) :=
  if x0 < 97 then (
    some (0, S))
  else (
    if 122 < x0 then (
      some (0, S))
    else (
      some (1, S)))
def m_X3_isLetter (a0 : Int32) (S : St) : Option (Int32 × St) := f_X3_isLetter_0 a0 S
def rm_X3_isLetter : Room := { frames := 0, cells := 0, slots := 0, locals := 0 }
set_option maxRecDepth 20000 in
set_option maxHeartbeats 2000000 in
theorem t_X3_isLetter_0 {x : Ctx} (C : Cx x WX cX3_isLetter RX3 1 rm_X3_isLetter (some .boolean)) {res : Int32 × St}  (x0 : Int32) (S : St) (h : f_X3_isLetter_0  x0 S = some res) : V x WX 1 (QI x WX res) S 0 [(0, .int x0)] [] := by
  unfold f_X3_isLetter_0 at h
  refine v_iload_n C 0 dX3_isLetter_0 rfl rfl (n := 1) rfl ?_
  refine v_bipush (v := 97) C dX3_isLetter_1 (by decide) (n := 3) rfl ?_
  refine v_icmp_lt C dX3_isLetter_3 (t := 16) (by decide) (n := 6) rfl (fun c1 => ?_) (fun c1 => ?_)
  · have h := ite_p c1 h
    refine v_iconst (v := 0) C dX3_isLetter_16 (by decide) (n := 17) rfl ?_
    obtain rfl := Option.some.inj h
    exact v_zret C (Or.inl rfl) dX3_isLetter_17
  · have h := ite_n c1 h
    refine v_iload_n C 0 dX3_isLetter_6 rfl rfl (n := 7) rfl ?_
    refine v_bipush (v := 122) C dX3_isLetter_7 (by decide) (n := 9) rfl ?_
    refine v_icmp_gt C dX3_isLetter_9 (t := 16) (by decide) (n := 12) rfl (fun c2 => ?_) (fun c2 => ?_)
    · have h := ite_p c2 h
      refine v_iconst (v := 0) C dX3_isLetter_16 (by decide) (n := 17) rfl ?_
      obtain rfl := Option.some.inj h
      exact v_zret C (Or.inl rfl) dX3_isLetter_17
    · have h := ite_n c2 h
      refine v_iconst (v := 1) C dX3_isLetter_12 (by decide) (n := 13) rfl ?_
      refine v_goto C dX3_isLetter_13 (n := 17) (by decide) ?_
      obtain rfl := Option.some.inj h
      exact v_zret C (Or.inr rfl) dX3_isLetter_17
theorem c_X3_isLetter {l : Launch} {D : va_G} {q : Nat → Nat} {ar : Ar} (a0 : Int32) (S : St) {res : Int32 × St} (h : m_X3_isLetter a0 S = some res) : MetI l D q ar WX yX3_isLetter cX3_isLetter 1 (some .boolean) rm_X3_isLetter [.int a0] S res := by
  refine metI_of adrX (by decide +kernel) (Nat.le_of_ble_eq_true rfl) (fun x e1 e2 e3 e4 C => ?_)
  subst e1; subst e2; subst e3; subst e4
  exact v_sub [0] rfl (t_X3_isLetter_0 C a0 S h)
theorem mf_X3_isLetter : CalS yX3_isLetter cX3_isLetter 1 (some .boolean) 1 := ⟨w_10_17, w_10_16, w_1_19, by decide +kernel, by decide +kernel, by decide +kernel⟩
/-! LabyrinthGarden$Reader.takeDeed -/
def f_X3_takeDeed_0  (x1 : Int32) (S : St) : Option (St) :=
  lt (up S 3 5 8) fun S1 =>
  if x1 = 1685221232 then (
    lt (up S1 3 7 2) fun S3 =>
    some S3)
  else (
  if x1 = 1937006969 then (
    lt (up S1 3 7 0) fun S5 =>
    some S5)
  else (
  if x1 = 1952541541 then (
    lt (up S1 3 7 1) fun S7 =>
    some S7)
  else (
    lt (up S1 3 5 0) fun S8 =>
    some S8)))
def m_X3_takeDeed (a1 : Int32) (S : St) : Option (St) := f_X3_takeDeed_0 a1 S
def rm_X3_takeDeed : Room := { frames := 0, cells := 0, slots := 0, locals := 0 }
set_option maxRecDepth 20000 in
set_option maxHeartbeats 2000000 in
theorem t_X3_takeDeed_0 {x : Ctx} (C : Cx x WX cX3_takeDeed RX3 2 rm_X3_takeDeed none) {res : St}  (x1 : Int32) (S : St) (h : f_X3_takeDeed_0  x1 S = some res) : V x WX 2 (QV x WX res) S 0 [(0, .ref (xq x 3)), (1, .int x1)] [] := by
  unfold f_X3_takeDeed_0 at h
  refine v_aload_n C 0 dX3_takeDeed_0 rfl rfl (n := 1) rfl ?_
  refine v_bipush (v := 8) C dX3_takeDeed_1 (by decide) (n := 3) rfl ?_
  obtain ⟨S1, eS1, h⟩ := lt_e h
  refine p_X3_token C w_3_16 dX3_takeDeed_3 (n := 6) rfl eS1 ?_
  refine v_iload_n C 1 dX3_takeDeed_6 rfl rfl (n := 7) rfl ?_
  by_cases c2 : x1 = 1685221232
  · have h := ite_p c2 h
    refine v_look (off := 49) C dX3_takeDeed_7 (by decide) (by rw [c2] <;> decide) (t := 56) (by decide) ?_
    refine v_aload_n C 0 dX3_takeDeed_56 rfl rfl (n := 57) rfl ?_
    refine v_iconst (v := 2) C dX3_takeDeed_57 (by decide) (n := 58) rfl ?_
    obtain ⟨S3, eS3, h⟩ := lt_e h
    refine p_X3_tokenValue C w_3_18 dX3_takeDeed_58 (n := 61) rfl eS3 ?_
    refine v_goto C dX3_takeDeed_61 (n := 69) (by decide) ?_
    obtain rfl := Option.some.inj h
    exact v_ret C dX3_takeDeed_69
  · have h := ite_n c2 h
    by_cases c4 : x1 = 1937006969
    · have h := ite_p c4 h
      refine v_look (off := 33) C dX3_takeDeed_7 (by decide) (by rw [c4] <;> decide) (t := 40) (by decide) ?_
      refine v_aload_n C 0 dX3_takeDeed_40 rfl rfl (n := 41) rfl ?_
      refine v_iconst (v := 0) C dX3_takeDeed_41 (by decide) (n := 42) rfl ?_
      obtain ⟨S5, eS5, h⟩ := lt_e h
      refine p_X3_tokenValue C w_3_18 dX3_takeDeed_42 (n := 45) rfl eS5 ?_
      refine v_goto C dX3_takeDeed_45 (n := 69) (by decide) ?_
      obtain rfl := Option.some.inj h
      exact v_ret C dX3_takeDeed_69
    · have h := ite_n c4 h
      by_cases c6 : x1 = 1952541541
      · have h := ite_p c6 h
        refine v_look (off := 41) C dX3_takeDeed_7 (by decide) (by rw [c6] <;> decide) (t := 48) (by decide) ?_
        refine v_aload_n C 0 dX3_takeDeed_48 rfl rfl (n := 49) rfl ?_
        refine v_iconst (v := 1) C dX3_takeDeed_49 (by decide) (n := 50) rfl ?_
        obtain ⟨S7, eS7, h⟩ := lt_e h
        refine p_X3_tokenValue C w_3_18 dX3_takeDeed_50 (n := 53) rfl eS7 ?_
        refine v_goto C dX3_takeDeed_53 (n := 69) (by decide) ?_
        obtain rfl := Option.some.inj h
        exact v_ret C dX3_takeDeed_69
      · have h := ite_n c6 h
        refine v_look (off := 57) C dX3_takeDeed_7 (by decide) ((lv_osw c2 (by decide)).trans ((lv_osw c4 (by decide)).trans ((lv_osw c6 (by decide)).trans (rfl)))) (t := 64) (by decide) ?_
        refine v_aload_n C 0 dX3_takeDeed_64 rfl rfl (n := 65) rfl ?_
        refine v_iconst (v := 0) C dX3_takeDeed_65 (by decide) (n := 66) rfl ?_
        obtain ⟨S8, eS8, h⟩ := lt_e h
        refine p_X3_token C w_3_16 dX3_takeDeed_66 (n := 69) rfl eS8 ?_
        obtain rfl := Option.some.inj h
        exact v_ret C dX3_takeDeed_69
theorem c_X3_takeDeed {l : Launch} {D : va_G} {q : Nat → Nat} {ar : Ar} (a1 : Int32) (S : St) {res : St} (h : m_X3_takeDeed a1 S = some res) : MetV l D q ar WX yX3_takeDeed cX3_takeDeed 2 none rm_X3_takeDeed [.ref (q 3), .int a1] S res := by
  refine metV_of adrX (by decide +kernel) (Nat.le_of_ble_eq_true rfl) (fun x e1 e2 e3 e4 C => ?_)
  subst e1; subst e2; subst e3; subst e4
  exact v_sub [0, 1] rfl (t_X3_takeDeed_0 C a1 S h)
theorem mf_X3_takeDeed : CalV yX3_takeDeed cX3_takeDeed 2 none RX3 1 := ⟨w_11_1, w_10_23, w_11_0, w_1_19, rfl, by decide +kernel, by decide +kernel, by decide +kernel⟩
/-! LabyrinthGarden$Reader.takeLetters -/
def f_X3_takeLetters_100  (x1 : Int32) (x2 : Int32) (S : St) : Option (St) :=
  if x2 = 4 then (
    bV (m_X3_takeDeed x1 S) fun S2 =>
    some S2)
  else (
    some S)
def f_X3_takeLetters_56  (x1 : Int32) (S : St) : Option (St) :=
  lt (((rd S 3 4) - (rd S 3 6)) : Int32) fun y1 =>
  lt (up S 3 5 0) fun S2 =>
  if y1 = 1 then (
    if 4 ≤ (x1 - 97) then (
      f_X3_takeLetters_100  x1 y1 S2)
    else (
      lt (up S2 3 5 2) fun S5 =>
      lt (up S5 3 7 (x1 - 97)) fun S6 =>
      some S6))
  else (
    f_X3_takeLetters_100  x1 y1 S2)
def f_X3_takeLetters_2 (k2 : Int32 → St → Option (St)) (x1 : Int32) (S : St) : Option (St) :=
  if (rd S 3 3) ≤ (rd S 3 4) then (
    f_X3_takeLetters_56  x1 S)
  else (
    ck (rd S 3 4) 300 <|
    bI (m_X3_isLetter (rd S 2 (rd S 3 4).toNatClampNeg) S) fun r4 S3 =>
    if r4 = 0 then (
      f_X3_takeLetters_56  x1 S3)
    else (
      ck (rd S3 3 4) 300 <|
      lt (((shl x1 8) ||| (rd S3 2 (rd S3 3 4).toNatClampNeg)) : Int32) fun y7 =>
      lt (up S3 3 4 ((rd S3 3 4) + 1)) fun S8 =>
      k2 y7 S8))
def g_X3_takeLetters_2  : Nat → Int32 → St → Option (St)
  | 0 => fun _ _ => none
  | n + 1 => f_X3_takeLetters_2 (g_X3_takeLetters_2  n)
def f_X3_takeLetters_0   (S : St) : Option (St) :=
  g_X3_takeLetters_2  fuel 0 S
def m_X3_takeLetters  (S : St) : Option (St) := f_X3_takeLetters_0  S
def rm_X3_takeLetters : Room := { frames := 1, cells := 0, slots := 0, locals := 21 }
set_option maxRecDepth 20000 in
set_option maxHeartbeats 2000000 in
theorem t_X3_takeLetters_100 {x : Ctx} (C : Cx x WX cX3_takeLetters RX3 3 rm_X3_takeLetters none) {res : St}  (x1 : Int32) (x2 : Int32) (S : St) (h : f_X3_takeLetters_100  x1 x2 S = some res) : V x WX 3 (QV x WX res) S 100 [(0, .ref (xq x 3)), (1, .int x1), (2, .int x2)] [] := by
  unfold f_X3_takeLetters_100 at h
  refine v_iload_n C 2 dX3_takeLetters_100 rfl rfl (n := 101) rfl ?_
  refine v_iconst (v := 4) C dX3_takeLetters_101 (by decide) (n := 102) rfl ?_
  refine v_icmp_ne C dX3_takeLetters_102 (t := 110) (by decide) (n := 105) rfl (fun c1 => ?_) (fun c1 => ?_)
  · have h := ite_n c1 h
    obtain rfl := Option.some.inj h
    exact v_ret C dX3_takeLetters_110
  · have h := ite_p c1 h
    refine v_aload_n C 0 dX3_takeLetters_105 rfl rfl (n := 106) rfl ?_
    refine v_iload_n C 1 dX3_takeLetters_106 rfl rfl (n := 107) rfl ?_
    obtain ⟨S2, eS2, h⟩ := bV_e h
    refine v_callVV (As := [.int x1]) C (c_X3_takeDeed x1 S eS2) mf_X3_takeDeed w_10_22 (oX3 _ _ _) rfl ⟨rfl, rfl, by decide, by decide⟩ rfl rfl (Nat.le_of_ble_eq_true rfl) dX3_takeLetters_107 (n := 110) rfl ?_
    obtain rfl := Option.some.inj h
    exact v_ret C dX3_takeLetters_110
set_option maxRecDepth 20000 in
set_option maxHeartbeats 2000000 in
theorem t_X3_takeLetters_56 {x : Ctx} (C : Cx x WX cX3_takeLetters RX3 3 rm_X3_takeLetters none) {res : St}  (x1 : Int32) (S : St) (h : f_X3_takeLetters_56  x1 S = some res) : V x WX 3 (QV x WX res) S 56 [(0, .ref (xq x 3)), (1, .int x1)] [] := by
  unfold f_X3_takeLetters_56 at h
  refine v_aload_n C 0 dX3_takeLetters_56 rfl rfl (n := 57) rfl ?_
  refine g_X3_position C w_3_15 dX3_takeLetters_57 (n := 60) rfl ?_
  refine v_aload_n C 0 dX3_takeLetters_60 rfl rfl (n := 61) rfl ?_
  refine g_X3_tokenAt C w_3_17 dX3_takeLetters_61 (n := 64) rfl ?_
  refine v_isub C dX3_takeLetters_64 (n := 65) rfl ?_
  obtain ⟨y1, ey1, h⟩ := lt_e h
  refine v_istore_n (L' := [(2, .int y1), (0, .ref (xq x 3)), (1, .int x1)]) C dX3_takeLetters_65 rfl (by decide) rfl (n := 66) rfl ey1 ?_
  refine v_aload_n C 1 dX3_takeLetters_66 rfl rfl (n := 67) rfl ?_
  refine v_iconst (v := 0) C dX3_takeLetters_67 (by decide) (n := 68) rfl ?_
  obtain ⟨S2, eS2, h⟩ := lt_e h
  refine p_X3_token C w_3_16 dX3_takeLetters_68 (n := 71) rfl eS2 ?_
  refine v_iload_n C 0 dX3_takeLetters_71 rfl rfl (n := 72) rfl ?_
  refine v_iconst (v := 1) C dX3_takeLetters_72 (by decide) (n := 73) rfl ?_
  refine v_icmp_ne C dX3_takeLetters_73 (t := 100) (by decide) (n := 76) rfl (fun c3 => ?_) (fun c3 => ?_)
  · have h := ite_n c3 h
    refine v_sub [1, 2, 0] rfl ?_
    exact t_X3_takeLetters_100 C  x1 y1 S2 h
  · have h := ite_p c3 h
    refine v_iload_n C 2 dX3_takeLetters_76 rfl rfl (n := 77) rfl ?_
    refine v_bipush (v := 97) C dX3_takeLetters_77 (by decide) (n := 79) rfl ?_
    refine v_isub C dX3_takeLetters_79 (n := 80) rfl ?_
    refine v_iconst (v := 4) C dX3_takeLetters_80 (by decide) (n := 81) rfl ?_
    refine v_icmp_ge C dX3_takeLetters_81 (t := 100) (by decide) (n := 84) rfl (fun c4 => ?_) (fun c4 => ?_)
    · have h := ite_p c4 h
      refine v_sub [1, 2, 0] rfl ?_
      exact t_X3_takeLetters_100 C  x1 y1 S2 h
    · have h := ite_n c4 h
      refine v_aload_n C 1 dX3_takeLetters_84 rfl rfl (n := 85) rfl ?_
      refine v_iconst (v := 2) C dX3_takeLetters_85 (by decide) (n := 86) rfl ?_
      obtain ⟨S5, eS5, h⟩ := lt_e h
      refine p_X3_token C w_3_16 dX3_takeLetters_86 (n := 89) rfl eS5 ?_
      refine v_aload_n C 1 dX3_takeLetters_89 rfl rfl (n := 90) rfl ?_
      refine v_iload_n C 2 dX3_takeLetters_90 rfl rfl (n := 91) rfl ?_
      refine v_bipush (v := 97) C dX3_takeLetters_91 (by decide) (n := 93) rfl ?_
      refine v_isub C dX3_takeLetters_93 (n := 94) rfl ?_
      obtain ⟨S6, eS6, h⟩ := lt_e h
      refine p_X3_tokenValue C w_3_18 dX3_takeLetters_94 (n := 97) rfl eS6 ?_
      refine v_goto C dX3_takeLetters_97 (n := 110) (by decide) ?_
      obtain rfl := Option.some.inj h
      exact v_ret C dX3_takeLetters_110
set_option maxRecDepth 20000 in
set_option maxHeartbeats 2000000 in
theorem t_X3_takeLetters_2 {x : Ctx} (C : Cx x WX cX3_takeLetters RX3 3 rm_X3_takeLetters none) {res : St} {k2 : Int32 → St → Option (St)} (hk2 : ∀ (x1 : Int32) (S : St), k2 x1 S = some res → V x WX 3 (QV x WX res) S 2 [(0, .ref (xq x 3)), (1, .int x1)] []) (x1 : Int32) (S : St) (h : f_X3_takeLetters_2 k2 x1 S = some res) : V x WX 3 (QV x WX res) S 2 [(0, .ref (xq x 3)), (1, .int x1)] [] := by
  unfold f_X3_takeLetters_2 at h
  refine v_aload_n C 0 dX3_takeLetters_2 rfl rfl (n := 3) rfl ?_
  refine g_X3_position C w_3_15 dX3_takeLetters_3 (n := 6) rfl ?_
  refine v_aload_n C 0 dX3_takeLetters_6 rfl rfl (n := 7) rfl ?_
  refine g_X3_length C w_3_14 dX3_takeLetters_7 (n := 10) rfl ?_
  refine v_icmp_ge C dX3_takeLetters_10 (t := 56) (by decide) (n := 13) rfl (fun c1 => ?_) (fun c1 => ?_)
  · have h := ite_p c1 h
    refine v_sub [0, 1] rfl ?_
    exact t_X3_takeLetters_56 C  x1 S h
  · have h := ite_n c1 h
    refine v_aload_n C 0 dX3_takeLetters_13 rfl rfl (n := 14) rfl ?_
    refine g_X3_text C w_3_23 dX3_takeLetters_14 (n := 17) rfl ?_
    refine v_aload_n C 0 dX3_takeLetters_17 rfl rfl (n := 18) rfl ?_
    refine g_X3_position C w_3_15 dX3_takeLetters_18 (n := 21) rfl ?_
    obtain ⟨hi2, h⟩ := ck_e h
    refine v_ald C aX_2 hi2 dX3_takeLetters_21 (n := 22) rfl ?_
    obtain ⟨r4, S3, eS3, h⟩ := bI_e h
    refine v_callSI (As := [.int (rd S 2 (rd S 3 4).toNatClampNeg)]) C (c_X3_isLetter (rd S 2 (rd S 3 4).toNatClampNeg) S eS3) mf_X3_isLetter w_10_15 ⟨rfl, rfl, by decide, by decide⟩ rfl rfl (Nat.le_of_ble_eq_true rfl) dX3_takeLetters_22 (n := 25) rfl ?_
    refine v_if_eq C dX3_takeLetters_25 (t := 56) (by decide) (n := 28) rfl (fun c5 => ?_) (fun c5 => ?_)
    · have h := ite_p c5 h
      refine v_sub [0, 1] rfl ?_
      exact t_X3_takeLetters_56 C  x1 S3 h
    · have h := ite_n c5 h
      refine v_iload_n C 1 dX3_takeLetters_28 rfl rfl (n := 29) rfl ?_
      refine v_bipush (v := 8) C dX3_takeLetters_29 (by decide) (n := 31) rfl ?_
      refine v_ishl C dX3_takeLetters_31 (n := 32) rfl ?_
      refine v_aload_n C 0 dX3_takeLetters_32 rfl rfl (n := 33) rfl ?_
      refine g_X3_text C w_3_23 dX3_takeLetters_33 (n := 36) rfl ?_
      refine v_aload_n C 0 dX3_takeLetters_36 rfl rfl (n := 37) rfl ?_
      refine g_X3_position C w_3_15 dX3_takeLetters_37 (n := 40) rfl ?_
      obtain ⟨hi6, h⟩ := ck_e h
      refine v_ald C aX_2 hi6 dX3_takeLetters_40 (n := 41) rfl ?_
      refine v_ior C dX3_takeLetters_41 (n := 42) rfl ?_
      obtain ⟨y7, ey7, h⟩ := lt_e h
      refine v_istore_n (L' := [(1, .int y7), (0, .ref (xq x 3))]) C dX3_takeLetters_42 rfl (by decide) rfl (n := 43) rfl ey7 ?_
      refine v_aload_n C 1 dX3_takeLetters_43 rfl rfl (n := 44) rfl ?_
      refine v_dup C dX3_takeLetters_44 rfl (n := 45) rfl ?_
      refine g_X3_position C w_3_15 dX3_takeLetters_45 (n := 48) rfl ?_
      refine v_iconst (v := 1) C dX3_takeLetters_48 (by decide) (n := 49) rfl ?_
      refine v_iadd C dX3_takeLetters_49 (n := 50) rfl ?_
      obtain ⟨S8, eS8, h⟩ := lt_e h
      refine p_X3_position C w_3_15 dX3_takeLetters_50 (n := 53) rfl eS8 ?_
      refine v_goto C dX3_takeLetters_53 (n := 2) (by decide) ?_
      refine v_sub [1, 0] rfl ?_
      exact hk2 y7 S8 h
theorem tg_X3_takeLetters_2 {x : Ctx} (C : Cx x WX cX3_takeLetters RX3 3 rm_X3_takeLetters none) {res : St}  : ∀ (n : Nat) (x1 : Int32) (S : St), g_X3_takeLetters_2  n x1 S = some res → V x WX 3 (QV x WX res) S 2 [(0, .ref (xq x 3)), (1, .int x1)] [] := by
  intro n
  induction n with
  | zero => intro x1 S h; cases h
  | succ n ih => intro x1 S h; exact t_X3_takeLetters_2 C (fun x1 S h => ih x1 S h) x1 S h
set_option maxRecDepth 20000 in
set_option maxHeartbeats 2000000 in
theorem t_X3_takeLetters_0 {x : Ctx} (C : Cx x WX cX3_takeLetters RX3 3 rm_X3_takeLetters none) {res : St}   (S : St) (h : f_X3_takeLetters_0   S = some res) : V x WX 3 (QV x WX res) S 0 [(0, .ref (xq x 3))] [] := by
  unfold f_X3_takeLetters_0 at h
  refine v_iconst (v := 0) C dX3_takeLetters_0 (by decide) (n := 1) rfl ?_
  refine v_istore_n (L' := [(1, .int 0), (0, .ref (xq x 3))]) C dX3_takeLetters_1 rfl (by decide) rfl (n := 2) rfl rfl ?_
  refine v_sub [1, 0] rfl ?_
  exact tg_X3_takeLetters_2 C  fuel 0 S h
theorem c_X3_takeLetters {l : Launch} {D : va_G} {q : Nat → Nat} {ar : Ar}  (S : St) {res : St} (h : m_X3_takeLetters  S = some res) : MetV l D q ar WX yX3_takeLetters cX3_takeLetters 3 none rm_X3_takeLetters [.ref (q 3)] S res := by
  refine metV_of adrX (by decide +kernel) (Nat.le_of_ble_eq_true rfl) (fun x e1 e2 e3 e4 C => ?_)
  subst e1; subst e2; subst e3; subst e4
  exact v_sub [0] rfl (t_X3_takeLetters_0 C  S h)
theorem mf_X3_takeLetters : CalV yX3_takeLetters cX3_takeLetters 3 none RX3 0 := ⟨w_10_21, w_10_19, w_10_20, w_1_19, rfl, by decide +kernel, by decide +kernel, by decide +kernel⟩
/-! LabyrinthGarden$Reader.signOf -/
def f_X3_signOf_0  (x0 : Int32) (S : St) : Option (Int32 × St) :=
  if x0 = 58 then (
    some (16, S))
  else (
  if x0 = 59 then (
    some (64, S))
  else (
  if x0 = 124 then (
    some (32, S))
  else (
    some (0, S))))
def m_X3_signOf (a0 : Int32) (S : St) : Option (Int32 × St) := f_X3_signOf_0 a0 S
def rm_X3_signOf : Room := { frames := 0, cells := 0, slots := 0, locals := 0 }
set_option maxRecDepth 20000 in
set_option maxHeartbeats 2000000 in
theorem t_X3_signOf_0 {x : Ctx} (C : Cx x WX cX3_signOf RX3 1 rm_X3_signOf (some .int)) {res : Int32 × St}  (x0 : Int32) (S : St) (h : f_X3_signOf_0  x0 S = some res) : V x WX 1 (QI x WX res) S 0 [(0, .int x0)] [] := by
  unfold f_X3_signOf_0 at h
  refine v_iload_n C 0 dX3_signOf_0 rfl rfl (n := 1) rfl ?_
  by_cases c1 : x0 = 58
  · have h := ite_p c1 h
    refine v_look (off := 35) C dX3_signOf_1 (by decide) (by rw [c1] <;> decide) (t := 36) (by decide) ?_
    refine v_bipush (v := 16) C dX3_signOf_36 (by decide) (n := 38) rfl ?_
    obtain rfl := Option.some.inj h
    exact v_iret C dX3_signOf_38
  · have h := ite_n c1 h
    by_cases c2 : x0 = 59
    · have h := ite_p c2 h
      refine v_look (off := 41) C dX3_signOf_1 (by decide) (by rw [c2] <;> decide) (t := 42) (by decide) ?_
      refine v_bipush (v := 64) C dX3_signOf_42 (by decide) (n := 44) rfl ?_
      obtain rfl := Option.some.inj h
      exact v_iret C dX3_signOf_44
    · have h := ite_n c2 h
      by_cases c3 : x0 = 124
      · have h := ite_p c3 h
        refine v_look (off := 38) C dX3_signOf_1 (by decide) (by rw [c3] <;> decide) (t := 39) (by decide) ?_
        refine v_bipush (v := 32) C dX3_signOf_39 (by decide) (n := 41) rfl ?_
        obtain rfl := Option.some.inj h
        exact v_iret C dX3_signOf_41
      · have h := ite_n c3 h
        refine v_look (off := 44) C dX3_signOf_1 (by decide) ((lv_osw c1 (by decide)).trans ((lv_osw c2 (by decide)).trans ((lv_osw c3 (by decide)).trans (rfl)))) (t := 45) (by decide) ?_
        refine v_iconst (v := 0) C dX3_signOf_45 (by decide) (n := 46) rfl ?_
        obtain rfl := Option.some.inj h
        exact v_iret C dX3_signOf_46
theorem c_X3_signOf {l : Launch} {D : va_G} {q : Nat → Nat} {ar : Ar} (a0 : Int32) (S : St) {res : Int32 × St} (h : m_X3_signOf a0 S = some res) : MetI l D q ar WX yX3_signOf cX3_signOf 1 (some .int) rm_X3_signOf [.int a0] S res := by
  refine metI_of adrX (by decide +kernel) (Nat.le_of_ble_eq_true rfl) (fun x e1 e2 e3 e4 C => ?_)
  subst e1; subst e2; subst e3; subst e4
  exact v_sub [0] rfl (t_X3_signOf_0 C a0 S h)
theorem mf_X3_signOf : CalS yX3_signOf cX3_signOf 1 (some .int) 1 := ⟨w_11_4, w_11_3, w_1_19, by decide +kernel, by decide +kernel, by decide +kernel⟩
/-! LabyrinthGarden$Reader.fail -/
def f_X3_fail_0  (x1 : Int32) (x2 : Int32) (S : St) : Option (St) :=
  lt (up S 3 0 x1) fun S1 =>
  lt (up S1 3 1 x2) fun S2 =>
  some S2
def m_X3_fail (a1 : Int32) (a2 : Int32) (S : St) : Option (St) := f_X3_fail_0 a1 a2 S
def rm_X3_fail : Room := { frames := 0, cells := 0, slots := 0, locals := 0 }
set_option maxRecDepth 20000 in
set_option maxHeartbeats 2000000 in
theorem t_X3_fail_0 {x : Ctx} (C : Cx x WX cX3_fail RX3 3 rm_X3_fail none) {res : St}  (x1 : Int32) (x2 : Int32) (S : St) (h : f_X3_fail_0  x1 x2 S = some res) : V x WX 3 (QV x WX res) S 0 [(0, .ref (xq x 3)), (1, .int x1), (2, .int x2)] [] := by
  unfold f_X3_fail_0 at h
  refine v_aload_n C 0 dX3_fail_0 rfl rfl (n := 1) rfl ?_
  refine v_iload_n C 1 dX3_fail_1 rfl rfl (n := 2) rfl ?_
  obtain ⟨S1, eS1, h⟩ := lt_e h
  refine p_X3_fault C w_3_12 dX3_fail_2 (n := 5) rfl eS1 ?_
  refine v_aload_n C 0 dX3_fail_5 rfl rfl (n := 6) rfl ?_
  refine v_iload_n C 2 dX3_fail_6 rfl rfl (n := 7) rfl ?_
  obtain ⟨S2, eS2, h⟩ := lt_e h
  refine p_X3_faultAt C w_3_13 dX3_fail_7 (n := 10) rfl eS2 ?_
  obtain rfl := Option.some.inj h
  exact v_ret C dX3_fail_10
theorem c_X3_fail {l : Launch} {D : va_G} {q : Nat → Nat} {ar : Ar} (a1 : Int32) (a2 : Int32) (S : St) {res : St} (h : m_X3_fail a1 a2 S = some res) : MetV l D q ar WX yX3_fail cX3_fail 3 none rm_X3_fail [.ref (q 3), .int a1, .int a2] S res := by
  refine metV_of adrX (by decide +kernel) (Nat.le_of_ble_eq_true rfl) (fun x e1 e2 e3 e4 C => ?_)
  subst e1; subst e2; subst e3; subst e4
  exact v_sub [0, 1, 2] rfl (t_X3_fail_0 C a1 a2 S h)
theorem mf_X3_fail : CalV yX3_fail cX3_fail 3 none RX3 2 := ⟨w_11_8, w_11_6, w_11_7, w_1_19, rfl, by decide +kernel, by decide +kernel, by decide +kernel⟩
/-! LabyrinthGarden$Reader.takes -/
def f_X3_takes_136  (x1 : Int32) (S : St) : Option (Int32 × St) :=
  if ((rd S 3 5) &&& x1) = 0 then (
    bV (m_X3_fail 1 (rd S 3 6) S) fun S2 =>
    some (0, S2))
  else (
    some (1, S))
def f_X3_takes_39  (x1 : Int32) (S : St) : Option (Int32 × St) :=
  lt (up S 3 6 (rd S 3 4)) fun S1 =>
  if (rd S1 3 4) < (rd S1 3 3) then (
    ck (rd S1 3 4) 300 <|
    bI (m_X3_isDigit (rd S1 2 (rd S1 3 4).toNatClampNeg) S1) fun r5 S4 =>
    if r5 = 0 then (
      ck (rd S4 3 4) 300 <|
      bI (m_X3_isLetter (rd S4 2 (rd S4 3 4).toNatClampNeg) S4) fun r9 S8 =>
      if r9 = 0 then (
        ck (rd S8 3 4) 300 <|
        bI (m_X3_signOf (rd S8 2 (rd S8 3 4).toNatClampNeg) S8) fun r13 S12 =>
        lt (up S12 3 5 r13) fun S14 =>
        lt (up S14 3 4 ((rd S14 3 4) + 1)) fun S15 =>
        f_X3_takes_136  x1 S15)
      else (
        bV (m_X3_takeLetters  S8) fun S16 =>
        f_X3_takes_136  x1 S16))
    else (
      bV (m_X3_takeNumber  S4) fun S17 =>
      f_X3_takes_136  x1 S17))
  else (
    lt (up S1 3 5 1) fun S18 =>
    f_X3_takes_136  x1 S18)
def f_X3_takes_0 (k0 : Int32 → St → Option (Int32 × St)) (x1 : Int32) (S : St) : Option (Int32 × St) :=
  if (rd S 3 3) ≤ (rd S 3 4) then (
    f_X3_takes_39  x1 S)
  else (
    ck (rd S 3 4) 300 <|
    bI (m_X3_isBlank (rd S 2 (rd S 3 4).toNatClampNeg) S) fun r4 S3 =>
    if r4 = 0 then (
      f_X3_takes_39  x1 S3)
    else (
      lt (up S3 3 4 ((rd S3 3 4) + 1)) fun S6 =>
      k0 x1 S6))
def g_X3_takes_0  : Nat → Int32 → St → Option (Int32 × St)
  | 0 => fun _ _ => none
  | n + 1 => f_X3_takes_0 (g_X3_takes_0  n)
def m_X3_takes (a1 : Int32) (S : St) : Option (Int32 × St) := g_X3_takes_0 fuel a1 S
def rm_X3_takes : Room := { frames := 2, cells := 0, slots := 0, locals := 43 }
set_option maxRecDepth 20000 in
set_option maxHeartbeats 2000000 in
theorem t_X3_takes_136 {x : Ctx} (C : Cx x WX cX3_takes RX3 2 rm_X3_takes (some .boolean)) {res : Int32 × St}  (x1 : Int32) (S : St) (h : f_X3_takes_136  x1 S = some res) : V x WX 2 (QI x WX res) S 136 [(0, .ref (xq x 3)), (1, .int x1)] [] := by
  unfold f_X3_takes_136 at h
  refine v_aload_n C 0 dX3_takes_136 rfl rfl (n := 137) rfl ?_
  refine g_X3_token C w_3_16 dX3_takes_137 (n := 140) rfl ?_
  refine v_iload_n C 1 dX3_takes_140 rfl rfl (n := 141) rfl ?_
  refine v_iand C dX3_takes_141 (n := 142) rfl ?_
  refine v_if_ne C dX3_takes_142 (t := 156) (by decide) (n := 145) rfl (fun c1 => ?_) (fun c1 => ?_)
  · have h := ite_n c1 h
    refine v_iconst (v := 1) C dX3_takes_156 (by decide) (n := 157) rfl ?_
    obtain rfl := Option.some.inj h
    exact v_zret C (Or.inr rfl) dX3_takes_157
  · have h := ite_p c1 h
    refine v_aload_n C 0 dX3_takes_145 rfl rfl (n := 146) rfl ?_
    refine v_iconst (v := 1) C dX3_takes_146 (by decide) (n := 147) rfl ?_
    refine v_aload_n C 0 dX3_takes_147 rfl rfl (n := 148) rfl ?_
    refine g_X3_tokenAt C w_3_17 dX3_takes_148 (n := 151) rfl ?_
    obtain ⟨S2, eS2, h⟩ := bV_e h
    refine v_callVV (As := [.int 1, .int (rd S 3 6)]) C (c_X3_fail 1 (rd S 3 6) S eS2) mf_X3_fail w_11_5 (oX3 _ _ _) rfl ⟨rfl, rfl, by decide, by decide⟩ rfl rfl (Nat.le_of_ble_eq_true rfl) dX3_takes_151 (n := 154) rfl ?_
    refine v_iconst (v := 0) C dX3_takes_154 (by decide) (n := 155) rfl ?_
    obtain rfl := Option.some.inj h
    exact v_zret C (Or.inl rfl) dX3_takes_155
set_option maxRecDepth 20000 in
set_option maxHeartbeats 2000000 in
theorem t_X3_takes_39 {x : Ctx} (C : Cx x WX cX3_takes RX3 2 rm_X3_takes (some .boolean)) {res : Int32 × St}  (x1 : Int32) (S : St) (h : f_X3_takes_39  x1 S = some res) : V x WX 2 (QI x WX res) S 39 [(0, .ref (xq x 3)), (1, .int x1)] [] := by
  unfold f_X3_takes_39 at h
  refine v_aload_n C 0 dX3_takes_39 rfl rfl (n := 40) rfl ?_
  refine v_aload_n C 0 dX3_takes_40 rfl rfl (n := 41) rfl ?_
  refine g_X3_position C w_3_15 dX3_takes_41 (n := 44) rfl ?_
  obtain ⟨S1, eS1, h⟩ := lt_e h
  refine p_X3_tokenAt C w_3_17 dX3_takes_44 (n := 47) rfl eS1 ?_
  refine v_aload_n C 0 dX3_takes_47 rfl rfl (n := 48) rfl ?_
  refine g_X3_position C w_3_15 dX3_takes_48 (n := 51) rfl ?_
  refine v_aload_n C 0 dX3_takes_51 rfl rfl (n := 52) rfl ?_
  refine g_X3_length C w_3_14 dX3_takes_52 (n := 55) rfl ?_
  refine v_icmp_lt C dX3_takes_55 (t := 66) (by decide) (n := 58) rfl (fun c2 => ?_) (fun c2 => ?_)
  · have h := ite_p c2 h
    refine v_aload_n C 0 dX3_takes_66 rfl rfl (n := 67) rfl ?_
    refine g_X3_text C w_3_23 dX3_takes_67 (n := 70) rfl ?_
    refine v_aload_n C 0 dX3_takes_70 rfl rfl (n := 71) rfl ?_
    refine g_X3_position C w_3_15 dX3_takes_71 (n := 74) rfl ?_
    obtain ⟨hi3, h⟩ := ck_e h
    refine v_ald C aX_2 hi3 dX3_takes_74 (n := 75) rfl ?_
    obtain ⟨r5, S4, eS4, h⟩ := bI_e h
    refine v_callSI (As := [.int (rd S1 2 (rd S1 3 4).toNatClampNeg)]) C (c_X3_isDigit (rd S1 2 (rd S1 3 4).toNatClampNeg) S1 eS4) mf_X3_isDigit w_10_8 ⟨rfl, rfl, by decide, by decide⟩ rfl rfl (Nat.le_of_ble_eq_true rfl) dX3_takes_75 (n := 78) rfl ?_
    refine v_if_eq C dX3_takes_78 (t := 88) (by decide) (n := 81) rfl (fun c6 => ?_) (fun c6 => ?_)
    · have h := ite_p c6 h
      refine v_aload_n C 0 dX3_takes_88 rfl rfl (n := 89) rfl ?_
      refine g_X3_text C w_3_23 dX3_takes_89 (n := 92) rfl ?_
      refine v_aload_n C 0 dX3_takes_92 rfl rfl (n := 93) rfl ?_
      refine g_X3_position C w_3_15 dX3_takes_93 (n := 96) rfl ?_
      obtain ⟨hi7, h⟩ := ck_e h
      refine v_ald C aX_2 hi7 dX3_takes_96 (n := 97) rfl ?_
      obtain ⟨r9, S8, eS8, h⟩ := bI_e h
      refine v_callSI (As := [.int (rd S4 2 (rd S4 3 4).toNatClampNeg)]) C (c_X3_isLetter (rd S4 2 (rd S4 3 4).toNatClampNeg) S4 eS8) mf_X3_isLetter w_10_15 ⟨rfl, rfl, by decide, by decide⟩ rfl rfl (Nat.le_of_ble_eq_true rfl) dX3_takes_97 (n := 100) rfl ?_
      refine v_if_eq C dX3_takes_100 (t := 110) (by decide) (n := 103) rfl (fun c10 => ?_) (fun c10 => ?_)
      · have h := ite_p c10 h
        refine v_aload_n C 0 dX3_takes_110 rfl rfl (n := 111) rfl ?_
        refine v_aload_n C 0 dX3_takes_111 rfl rfl (n := 112) rfl ?_
        refine g_X3_text C w_3_23 dX3_takes_112 (n := 115) rfl ?_
        refine v_aload_n C 0 dX3_takes_115 rfl rfl (n := 116) rfl ?_
        refine g_X3_position C w_3_15 dX3_takes_116 (n := 119) rfl ?_
        obtain ⟨hi11, h⟩ := ck_e h
        refine v_ald C aX_2 hi11 dX3_takes_119 (n := 120) rfl ?_
        obtain ⟨r13, S12, eS12, h⟩ := bI_e h
        refine v_callSI (As := [.int (rd S8 2 (rd S8 3 4).toNatClampNeg)]) C (c_X3_signOf (rd S8 2 (rd S8 3 4).toNatClampNeg) S8 eS12) mf_X3_signOf w_11_2 ⟨rfl, rfl, by decide, by decide⟩ rfl rfl (Nat.le_of_ble_eq_true rfl) dX3_takes_120 (n := 123) rfl ?_
        obtain ⟨S14, eS14, h⟩ := lt_e h
        refine p_X3_token C w_3_16 dX3_takes_123 (n := 126) rfl eS14 ?_
        refine v_aload_n C 0 dX3_takes_126 rfl rfl (n := 127) rfl ?_
        refine v_dup C dX3_takes_127 rfl (n := 128) rfl ?_
        refine g_X3_position C w_3_15 dX3_takes_128 (n := 131) rfl ?_
        refine v_iconst (v := 1) C dX3_takes_131 (by decide) (n := 132) rfl ?_
        refine v_iadd C dX3_takes_132 (n := 133) rfl ?_
        obtain ⟨S15, eS15, h⟩ := lt_e h
        refine p_X3_position C w_3_15 dX3_takes_133 (n := 136) rfl eS15 ?_
        refine v_sub [0, 1] rfl ?_
        exact t_X3_takes_136 C  x1 S15 h
      · have h := ite_n c10 h
        refine v_aload_n C 0 dX3_takes_103 rfl rfl (n := 104) rfl ?_
        obtain ⟨S16, eS16, h⟩ := bV_e h
        refine v_callVV (As := []) C (c_X3_takeLetters  S8 eS16) mf_X3_takeLetters w_10_18 (oX3 _ _ _) rfl ⟨rfl, rfl, by decide, by decide⟩ rfl rfl (Nat.le_of_ble_eq_true rfl) dX3_takes_104 (n := 107) rfl ?_
        refine v_goto C dX3_takes_107 (n := 136) (by decide) ?_
        refine v_sub [0, 1] rfl ?_
        exact t_X3_takes_136 C  x1 S16 h
    · have h := ite_n c6 h
      refine v_aload_n C 0 dX3_takes_81 rfl rfl (n := 82) rfl ?_
      obtain ⟨S17, eS17, h⟩ := bV_e h
      refine v_callVV (As := []) C (c_X3_takeNumber  S4 eS17) mf_X3_takeNumber w_10_11 (oX3 _ _ _) rfl ⟨rfl, rfl, by decide, by decide⟩ rfl rfl (Nat.le_of_ble_eq_true rfl) dX3_takes_82 (n := 85) rfl ?_
      refine v_goto C dX3_takes_85 (n := 136) (by decide) ?_
      refine v_sub [0, 1] rfl ?_
      exact t_X3_takes_136 C  x1 S17 h
  · have h := ite_n c2 h
    refine v_aload_n C 0 dX3_takes_58 rfl rfl (n := 59) rfl ?_
    refine v_iconst (v := 1) C dX3_takes_59 (by decide) (n := 60) rfl ?_
    obtain ⟨S18, eS18, h⟩ := lt_e h
    refine p_X3_token C w_3_16 dX3_takes_60 (n := 63) rfl eS18 ?_
    refine v_goto C dX3_takes_63 (n := 136) (by decide) ?_
    refine v_sub [0, 1] rfl ?_
    exact t_X3_takes_136 C  x1 S18 h
set_option maxRecDepth 20000 in
set_option maxHeartbeats 2000000 in
theorem t_X3_takes_0 {x : Ctx} (C : Cx x WX cX3_takes RX3 2 rm_X3_takes (some .boolean)) {res : Int32 × St} {k0 : Int32 → St → Option (Int32 × St)} (hk0 : ∀ (x1 : Int32) (S : St), k0 x1 S = some res → V x WX 2 (QI x WX res) S 0 [(0, .ref (xq x 3)), (1, .int x1)] []) (x1 : Int32) (S : St) (h : f_X3_takes_0 k0 x1 S = some res) : V x WX 2 (QI x WX res) S 0 [(0, .ref (xq x 3)), (1, .int x1)] [] := by
  unfold f_X3_takes_0 at h
  refine v_aload_n C 0 dX3_takes_0 rfl rfl (n := 1) rfl ?_
  refine g_X3_position C w_3_15 dX3_takes_1 (n := 4) rfl ?_
  refine v_aload_n C 0 dX3_takes_4 rfl rfl (n := 5) rfl ?_
  refine g_X3_length C w_3_14 dX3_takes_5 (n := 8) rfl ?_
  refine v_icmp_ge C dX3_takes_8 (t := 39) (by decide) (n := 11) rfl (fun c1 => ?_) (fun c1 => ?_)
  · have h := ite_p c1 h
    refine v_sub [0, 1] rfl ?_
    exact t_X3_takes_39 C  x1 S h
  · have h := ite_n c1 h
    refine v_aload_n C 0 dX3_takes_11 rfl rfl (n := 12) rfl ?_
    refine g_X3_text C w_3_23 dX3_takes_12 (n := 15) rfl ?_
    refine v_aload_n C 0 dX3_takes_15 rfl rfl (n := 16) rfl ?_
    refine g_X3_position C w_3_15 dX3_takes_16 (n := 19) rfl ?_
    obtain ⟨hi2, h⟩ := ck_e h
    refine v_ald C aX_2 hi2 dX3_takes_19 (n := 20) rfl ?_
    obtain ⟨r4, S3, eS3, h⟩ := bI_e h
    refine v_callSI (As := [.int (rd S 2 (rd S 3 4).toNatClampNeg)]) C (c_X3_isBlank (rd S 2 (rd S 3 4).toNatClampNeg) S eS3) mf_X3_isBlank w_10_5 ⟨rfl, rfl, by decide, by decide⟩ rfl rfl (Nat.le_of_ble_eq_true rfl) dX3_takes_20 (n := 23) rfl ?_
    refine v_if_eq C dX3_takes_23 (t := 39) (by decide) (n := 26) rfl (fun c5 => ?_) (fun c5 => ?_)
    · have h := ite_p c5 h
      refine v_sub [0, 1] rfl ?_
      exact t_X3_takes_39 C  x1 S3 h
    · have h := ite_n c5 h
      refine v_aload_n C 0 dX3_takes_26 rfl rfl (n := 27) rfl ?_
      refine v_dup C dX3_takes_27 rfl (n := 28) rfl ?_
      refine g_X3_position C w_3_15 dX3_takes_28 (n := 31) rfl ?_
      refine v_iconst (v := 1) C dX3_takes_31 (by decide) (n := 32) rfl ?_
      refine v_iadd C dX3_takes_32 (n := 33) rfl ?_
      obtain ⟨S6, eS6, h⟩ := lt_e h
      refine p_X3_position C w_3_15 dX3_takes_33 (n := 36) rfl eS6 ?_
      refine v_goto C dX3_takes_36 (n := 0) (by decide) ?_
      refine v_sub [0, 1] rfl ?_
      exact hk0 x1 S6 h
theorem tg_X3_takes_0 {x : Ctx} (C : Cx x WX cX3_takes RX3 2 rm_X3_takes (some .boolean)) {res : Int32 × St}  : ∀ (n : Nat) (x1 : Int32) (S : St), g_X3_takes_0  n x1 S = some res → V x WX 2 (QI x WX res) S 0 [(0, .ref (xq x 3)), (1, .int x1)] [] := by
  intro n
  induction n with
  | zero => intro x1 S h; cases h
  | succ n ih => intro x1 S h; exact t_X3_takes_0 C (fun x1 S h => ih x1 S h) x1 S h
theorem c_X3_takes {l : Launch} {D : va_G} {q : Nat → Nat} {ar : Ar} (a1 : Int32) (S : St) {res : Int32 × St} (h : m_X3_takes a1 S = some res) : MetI l D q ar WX yX3_takes cX3_takes 2 (some .boolean) rm_X3_takes [.ref (q 3), .int a1] S res := by
  refine metI_of adrX (by decide +kernel) (Nat.le_of_ble_eq_true rfl) (fun x e1 e2 e3 e4 C => ?_)
  subst e1; subst e2; subst e3; subst e4
  exact v_sub [0, 1] rfl (tg_X3_takes_0 C fuel a1 S h)
theorem mf_X3_takes : CalV yX3_takes cX3_takes 2 (some .boolean) RX3 1 := ⟨w_10_4, w_10_2, w_10_3, w_1_19, rfl, by decide +kernel, by decide +kernel, by decide +kernel⟩
/-! LabyrinthGarden$Reader.readAct -/
def f_X3_readAct_0  (x1 : Nat) (x2 : Int32) (S : St) : Option (Int32 × St) :=
  bI (m_X3_takes 4 S) fun r2 S1 =>
  if r2 = 0 then (
    some (0, S1))
  else (
    if (rd S1 3 7) ≤ 9 then (
      ckr x1 <|
      ck x2 8 <|
      lt (up S1 (x1 + 1) x2.toNatClampNeg (rd S1 3 7)) fun S7 =>
      bI (m_X3_takes 8 S7) fun r9 S8 =>
      if r9 = 0 then (
        some (0, S8))
      else (
        lt (up S8 (x1 + 2) x2.toNatClampNeg (rd S8 3 7)) fun S11 =>
        bI (m_X3_takes 2 S11) fun r13 S12 =>
        if r13 = 0 then (
          some (0, S12))
        else (
          lt (up S12 (x1 + 3) x2.toNatClampNeg (rd S12 3 7)) fun S15 =>
          if 8 ≤ (rd S15 3 10) then (
            some (1, S15))
          else (
            ck (rd S15 3 10) 8 <|
            lt (up S15 4 (rd S15 3 10).toNatClampNeg (rd S15 3 7)) fun S18 =>
            ck (rd S18 3 10) 8 <|
            lt (up S18 5 (rd S18 3 10).toNatClampNeg (rd S18 3 6)) fun S20 =>
            lt (up S20 3 10 ((rd S20 3 10) + 1)) fun S21 =>
            some (1, S21)))))
    else (
      bV (m_X3_fail 2 (rd S1 3 6) S1) fun S22 =>
      some (0, S22)))
def m_X3_readAct (a1 : Nat) (a2 : Int32) (S : St) : Option (Int32 × St) := f_X3_readAct_0 a1 a2 S
def rm_X3_readAct : Room := { frames := 3, cells := 0, slots := 0, locals := 64 }
set_option maxRecDepth 20000 in
set_option maxHeartbeats 2000000 in
theorem t_X3_readAct_0 {x : Ctx} (C : Cx x WX cX3_readAct RX3 3 rm_X3_readAct (some .boolean)) {res : Int32 × St}  (x1 : Nat) (x2 : Int32) (S : St) (h : f_X3_readAct_0  x1 x2 S = some res) : V x WX 3 (QI x WX res) S 0 [(0, .ref (xq x 3)), (1, .ref (xq x x1)), (2, .int x2)] [] := by
  unfold f_X3_readAct_0 at h
  refine v_aload_n C 0 dX3_readAct_0 rfl rfl (n := 1) rfl ?_
  refine v_iconst (v := 4) C dX3_readAct_1 (by decide) (n := 2) rfl ?_
  obtain ⟨r2, S1, eS1, h⟩ := bI_e h
  refine v_callVI (As := [.int 4]) C (c_X3_takes 4 S eS1) mf_X3_takes w_10_1 (oX3 _ _ _) rfl ⟨rfl, rfl, by decide, by decide⟩ rfl rfl (Nat.le_of_ble_eq_true rfl) dX3_readAct_2 (n := 5) rfl ?_
  refine v_if_ne C dX3_readAct_5 (t := 10) (by decide) (n := 8) rfl (fun c3 => ?_) (fun c3 => ?_)
  · have h := ite_n c3 h
    refine v_aload_n C 0 dX3_readAct_10 rfl rfl (n := 11) rfl ?_
    refine g_X3_tokenValue C w_3_18 dX3_readAct_11 (n := 14) rfl ?_
    refine v_bipush (v := 9) C dX3_readAct_14 (by decide) (n := 16) rfl ?_
    refine v_icmp_le C dX3_readAct_16 (t := 30) (by decide) (n := 19) rfl (fun c4 => ?_) (fun c4 => ?_)
    · have h := ite_p c4 h
      refine v_aload_n C 1 dX3_readAct_30 rfl rfl (n := 31) rfl ?_
      obtain ⟨hr5, h⟩ := ckr_e h
      refine g_X5_number hr5 C w_12_3 dX3_readAct_31 (n := 34) rfl ?_
      refine v_iload_n C 2 dX3_readAct_34 rfl rfl (n := 35) rfl ?_
      refine v_aload_n C 0 dX3_readAct_35 rfl rfl (n := 36) rfl ?_
      refine g_X3_tokenValue C w_3_18 dX3_readAct_36 (n := 39) rfl ?_
      obtain ⟨hi6, h⟩ := ck_e h
      obtain ⟨S7, eS7, h⟩ := lt_e h
      refine v_ast C (aR_1 (hr5)) hi6 dX3_readAct_39 (n := 40) rfl eS7 ?_
      refine v_aload_n C 0 dX3_readAct_40 rfl rfl (n := 41) rfl ?_
      refine v_bipush (v := 8) C dX3_readAct_41 (by decide) (n := 43) rfl ?_
      obtain ⟨r9, S8, eS8, h⟩ := bI_e h
      refine v_callVI (As := [.int 8]) C (c_X3_takes 8 S7 eS8) mf_X3_takes w_10_1 (oX3 _ _ _) rfl ⟨rfl, rfl, by decide, by decide⟩ rfl rfl (Nat.le_of_ble_eq_true rfl) dX3_readAct_43 (n := 46) rfl ?_
      refine v_if_ne C dX3_readAct_46 (t := 51) (by decide) (n := 49) rfl (fun c10 => ?_) (fun c10 => ?_)
      · have h := ite_n c10 h
        refine v_aload_n C 1 dX3_readAct_51 rfl rfl (n := 52) rfl ?_
        refine g_X5_deed (hr5) C w_12_4 dX3_readAct_52 (n := 55) rfl ?_
        refine v_iload_n C 2 dX3_readAct_55 rfl rfl (n := 56) rfl ?_
        refine v_aload_n C 0 dX3_readAct_56 rfl rfl (n := 57) rfl ?_
        refine g_X3_tokenValue C w_3_18 dX3_readAct_57 (n := 60) rfl ?_
        obtain ⟨S11, eS11, h⟩ := lt_e h
        refine v_ast C (aR_2 (hr5)) hi6 dX3_readAct_60 (n := 61) rfl eS11 ?_
        refine v_aload_n C 0 dX3_readAct_61 rfl rfl (n := 62) rfl ?_
        refine v_iconst (v := 2) C dX3_readAct_62 (by decide) (n := 63) rfl ?_
        obtain ⟨r13, S12, eS12, h⟩ := bI_e h
        refine v_callVI (As := [.int 2]) C (c_X3_takes 2 S11 eS12) mf_X3_takes w_10_1 (oX3 _ _ _) rfl ⟨rfl, rfl, by decide, by decide⟩ rfl rfl (Nat.le_of_ble_eq_true rfl) dX3_readAct_63 (n := 66) rfl ?_
        refine v_if_ne C dX3_readAct_66 (t := 71) (by decide) (n := 69) rfl (fun c14 => ?_) (fun c14 => ?_)
        · have h := ite_n c14 h
          refine v_aload_n C 1 dX3_readAct_71 rfl rfl (n := 72) rfl ?_
          refine g_X5_next (hr5) C w_12_5 dX3_readAct_72 (n := 75) rfl ?_
          refine v_iload_n C 2 dX3_readAct_75 rfl rfl (n := 76) rfl ?_
          refine v_aload_n C 0 dX3_readAct_76 rfl rfl (n := 77) rfl ?_
          refine g_X3_tokenValue C w_3_18 dX3_readAct_77 (n := 80) rfl ?_
          obtain ⟨S15, eS15, h⟩ := lt_e h
          refine v_ast C (aR_3 (hr5)) hi6 dX3_readAct_80 (n := 81) rfl eS15 ?_
          refine v_aload_n C 0 dX3_readAct_81 rfl rfl (n := 82) rfl ?_
          refine g_X3_meantCount C w_3_21 dX3_readAct_82 (n := 85) rfl ?_
          refine v_bipush (v := 8) C dX3_readAct_85 (by decide) (n := 87) rfl ?_
          refine v_icmp_ge C dX3_readAct_87 (t := 126) (by decide) (n := 90) rfl (fun c16 => ?_) (fun c16 => ?_)
          · have h := ite_p c16 h
            refine v_iconst (v := 1) C dX3_readAct_126 (by decide) (n := 127) rfl ?_
            obtain rfl := Option.some.inj h
            exact v_zret C (Or.inr rfl) dX3_readAct_127
          · have h := ite_n c16 h
            refine v_aload_n C 0 dX3_readAct_90 rfl rfl (n := 91) rfl ?_
            refine g_X3_meant C w_3_19 dX3_readAct_91 (n := 94) rfl ?_
            refine v_aload_n C 0 dX3_readAct_94 rfl rfl (n := 95) rfl ?_
            refine g_X3_meantCount C w_3_21 dX3_readAct_95 (n := 98) rfl ?_
            refine v_aload_n C 0 dX3_readAct_98 rfl rfl (n := 99) rfl ?_
            refine g_X3_tokenValue C w_3_18 dX3_readAct_99 (n := 102) rfl ?_
            obtain ⟨hi17, h⟩ := ck_e h
            obtain ⟨S18, eS18, h⟩ := lt_e h
            refine v_ast C aX_4 hi17 dX3_readAct_102 (n := 103) rfl eS18 ?_
            refine v_aload_n C 0 dX3_readAct_103 rfl rfl (n := 104) rfl ?_
            refine g_X3_meantAt C w_3_20 dX3_readAct_104 (n := 107) rfl ?_
            refine v_aload_n C 0 dX3_readAct_107 rfl rfl (n := 108) rfl ?_
            refine g_X3_meantCount C w_3_21 dX3_readAct_108 (n := 111) rfl ?_
            refine v_aload_n C 0 dX3_readAct_111 rfl rfl (n := 112) rfl ?_
            refine g_X3_tokenAt C w_3_17 dX3_readAct_112 (n := 115) rfl ?_
            obtain ⟨hi19, h⟩ := ck_e h
            obtain ⟨S20, eS20, h⟩ := lt_e h
            refine v_ast C aX_5 hi19 dX3_readAct_115 (n := 116) rfl eS20 ?_
            refine v_aload_n C 0 dX3_readAct_116 rfl rfl (n := 117) rfl ?_
            refine v_dup C dX3_readAct_117 rfl (n := 118) rfl ?_
            refine g_X3_meantCount C w_3_21 dX3_readAct_118 (n := 121) rfl ?_
            refine v_iconst (v := 1) C dX3_readAct_121 (by decide) (n := 122) rfl ?_
            refine v_iadd C dX3_readAct_122 (n := 123) rfl ?_
            obtain ⟨S21, eS21, h⟩ := lt_e h
            refine p_X3_meantCount C w_3_21 dX3_readAct_123 (n := 126) rfl eS21 ?_
            refine v_iconst (v := 1) C dX3_readAct_126 (by decide) (n := 127) rfl ?_
            obtain rfl := Option.some.inj h
            exact v_zret C (Or.inr rfl) dX3_readAct_127
        · have h := ite_p c14 h
          refine v_iconst (v := 0) C dX3_readAct_69 (by decide) (n := 70) rfl ?_
          obtain rfl := Option.some.inj h
          exact v_zret C (Or.inl rfl) dX3_readAct_70
      · have h := ite_p c10 h
        refine v_iconst (v := 0) C dX3_readAct_49 (by decide) (n := 50) rfl ?_
        obtain rfl := Option.some.inj h
        exact v_zret C (Or.inl rfl) dX3_readAct_50
    · have h := ite_n c4 h
      refine v_aload_n C 0 dX3_readAct_19 rfl rfl (n := 20) rfl ?_
      refine v_iconst (v := 2) C dX3_readAct_20 (by decide) (n := 21) rfl ?_
      refine v_aload_n C 0 dX3_readAct_21 rfl rfl (n := 22) rfl ?_
      refine g_X3_tokenAt C w_3_17 dX3_readAct_22 (n := 25) rfl ?_
      obtain ⟨S22, eS22, h⟩ := bV_e h
      refine v_callVV (As := [.int 2, .int (rd S1 3 6)]) C (c_X3_fail 2 (rd S1 3 6) S1 eS22) mf_X3_fail w_11_5 (oX3 _ _ _) rfl ⟨rfl, rfl, by decide, by decide⟩ rfl rfl (Nat.le_of_ble_eq_true rfl) dX3_readAct_25 (n := 28) rfl ?_
      refine v_iconst (v := 0) C dX3_readAct_28 (by decide) (n := 29) rfl ?_
      obtain rfl := Option.some.inj h
      exact v_zret C (Or.inl rfl) dX3_readAct_29
  · have h := ite_p c3 h
    refine v_iconst (v := 0) C dX3_readAct_8 (by decide) (n := 9) rfl ?_
    obtain rfl := Option.some.inj h
    exact v_zret C (Or.inl rfl) dX3_readAct_9
theorem c_X3_readAct {l : Launch} {D : va_G} {q : Nat → Nat} {ar : Ar} (a1 : Nat) (a2 : Int32) (S : St) {res : Int32 × St} (h : m_X3_readAct a1 a2 S = some res) : MetI l D q ar WX yX3_readAct cX3_readAct 3 (some .boolean) rm_X3_readAct [.ref (q 3), .ref (q a1), .int a2] S res := by
  refine metI_of adrX (by decide +kernel) (Nat.le_of_ble_eq_true rfl) (fun x e1 e2 e3 e4 C => ?_)
  subst e1; subst e2; subst e3; subst e4
  exact v_sub [0, 1, 2] rfl (t_X3_readAct_0 C a1 a2 S h)
theorem mf_X3_readAct : CalV yX3_readAct cX3_readAct 3 (some .boolean) RX3 2 := ⟨w_12_2, w_12_0, w_12_1, w_1_19, rfl, by decide +kernel, by decide +kernel, by decide +kernel⟩
/-! LabyrinthGarden$Reader.readLine -/
def f_X3_readLine_0  (x1 : Nat) (S : St) : Option (Int32 × St) :=
  lt ((rd S 3 7) : Int32) fun y1 =>
  ckr x1 <|
  bI (m_X9_hasBit (rd S x1 5) y1 S) fun r4 S3 =>
  if r4 = 0 then (
    bV (m_X5_addLine x1 y1 S3) fun S6 =>
    bI (m_X3_takes 16 S6) fun r8 S7 =>
    if r8 = 0 then (
      some (0, S7))
    else (
      bI (m_X3_readAct x1 (2 * y1) S7) fun r11 S10 =>
      if r11 = 0 then (
        some (0, S10))
      else (
        bI (m_X3_takes 96 S10) fun r14 S13 =>
        if r14 = 0 then (
          some (0, S13))
        else (
          if (rd S13 3 5) = 64 then (
            some (1, S13))
          else (
            bI (m_X9_withBit (rd S13 x1 6) y1 1 S13) fun r18 S17 =>
            lt (up S17 x1 6 r18) fun S19 =>
            bI (m_X3_readAct x1 ((2 * y1) + 1) S19) fun r21 S20 =>
            if r21 = 0 then (
              some (0, S20))
            else (
              bI (m_X3_takes 64 S20) fun r24 S23 =>
              if r24 = 0 then (
                some (0, S23))
              else (
                some (1, S23))))))))
  else (
    bV (m_X3_fail 3 (rd S3 3 6) S3) fun S26 =>
    some (0, S26))
def m_X3_readLine (a1 : Nat) (S : St) : Option (Int32 × St) := f_X3_readLine_0 a1 S
def rm_X3_readLine : Room := { frames := 4, cells := 0, slots := 0, locals := 86 }
set_option maxRecDepth 20000 in
set_option maxHeartbeats 2000000 in
theorem t_X3_readLine_0 {x : Ctx} (C : Cx x WX cX3_readLine RX3 3 rm_X3_readLine (some .boolean)) {res : Int32 × St}  (x1 : Nat) (S : St) (h : f_X3_readLine_0  x1 S = some res) : V x WX 3 (QI x WX res) S 0 [(0, .ref (xq x 3)), (1, .ref (xq x x1))] [] := by
  unfold f_X3_readLine_0 at h
  refine v_aload_n C 0 dX3_readLine_0 rfl rfl (n := 1) rfl ?_
  refine g_X3_tokenValue C w_3_18 dX3_readLine_1 (n := 4) rfl ?_
  obtain ⟨y1, ey1, h⟩ := lt_e h
  refine v_istore_n (L' := [(2, .int y1), (0, .ref (xq x 3)), (1, .ref (xq x x1))]) C dX3_readLine_4 rfl (by decide) rfl (n := 5) rfl ey1 ?_
  refine v_aload_n C 2 dX3_readLine_5 rfl rfl (n := 6) rfl ?_
  obtain ⟨hr2, h⟩ := ckr_e h
  refine g_X5_told hr2 C w_11_13 dX3_readLine_6 (n := 9) rfl ?_
  refine v_iload_n C 0 dX3_readLine_9 rfl rfl (n := 10) rfl ?_
  obtain ⟨r4, S3, eS3, h⟩ := bI_e h
  refine v_callNI (As := [.int (rd S x1 5), .int y1]) C (c_X9_hasBit (rd S x1 5) y1 S eS3) mf_X9_hasBit (List.mem_of_getElem? (i := 4) rfl : (RX3, 77, yX9_hasBit, RX9) ∈ nestW) ⟨rfl, rfl, by decide, by decide⟩ rfl rfl (Nat.le_of_ble_eq_true rfl) dX3_readLine_10 (n := 13) rfl ?_
  refine v_if_eq C dX3_readLine_13 (t := 27) (by decide) (n := 16) rfl (fun c5 => ?_) (fun c5 => ?_)
  · have h := ite_p c5 h
    refine v_aload_n C 2 dX3_readLine_27 rfl rfl (n := 28) rfl ?_
    refine v_iload_n C 0 dX3_readLine_28 rfl rfl (n := 29) rfl ?_
    obtain ⟨S6, eS6, h⟩ := bV_e h
    refine v_callVV (As := [.int y1]) C (c_X5_addLine x1 y1 S3 eS6) mf_X5_addLine w_11_17 (oX5 (hr2) _ _ _) rfl ⟨rfl, rfl, by decide, by decide⟩ rfl rfl (Nat.le_of_ble_eq_true rfl) dX3_readLine_29 (n := 32) rfl ?_
    refine v_aload_n C 1 dX3_readLine_32 rfl rfl (n := 33) rfl ?_
    refine v_bipush (v := 16) C dX3_readLine_33 (by decide) (n := 35) rfl ?_
    obtain ⟨r8, S7, eS7, h⟩ := bI_e h
    refine v_callVI (As := [.int 16]) C (c_X3_takes 16 S6 eS7) mf_X3_takes w_10_1 (oX3 _ _ _) rfl ⟨rfl, rfl, by decide, by decide⟩ rfl rfl (Nat.le_of_ble_eq_true rfl) dX3_readLine_35 (n := 38) rfl ?_
    refine v_if_eq C dX3_readLine_38 (t := 61) (by decide) (n := 41) rfl (fun c9 => ?_) (fun c9 => ?_)
    · have h := ite_p c9 h
      refine v_iconst (v := 0) C dX3_readLine_61 (by decide) (n := 62) rfl ?_
      obtain rfl := Option.some.inj h
      exact v_zret C (Or.inl rfl) dX3_readLine_62
    · have h := ite_n c9 h
      refine v_aload_n C 1 dX3_readLine_41 rfl rfl (n := 42) rfl ?_
      refine v_aload_n C 2 dX3_readLine_42 rfl rfl (n := 43) rfl ?_
      refine v_iconst (v := 2) C dX3_readLine_43 (by decide) (n := 44) rfl ?_
      refine v_iload_n C 0 dX3_readLine_44 rfl rfl (n := 45) rfl ?_
      refine v_imul C dX3_readLine_45 (n := 46) rfl ?_
      obtain ⟨r11, S10, eS10, h⟩ := bI_e h
      refine v_callVI (As := [.ref (xq x x1), .int (2 * y1)]) C (c_X3_readAct x1 (2 * y1) S7 eS10) mf_X3_readAct w_11_23 (oX3 _ _ _) rfl ⟨rfl, rfl, by decide, by decide⟩ rfl rfl (Nat.le_of_ble_eq_true rfl) dX3_readLine_46 (n := 49) rfl ?_
      refine v_if_eq C dX3_readLine_49 (t := 61) (by decide) (n := 52) rfl (fun c12 => ?_) (fun c12 => ?_)
      · have h := ite_p c12 h
        refine v_iconst (v := 0) C dX3_readLine_61 (by decide) (n := 62) rfl ?_
        obtain rfl := Option.some.inj h
        exact v_zret C (Or.inl rfl) dX3_readLine_62
      · have h := ite_n c12 h
        refine v_aload_n C 1 dX3_readLine_52 rfl rfl (n := 53) rfl ?_
        refine v_bipush (v := 96) C dX3_readLine_53 (by decide) (n := 55) rfl ?_
        obtain ⟨r14, S13, eS13, h⟩ := bI_e h
        refine v_callVI (As := [.int 96]) C (c_X3_takes 96 S10 eS13) mf_X3_takes w_10_1 (oX3 _ _ _) rfl ⟨rfl, rfl, by decide, by decide⟩ rfl rfl (Nat.le_of_ble_eq_true rfl) dX3_readLine_55 (n := 58) rfl ?_
        refine v_if_ne C dX3_readLine_58 (t := 63) (by decide) (n := 61) rfl (fun c15 => ?_) (fun c15 => ?_)
        · have h := ite_n c15 h
          refine v_aload_n C 1 dX3_readLine_63 rfl rfl (n := 64) rfl ?_
          refine g_X3_token C w_3_16 dX3_readLine_64 (n := 67) rfl ?_
          refine v_bipush (v := 64) C dX3_readLine_67 (by decide) (n := 69) rfl ?_
          refine v_icmp_ne C dX3_readLine_69 (t := 74) (by decide) (n := 72) rfl (fun c16 => ?_) (fun c16 => ?_)
          · have h := ite_n c16 h
            refine v_aload_n C 2 dX3_readLine_74 rfl rfl (n := 75) rfl ?_
            refine v_aload_n C 2 dX3_readLine_75 rfl rfl (n := 76) rfl ?_
            refine g_X5_forked (hr2) C w_11_14 dX3_readLine_76 (n := 79) rfl ?_
            refine v_iload_n C 0 dX3_readLine_79 rfl rfl (n := 80) rfl ?_
            refine v_iconst (v := 1) C dX3_readLine_80 (by decide) (n := 81) rfl ?_
            obtain ⟨r18, S17, eS17, h⟩ := bI_e h
            refine v_callNI (As := [.int (rd S13 x1 6), .int y1, .int 1]) C (c_X9_withBit (rd S13 x1 6) y1 1 S13 eS17) mf_X9_withBit (List.mem_of_getElem? (i := 6) rfl : (RX3, 96, yX9_withBit, RX9) ∈ nestW) ⟨rfl, rfl, by decide, by decide⟩ rfl rfl (Nat.le_of_ble_eq_true rfl) dX3_readLine_81 (n := 84) rfl ?_
            obtain ⟨S19, eS19, h⟩ := lt_e h
            refine p_X5_forked (hr2) C w_11_14 dX3_readLine_84 (n := 87) rfl eS19 ?_
            refine v_aload_n C 1 dX3_readLine_87 rfl rfl (n := 88) rfl ?_
            refine v_aload_n C 2 dX3_readLine_88 rfl rfl (n := 89) rfl ?_
            refine v_iconst (v := 2) C dX3_readLine_89 (by decide) (n := 90) rfl ?_
            refine v_iload_n C 0 dX3_readLine_90 rfl rfl (n := 91) rfl ?_
            refine v_imul C dX3_readLine_91 (n := 92) rfl ?_
            refine v_iconst (v := 1) C dX3_readLine_92 (by decide) (n := 93) rfl ?_
            refine v_iadd C dX3_readLine_93 (n := 94) rfl ?_
            obtain ⟨r21, S20, eS20, h⟩ := bI_e h
            refine v_callVI (As := [.ref (xq x x1), .int ((2 * y1) + 1)]) C (c_X3_readAct x1 ((2 * y1) + 1) S19 eS20) mf_X3_readAct w_11_23 (oX3 _ _ _) rfl ⟨rfl, rfl, by decide, by decide⟩ rfl rfl (Nat.le_of_ble_eq_true rfl) dX3_readLine_94 (n := 97) rfl ?_
            refine v_if_eq C dX3_readLine_97 (t := 113) (by decide) (n := 100) rfl (fun c22 => ?_) (fun c22 => ?_)
            · have h := ite_p c22 h
              refine v_iconst (v := 0) C dX3_readLine_113 (by decide) (n := 114) rfl ?_
              obtain rfl := Option.some.inj h
              exact v_zret C (Or.inl rfl) dX3_readLine_114
            · have h := ite_n c22 h
              refine v_aload_n C 1 dX3_readLine_100 rfl rfl (n := 101) rfl ?_
              refine v_bipush (v := 64) C dX3_readLine_101 (by decide) (n := 103) rfl ?_
              obtain ⟨r24, S23, eS23, h⟩ := bI_e h
              refine v_callVI (As := [.int 64]) C (c_X3_takes 64 S20 eS23) mf_X3_takes w_10_1 (oX3 _ _ _) rfl ⟨rfl, rfl, by decide, by decide⟩ rfl rfl (Nat.le_of_ble_eq_true rfl) dX3_readLine_103 (n := 106) rfl ?_
              refine v_if_eq C dX3_readLine_106 (t := 113) (by decide) (n := 109) rfl (fun c25 => ?_) (fun c25 => ?_)
              · have h := ite_p c25 h
                refine v_iconst (v := 0) C dX3_readLine_113 (by decide) (n := 114) rfl ?_
                obtain rfl := Option.some.inj h
                exact v_zret C (Or.inl rfl) dX3_readLine_114
              · have h := ite_n c25 h
                refine v_iconst (v := 1) C dX3_readLine_109 (by decide) (n := 110) rfl ?_
                refine v_goto C dX3_readLine_110 (n := 114) (by decide) ?_
                obtain rfl := Option.some.inj h
                exact v_zret C (Or.inr rfl) dX3_readLine_114
          · have h := ite_p c16 h
            refine v_iconst (v := 1) C dX3_readLine_72 (by decide) (n := 73) rfl ?_
            obtain rfl := Option.some.inj h
            exact v_zret C (Or.inr rfl) dX3_readLine_73
        · have h := ite_p c15 h
          refine v_iconst (v := 0) C dX3_readLine_61 (by decide) (n := 62) rfl ?_
          obtain rfl := Option.some.inj h
          exact v_zret C (Or.inl rfl) dX3_readLine_62
  · have h := ite_n c5 h
    refine v_aload_n C 1 dX3_readLine_16 rfl rfl (n := 17) rfl ?_
    refine v_iconst (v := 3) C dX3_readLine_17 (by decide) (n := 18) rfl ?_
    refine v_aload_n C 1 dX3_readLine_18 rfl rfl (n := 19) rfl ?_
    refine g_X3_tokenAt C w_3_17 dX3_readLine_19 (n := 22) rfl ?_
    obtain ⟨S26, eS26, h⟩ := bV_e h
    refine v_callVV (As := [.int 3, .int (rd S3 3 6)]) C (c_X3_fail 3 (rd S3 3 6) S3 eS26) mf_X3_fail w_11_5 (oX3 _ _ _) rfl ⟨rfl, rfl, by decide, by decide⟩ rfl rfl (Nat.le_of_ble_eq_true rfl) dX3_readLine_22 (n := 25) rfl ?_
    refine v_iconst (v := 0) C dX3_readLine_25 (by decide) (n := 26) rfl ?_
    obtain rfl := Option.some.inj h
    exact v_zret C (Or.inl rfl) dX3_readLine_26
theorem c_X3_readLine {l : Launch} {D : va_G} {q : Nat → Nat} {ar : Ar} (a1 : Nat) (S : St) {res : Int32 × St} (h : m_X3_readLine a1 S = some res) : MetI l D q ar WX yX3_readLine cX3_readLine 3 (some .boolean) rm_X3_readLine [.ref (q 3), .ref (q a1)] S res := by
  refine metI_of adrX (by decide +kernel) (Nat.le_of_ble_eq_true rfl) (fun x e1 e2 e3 e4 C => ?_)
  subst e1; subst e2; subst e3; subst e4
  exact v_sub [0, 1] rfl (t_X3_readLine_0 C a1 S h)
theorem mf_X3_readLine : CalV yX3_readLine cX3_readLine 3 (some .boolean) RX3 1 := ⟨w_11_12, w_11_10, w_11_11, w_1_19, rfl, by decide +kernel, by decide +kernel, by decide +kernel⟩
/-! LabyrinthGarden$Reader.findNotTold -/
def f_X3_findNotTold_2 (k2 : Nat → Int32 → St → Option (St)) (x1 : Nat) (x2 : Int32) (S : St) : Option (St) :=
  if (rd S 3 10) ≤ x2 then (
    some S)
  else (
    ckr x1 <|
    ck x2 8 <|
    bI (m_X9_hasBit (rd S x1 5) (rd S 4 x2.toNatClampNeg) S) fun r5 S4 =>
    if r5 = 0 then (
      bV (m_X3_fail 4 (rd S4 5 x2.toNatClampNeg) S4) fun S8 =>
      some S8)
    else (
      lt (x2 + 1 : Int32) fun y7 =>
      k2 x1 y7 S4))
def g_X3_findNotTold_2  : Nat → Nat → Int32 → St → Option (St)
  | 0 => fun _ _ _ => none
  | n + 1 => f_X3_findNotTold_2 (g_X3_findNotTold_2  n)
def f_X3_findNotTold_0  (x1 : Nat) (S : St) : Option (St) :=
  g_X3_findNotTold_2  fuel x1 0 S
def m_X3_findNotTold (a1 : Nat) (S : St) : Option (St) := f_X3_findNotTold_0 a1 S
def rm_X3_findNotTold : Room := { frames := 1, cells := 0, slots := 0, locals := 22 }
set_option maxRecDepth 20000 in
set_option maxHeartbeats 2000000 in
theorem t_X3_findNotTold_2 {x : Ctx} (C : Cx x WX cX3_findNotTold RX3 3 rm_X3_findNotTold none) {res : St} {k2 : Nat → Int32 → St → Option (St)} (hk2 : ∀ (x1 : Nat) (x2 : Int32) (S : St), k2 x1 x2 S = some res → V x WX 3 (QV x WX res) S 2 [(0, .ref (xq x 3)), (1, .ref (xq x x1)), (2, .int x2)] []) (x1 : Nat) (x2 : Int32) (S : St) (h : f_X3_findNotTold_2 k2 x1 x2 S = some res) : V x WX 3 (QV x WX res) S 2 [(0, .ref (xq x 3)), (1, .ref (xq x x1)), (2, .int x2)] [] := by
  unfold f_X3_findNotTold_2 at h
  refine v_iload_n C 2 dX3_findNotTold_2 rfl rfl (n := 3) rfl ?_
  refine v_aload_n C 0 dX3_findNotTold_3 rfl rfl (n := 4) rfl ?_
  refine g_X3_meantCount C w_3_21 dX3_findNotTold_4 (n := 7) rfl ?_
  refine v_icmp_ge C dX3_findNotTold_7 (t := 44) (by decide) (n := 10) rfl (fun c1 => ?_) (fun c1 => ?_)
  · have h := ite_p c1 h
    obtain rfl := Option.some.inj h
    exact v_ret C dX3_findNotTold_44
  · have h := ite_n c1 h
    refine v_aload_n C 1 dX3_findNotTold_10 rfl rfl (n := 11) rfl ?_
    obtain ⟨hr2, h⟩ := ckr_e h
    refine g_X5_told hr2 C w_11_13 dX3_findNotTold_11 (n := 14) rfl ?_
    refine v_aload_n C 0 dX3_findNotTold_14 rfl rfl (n := 15) rfl ?_
    refine g_X3_meant C w_3_19 dX3_findNotTold_15 (n := 18) rfl ?_
    refine v_iload_n C 2 dX3_findNotTold_18 rfl rfl (n := 19) rfl ?_
    obtain ⟨hi3, h⟩ := ck_e h
    refine v_ald C aX_4 hi3 dX3_findNotTold_19 (n := 20) rfl ?_
    obtain ⟨r5, S4, eS4, h⟩ := bI_e h
    refine v_callNI (As := [.int (rd S x1 5), .int (rd S 4 x2.toNatClampNeg)]) C (c_X9_hasBit (rd S x1 5) (rd S 4 x2.toNatClampNeg) S eS4) mf_X9_hasBit (List.mem_of_getElem? (i := 4) rfl : (RX3, 77, yX9_hasBit, RX9) ∈ nestW) ⟨rfl, rfl, by decide, by decide⟩ rfl rfl (Nat.le_of_ble_eq_true rfl) dX3_findNotTold_20 (n := 23) rfl ?_
    refine v_if_ne C dX3_findNotTold_23 (t := 38) (by decide) (n := 26) rfl (fun c6 => ?_) (fun c6 => ?_)
    · have h := ite_n c6 h
      obtain ⟨y7, ey7, h⟩ := lt_e h
      refine v_iinc (L' := [(2, .int y7), (0, .ref (xq x 3)), (1, .ref (xq x x1))]) C 2 dX3_findNotTold_38 rfl (by rw [ey7]; rfl) (by decide) rfl (n := 41) rfl ?_
      refine v_goto C dX3_findNotTold_41 (n := 2) (by decide) ?_
      refine v_sub [1, 2, 0] rfl ?_
      exact hk2 x1 y7 S4 h
    · have h := ite_p c6 h
      refine v_aload_n C 0 dX3_findNotTold_26 rfl rfl (n := 27) rfl ?_
      refine v_iconst (v := 4) C dX3_findNotTold_27 (by decide) (n := 28) rfl ?_
      refine v_aload_n C 0 dX3_findNotTold_28 rfl rfl (n := 29) rfl ?_
      refine g_X3_meantAt C w_3_20 dX3_findNotTold_29 (n := 32) rfl ?_
      refine v_iload_n C 2 dX3_findNotTold_32 rfl rfl (n := 33) rfl ?_
      refine v_ald C aX_5 hi3 dX3_findNotTold_33 (n := 34) rfl ?_
      obtain ⟨S8, eS8, h⟩ := bV_e h
      refine v_callVV (As := [.int 4, .int (rd S4 5 x2.toNatClampNeg)]) C (c_X3_fail 4 (rd S4 5 x2.toNatClampNeg) S4 eS8) mf_X3_fail w_11_5 (oX3 _ _ _) rfl ⟨rfl, rfl, by decide, by decide⟩ rfl rfl (Nat.le_of_ble_eq_true rfl) dX3_findNotTold_34 (n := 37) rfl ?_
      obtain rfl := Option.some.inj h
      exact v_ret C dX3_findNotTold_37
theorem tg_X3_findNotTold_2 {x : Ctx} (C : Cx x WX cX3_findNotTold RX3 3 rm_X3_findNotTold none) {res : St}  : ∀ (n : Nat) (x1 : Nat) (x2 : Int32) (S : St), g_X3_findNotTold_2  n x1 x2 S = some res → V x WX 3 (QV x WX res) S 2 [(0, .ref (xq x 3)), (1, .ref (xq x x1)), (2, .int x2)] [] := by
  intro n
  induction n with
  | zero => intro x1 x2 S h; cases h
  | succ n ih => intro x1 x2 S h; exact t_X3_findNotTold_2 C (fun x1 x2 S h => ih x1 x2 S h) x1 x2 S h
set_option maxRecDepth 20000 in
set_option maxHeartbeats 2000000 in
theorem t_X3_findNotTold_0 {x : Ctx} (C : Cx x WX cX3_findNotTold RX3 3 rm_X3_findNotTold none) {res : St}  (x1 : Nat) (S : St) (h : f_X3_findNotTold_0  x1 S = some res) : V x WX 3 (QV x WX res) S 0 [(0, .ref (xq x 3)), (1, .ref (xq x x1))] [] := by
  unfold f_X3_findNotTold_0 at h
  refine v_iconst (v := 0) C dX3_findNotTold_0 (by decide) (n := 1) rfl ?_
  refine v_istore_n (L' := [(2, .int 0), (0, .ref (xq x 3)), (1, .ref (xq x x1))]) C dX3_findNotTold_1 rfl (by decide) rfl (n := 2) rfl rfl ?_
  refine v_sub [1, 2, 0] rfl ?_
  exact tg_X3_findNotTold_2 C  fuel x1 0 S h
theorem c_X3_findNotTold {l : Launch} {D : va_G} {q : Nat → Nat} {ar : Ar} (a1 : Nat) (S : St) {res : St} (h : m_X3_findNotTold a1 S = some res) : MetV l D q ar WX yX3_findNotTold cX3_findNotTold 3 none rm_X3_findNotTold [.ref (q 3), .ref (q a1)] S res := by
  refine metV_of adrX (by decide +kernel) (Nat.le_of_ble_eq_true rfl) (fun x e1 e2 e3 e4 C => ?_)
  subst e1; subst e2; subst e3; subst e4
  exact v_sub [0, 1] rfl (t_X3_findNotTold_0 C a1 S h)
theorem mf_X3_findNotTold : CalV yX3_findNotTold cX3_findNotTold 3 none RX3 1 := ⟨w_12_9, w_12_7, w_12_8, w_1_19, rfl, by decide +kernel, by decide +kernel, by decide +kernel⟩
/-! LabyrinthGarden$Reader.read -/
def f_X3_read_77  (x2 : Nat) (S : St) : Option (St) :=
  if (rd S 3 0) = 0 then (
    bV (m_X3_findNotTold x2 S) fun S2 =>
    some S2)
  else (
    some S)
def f_X3_read_39 (k39 : Nat → Int32 → St → Option (St)) (x2 : Nat) (x3 : Int32) (S : St) : Option (St) :=
  if 4 < x3 then (
    f_X3_read_77  x2 S)
  else (
    bI (m_X3_takes 3 S) fun r3 S2 =>
    if r3 = 0 then (
      f_X3_read_77  x2 S2)
    else (
      if (rd S2 3 5) = 1 then (
        f_X3_read_77  x2 S2)
      else (
        bI (m_X3_readLine x2 S2) fun r7 S6 =>
        if r7 = 0 then (
          f_X3_read_77  x2 S6)
        else (
          lt (x3 + 1 : Int32) fun y9 =>
          k39 x2 y9 S6))))
def g_X3_read_39  : Nat → Nat → Int32 → St → Option (St)
  | 0 => fun _ _ _ => none
  | n + 1 => f_X3_read_39 (g_X3_read_39  n)
def f_X3_read_0  (x1 : Int32) (x2 : Nat) (S : St) : Option (St) :=
  lt (up S 3 3 (imin x1 300)) fun S1 =>
  lt (up S1 3 4 0) fun S2 =>
  lt (up S2 3 0 0) fun S3 =>
  lt (up S3 3 1 (-1)) fun S4 =>
  lt (up S4 3 10 0) fun S5 =>
  ckr x2 <|
  bV (m_X5_clear x2 S5) fun S7 =>
  g_X3_read_39  fuel x2 0 S7
def m_X3_read (a1 : Int32) (a2 : Nat) (S : St) : Option (St) := f_X3_read_0 a1 a2 S
def rm_X3_read : Room := { frames := 5, cells := 0, slots := 0, locals := 108 }
set_option maxRecDepth 20000 in
set_option maxHeartbeats 2000000 in
theorem t_X3_read_77 {x : Ctx} (C : Cx x WX cX3_read RX3 4 rm_X3_read none) {res : St}  (x2 : Nat) (S : St) (h : f_X3_read_77  x2 S = some res) : V x WX 4 (QV x WX res) S 77 [(0, .ref (xq x 3)), (2, .ref (xq x x2))] [] := by
  unfold f_X3_read_77 at h
  refine v_aload_n C 0 dX3_read_77 rfl rfl (n := 78) rfl ?_
  refine g_X3_fault C w_3_12 dX3_read_78 (n := 81) rfl ?_
  refine v_if_ne C dX3_read_81 (t := 89) (by decide) (n := 84) rfl (fun c1 => ?_) (fun c1 => ?_)
  · have h := ite_n c1 h
    obtain rfl := Option.some.inj h
    exact v_ret C dX3_read_89
  · have h := ite_p c1 h
    refine v_aload_n C 0 dX3_read_84 rfl rfl (n := 85) rfl ?_
    refine v_aload_n C 1 dX3_read_85 rfl rfl (n := 86) rfl ?_
    obtain ⟨S2, eS2, h⟩ := bV_e h
    refine v_callVV (As := [.ref (xq x x2)]) C (c_X3_findNotTold x2 S eS2) mf_X3_findNotTold w_12_6 (oX3 _ _ _) rfl ⟨rfl, rfl, by decide, by decide⟩ rfl rfl (Nat.le_of_ble_eq_true rfl) dX3_read_86 (n := 89) rfl ?_
    obtain rfl := Option.some.inj h
    exact v_ret C dX3_read_89
set_option maxRecDepth 20000 in
set_option maxHeartbeats 2000000 in
theorem t_X3_read_39 {x : Ctx} (C : Cx x WX cX3_read RX3 4 rm_X3_read none) {res : St} {k39 : Nat → Int32 → St → Option (St)} (hk39 : ∀ (x2 : Nat) (x3 : Int32) (S : St), k39 x2 x3 S = some res → V x WX 4 (QV x WX res) S 39 [(0, .ref (xq x 3)), (2, .ref (xq x x2)), (3, .int x3)] []) (x2 : Nat) (x3 : Int32) (S : St) (h : f_X3_read_39 k39 x2 x3 S = some res) : V x WX 4 (QV x WX res) S 39 [(0, .ref (xq x 3)), (2, .ref (xq x x2)), (3, .int x3)] [] := by
  unfold f_X3_read_39 at h
  refine v_iload_n C 2 dX3_read_39 rfl rfl (n := 40) rfl ?_
  refine v_iconst (v := 4) C dX3_read_40 (by decide) (n := 41) rfl ?_
  refine v_icmp_gt C dX3_read_41 (t := 77) (by decide) (n := 44) rfl (fun c1 => ?_) (fun c1 => ?_)
  · have h := ite_p c1 h
    refine v_sub [0, 1] rfl ?_
    exact t_X3_read_77 C  x2 S h
  · have h := ite_n c1 h
    refine v_aload_n C 0 dX3_read_44 rfl rfl (n := 45) rfl ?_
    refine v_iconst (v := 3) C dX3_read_45 (by decide) (n := 46) rfl ?_
    obtain ⟨r3, S2, eS2, h⟩ := bI_e h
    refine v_callVI (As := [.int 3]) C (c_X3_takes 3 S eS2) mf_X3_takes w_10_1 (oX3 _ _ _) rfl ⟨rfl, rfl, by decide, by decide⟩ rfl rfl (Nat.le_of_ble_eq_true rfl) dX3_read_46 (n := 49) rfl ?_
    refine v_if_eq C dX3_read_49 (t := 77) (by decide) (n := 52) rfl (fun c4 => ?_) (fun c4 => ?_)
    · have h := ite_p c4 h
      refine v_sub [0, 1] rfl ?_
      exact t_X3_read_77 C  x2 S2 h
    · have h := ite_n c4 h
      refine v_aload_n C 0 dX3_read_52 rfl rfl (n := 53) rfl ?_
      refine g_X3_token C w_3_16 dX3_read_53 (n := 56) rfl ?_
      refine v_iconst (v := 1) C dX3_read_56 (by decide) (n := 57) rfl ?_
      refine v_icmp_eq C dX3_read_57 (t := 77) (by decide) (n := 60) rfl (fun c5 => ?_) (fun c5 => ?_)
      · have h := ite_p c5 h
        refine v_sub [0, 1] rfl ?_
        exact t_X3_read_77 C  x2 S2 h
      · have h := ite_n c5 h
        refine v_aload_n C 0 dX3_read_60 rfl rfl (n := 61) rfl ?_
        refine v_aload_n C 1 dX3_read_61 rfl rfl (n := 62) rfl ?_
        obtain ⟨r7, S6, eS6, h⟩ := bI_e h
        refine v_callVI (As := [.ref (xq x x2)]) C (c_X3_readLine x2 S2 eS6) mf_X3_readLine w_11_9 (oX3 _ _ _) rfl ⟨rfl, rfl, by decide, by decide⟩ rfl rfl (Nat.le_of_ble_eq_true rfl) dX3_read_62 (n := 65) rfl ?_
        refine v_if_ne C dX3_read_65 (t := 71) (by decide) (n := 68) rfl (fun c8 => ?_) (fun c8 => ?_)
        · have h := ite_n c8 h
          obtain ⟨y9, ey9, h⟩ := lt_e h
          refine v_iinc (L' := [(3, .int y9), (0, .ref (xq x 3)), (2, .ref (xq x x2))]) C 2 dX3_read_71 rfl (by rw [ey9]; rfl) (by decide) rfl (n := 74) rfl ?_
          refine v_goto C dX3_read_74 (n := 39) (by decide) ?_
          refine v_sub [1, 2, 0] rfl ?_
          exact hk39 x2 y9 S6 h
        · have h := ite_p c8 h
          refine v_goto C dX3_read_68 (n := 77) (by decide) ?_
          refine v_sub [0, 1] rfl ?_
          exact t_X3_read_77 C  x2 S6 h
theorem tg_X3_read_39 {x : Ctx} (C : Cx x WX cX3_read RX3 4 rm_X3_read none) {res : St}  : ∀ (n : Nat) (x2 : Nat) (x3 : Int32) (S : St), g_X3_read_39  n x2 x3 S = some res → V x WX 4 (QV x WX res) S 39 [(0, .ref (xq x 3)), (2, .ref (xq x x2)), (3, .int x3)] [] := by
  intro n
  induction n with
  | zero => intro x2 x3 S h; cases h
  | succ n ih => intro x2 x3 S h; exact t_X3_read_39 C (fun x2 x3 S h => ih x2 x3 S h) x2 x3 S h
set_option maxRecDepth 20000 in
set_option maxHeartbeats 2000000 in
theorem t_X3_read_0 {x : Ctx} (C : Cx x WX cX3_read RX3 4 rm_X3_read none) {res : St}  (x1 : Int32) (x2 : Nat) (S : St) (h : f_X3_read_0  x1 x2 S = some res) : V x WX 4 (QV x WX res) S 0 [(0, .ref (xq x 3)), (1, .int x1), (2, .ref (xq x x2))] [] := by
  unfold f_X3_read_0 at h
  refine v_aload_n C 0 dX3_read_0 rfl rfl (n := 1) rfl ?_
  refine v_iload_n C 1 dX3_read_1 rfl rfl (n := 2) rfl ?_
  refine v_aload_n C 0 dX3_read_2 rfl rfl (n := 3) rfl ?_
  refine g_X3_text C w_3_23 dX3_read_3 (n := 6) rfl ?_
  refine v_len (v := 300) C aX_2 (by decide) dX3_read_6 (n := 7) rfl ?_
  refine v_min C w_9_17 w_9_18 w_9_19 w_9_20 (by decide) (Nat.le_of_ble_eq_true rfl) dX3_read_7 (n := 10) rfl ?_
  obtain ⟨S1, eS1, h⟩ := lt_e h
  refine p_X3_length C w_3_14 dX3_read_10 (n := 13) rfl eS1 ?_
  refine v_aload_n C 0 dX3_read_13 rfl rfl (n := 14) rfl ?_
  refine v_iconst (v := 0) C dX3_read_14 (by decide) (n := 15) rfl ?_
  obtain ⟨S2, eS2, h⟩ := lt_e h
  refine p_X3_position C w_3_15 dX3_read_15 (n := 18) rfl eS2 ?_
  refine v_aload_n C 0 dX3_read_18 rfl rfl (n := 19) rfl ?_
  refine v_iconst (v := 0) C dX3_read_19 (by decide) (n := 20) rfl ?_
  obtain ⟨S3, eS3, h⟩ := lt_e h
  refine p_X3_fault C w_3_12 dX3_read_20 (n := 23) rfl eS3 ?_
  refine v_aload_n C 0 dX3_read_23 rfl rfl (n := 24) rfl ?_
  refine v_iconst (v := (-1)) C dX3_read_24 (by decide) (n := 25) rfl ?_
  obtain ⟨S4, eS4, h⟩ := lt_e h
  refine p_X3_faultAt C w_3_13 dX3_read_25 (n := 28) rfl eS4 ?_
  refine v_aload_n C 0 dX3_read_28 rfl rfl (n := 29) rfl ?_
  refine v_iconst (v := 0) C dX3_read_29 (by decide) (n := 30) rfl ?_
  obtain ⟨S5, eS5, h⟩ := lt_e h
  refine p_X3_meantCount C w_3_21 dX3_read_30 (n := 33) rfl eS5 ?_
  refine v_aload_n C 2 dX3_read_33 rfl rfl (n := 34) rfl ?_
  obtain ⟨hr6, h⟩ := ckr_e h
  obtain ⟨S7, eS7, h⟩ := bV_e h
  refine v_callVV (As := []) C (c_X5_clear x2 S5 eS7) mf_X5_clear w_9_21 (oX5 hr6 _ _ _) rfl ⟨rfl, rfl, by decide, by decide⟩ rfl rfl (Nat.le_of_ble_eq_true rfl) dX3_read_34 (n := 37) rfl ?_
  refine v_iconst (v := 0) C dX3_read_37 (by decide) (n := 38) rfl ?_
  refine v_istore_n (L' := [(3, .int 0), (0, .ref (xq x 3)), (1, .int x1), (2, .ref (xq x x2))]) C dX3_read_38 rfl (by decide) rfl (n := 39) rfl rfl ?_
  refine v_sub [1, 3, 0] rfl ?_
  exact tg_X3_read_39 C  fuel x2 0 S7 h
theorem c_X3_read {l : Launch} {D : va_G} {q : Nat → Nat} {ar : Ar} (a1 : Int32) (a2 : Nat) (S : St) {res : St} (h : m_X3_read a1 a2 S = some res) : MetV l D q ar WX yX3_read cX3_read 4 none rm_X3_read [.ref (q 3), .int a1, .ref (q a2)] S res := by
  refine metV_of adrX (by decide +kernel) (Nat.le_of_ble_eq_true rfl) (fun x e1 e2 e3 e4 C => ?_)
  subst e1; subst e2; subst e3; subst e4
  exact v_sub [0, 1, 2] rfl (t_X3_read_0 C a1 a2 S h)
theorem mf_X3_read : CalV yX3_read cX3_read 4 none RX3 2 := ⟨w_9_16, w_9_14, w_9_15, w_1_19, rfl, by decide +kernel, by decide +kernel, by decide +kernel⟩
