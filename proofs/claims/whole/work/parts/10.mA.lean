/-! LabyrinthGarden$Garden.clear -/
def f_X0_clear_0   (S : St) : Option (St) :=
  lt (up S 6 0 0) fun S1 =>
  lt (up S1 6 1 0) fun S2 =>
  lt (up S2 6 2 0) fun S3 =>
  lt (up S3 6 3 0) fun S4 =>
  lt (up S4 6 4 0) fun S5 =>
  lt (up S5 6 5 0) fun S6 =>
  lt (up S6 6 6 1) fun S7 =>
  some S7
def m_X0_clear  (S : St) : Option (St) := f_X0_clear_0  S
def rm_X0_clear : Room := { frames := 0, cells := 0, slots := 0, locals := 0 }
set_option maxRecDepth 20000 in
set_option maxHeartbeats 2000000 in
theorem t_X0_clear_0 {x : Ctx} (C : Cx x WX cX0_clear RX0 1 rm_X0_clear none) {res : St}   (S : St) (h : f_X0_clear_0   S = some res) : V x WX 1 (QV x WX res) S 0 [(0, .ref (xq x 6))] [] := by
  unfold f_X0_clear_0 at h
  refine v_aload_n C 0 dX0_clear_0 rfl rfl (n := 1) rfl ?_
  refine v_iconst (v := 0) C dX0_clear_1 (by decide) (n := 2) rfl ?_
  obtain ⟨S1, eS1, h⟩ := lt_e h
  refine p_X0_junctions C w_4_3 dX0_clear_2 (n := 5) rfl eS1 ?_
  refine v_aload_n C 0 dX0_clear_5 rfl rfl (n := 6) rfl ?_
  refine v_iconst (v := 0) C dX0_clear_6 (by decide) (n := 7) rfl ?_
  obtain ⟨S2, eS2, h⟩ := lt_e h
  refine p_X0_paths C w_4_4 dX0_clear_7 (n := 10) rfl eS2 ?_
  refine v_aload_n C 0 dX0_clear_10 rfl rfl (n := 11) rfl ?_
  refine v_iconst (v := 0) C dX0_clear_11 (by decide) (n := 12) rfl ?_
  obtain ⟨S3, eS3, h⟩ := lt_e h
  refine p_X0_places C w_4_5 dX0_clear_12 (n := 15) rfl eS3 ?_
  refine v_aload_n C 0 dX0_clear_15 rfl rfl (n := 16) rfl ?_
  refine v_iconst (v := 0) C dX0_clear_16 (by decide) (n := 17) rfl ?_
  obtain ⟨S4, eS4, h⟩ := lt_e h
  refine p_X0_outs C w_4_6 dX0_clear_17 (n := 20) rfl eS4 ?_
  refine v_aload_n C 0 dX0_clear_20 rfl rfl (n := 21) rfl ?_
  refine v_iconst (v := 0) C dX0_clear_21 (by decide) (n := 22) rfl ?_
  obtain ⟨S5, eS5, h⟩ := lt_e h
  refine p_X0_marks C w_4_7 dX0_clear_22 (n := 25) rfl eS5 ?_
  refine v_aload_n C 0 dX0_clear_25 rfl rfl (n := 26) rfl ?_
  refine v_iconst (v := 0) C dX0_clear_26 (by decide) (n := 27) rfl ?_
  obtain ⟨S6, eS6, h⟩ := lt_e h
  refine p_X0_shuts C w_4_8 dX0_clear_27 (n := 30) rfl eS6 ?_
  refine v_aload_n C 0 dX0_clear_30 rfl rfl (n := 31) rfl ?_
  refine v_iconst (v := 1) C dX0_clear_31 (by decide) (n := 32) rfl ?_
  obtain ⟨S7, eS7, h⟩ := lt_e h
  refine p_X0_beats C w_4_9 dX0_clear_32 (n := 35) rfl eS7 ?_
  obtain rfl := Option.some.inj h
  exact v_ret C dX0_clear_35
theorem c_X0_clear {l : Launch} {D : va_G} {q : Nat → Nat} {ar : Ar}  (S : St) {res : St} (h : m_X0_clear  S = some res) : MetV l D q ar WX yX0_clear cX0_clear 1 none rm_X0_clear [.ref (q 6)] S res := by
  refine metV_of adrX (by decide +kernel) (Nat.le_of_ble_eq_true rfl) (fun x e1 e2 e3 e4 C => ?_)
  subst e1; subst e2; subst e3; subst e4
  exact v_sub [0] rfl (t_X0_clear_0 C  S h)
theorem mf_X0_clear : CalV yX0_clear cX0_clear 1 none RX0 0 := ⟨w_15_1, w_14_23, w_15_0, w_1_23, rfl, by decide +kernel, by decide +kernel, by decide +kernel⟩
/-! LabyrinthGarden$Garden.hasJunction -/
def f_X0_hasJunction_0  (x1 : Int32) (S : St) : Option (Int32 × St) :=
  if x1 < 0 then (
    some (0, S))
  else (
    if (rd S 6 0) ≤ x1 then (
      some (0, S))
    else (
      some (1, S)))
def m_X0_hasJunction (a1 : Int32) (S : St) : Option (Int32 × St) := f_X0_hasJunction_0 a1 S
def rm_X0_hasJunction : Room := { frames := 0, cells := 0, slots := 0, locals := 0 }
set_option maxRecDepth 20000 in
set_option maxHeartbeats 2000000 in
theorem t_X0_hasJunction_0 {x : Ctx} (C : Cx x WX cX0_hasJunction RX0 2 rm_X0_hasJunction (some .boolean)) {res : Int32 × St}  (x1 : Int32) (S : St) (h : f_X0_hasJunction_0  x1 S = some res) : V x WX 2 (QI x WX res) S 0 [(0, .ref (xq x 6)), (1, .int x1)] [] := by
  unfold f_X0_hasJunction_0 at h
  refine v_iload_n C 1 dX0_hasJunction_0 rfl rfl (n := 1) rfl ?_
  refine v_if_lt C dX0_hasJunction_1 (t := 16) (by decide) (n := 4) rfl (fun c1 => ?_) (fun c1 => ?_)
  · have h := ite_p c1 h
    refine v_iconst (v := 0) C dX0_hasJunction_16 (by decide) (n := 17) rfl ?_
    obtain rfl := Option.some.inj h
    exact v_zret C (Or.inl rfl) dX0_hasJunction_17
  · have h := ite_n c1 h
    refine v_iload_n C 1 dX0_hasJunction_4 rfl rfl (n := 5) rfl ?_
    refine v_aload_n C 0 dX0_hasJunction_5 rfl rfl (n := 6) rfl ?_
    refine g_X0_junctions C w_4_3 dX0_hasJunction_6 (n := 9) rfl ?_
    refine v_icmp_ge C dX0_hasJunction_9 (t := 16) (by decide) (n := 12) rfl (fun c2 => ?_) (fun c2 => ?_)
    · have h := ite_p c2 h
      refine v_iconst (v := 0) C dX0_hasJunction_16 (by decide) (n := 17) rfl ?_
      obtain rfl := Option.some.inj h
      exact v_zret C (Or.inl rfl) dX0_hasJunction_17
    · have h := ite_n c2 h
      refine v_iconst (v := 1) C dX0_hasJunction_12 (by decide) (n := 13) rfl ?_
      refine v_goto C dX0_hasJunction_13 (n := 17) (by decide) ?_
      obtain rfl := Option.some.inj h
      exact v_zret C (Or.inr rfl) dX0_hasJunction_17
theorem c_X0_hasJunction {l : Launch} {D : va_G} {q : Nat → Nat} {ar : Ar} (a1 : Int32) (S : St) {res : Int32 × St} (h : m_X0_hasJunction a1 S = some res) : MetI l D q ar WX yX0_hasJunction cX0_hasJunction 2 (some .boolean) rm_X0_hasJunction [.ref (q 6), .int a1] S res := by
  refine metI_of adrX (by decide +kernel) (Nat.le_of_ble_eq_true rfl) (fun x e1 e2 e3 e4 C => ?_)
  subst e1; subst e2; subst e3; subst e4
  exact v_sub [0, 1] rfl (t_X0_hasJunction_0 C a1 S h)
theorem mf_X0_hasJunction : CalV yX0_hasJunction cX0_hasJunction 2 (some .boolean) RX0 1 := ⟨w_16_16, w_16_14, w_16_15, w_1_23, rfl, by decide +kernel, by decide +kernel, by decide +kernel⟩
/-! LabyrinthGarden$Garden.hasPath -/
def f_X0_hasPath_0  (x1 : Int32) (S : St) : Option (Int32 × St) :=
  if x1 < 0 then (
    some (0, S))
  else (
    if (rd S 6 1) ≤ x1 then (
      some (0, S))
    else (
      some (1, S)))
def m_X0_hasPath (a1 : Int32) (S : St) : Option (Int32 × St) := f_X0_hasPath_0 a1 S
def rm_X0_hasPath : Room := { frames := 0, cells := 0, slots := 0, locals := 0 }
set_option maxRecDepth 20000 in
set_option maxHeartbeats 2000000 in
theorem t_X0_hasPath_0 {x : Ctx} (C : Cx x WX cX0_hasPath RX0 2 rm_X0_hasPath (some .boolean)) {res : Int32 × St}  (x1 : Int32) (S : St) (h : f_X0_hasPath_0  x1 S = some res) : V x WX 2 (QI x WX res) S 0 [(0, .ref (xq x 6)), (1, .int x1)] [] := by
  unfold f_X0_hasPath_0 at h
  refine v_iload_n C 1 dX0_hasPath_0 rfl rfl (n := 1) rfl ?_
  refine v_if_lt C dX0_hasPath_1 (t := 16) (by decide) (n := 4) rfl (fun c1 => ?_) (fun c1 => ?_)
  · have h := ite_p c1 h
    refine v_iconst (v := 0) C dX0_hasPath_16 (by decide) (n := 17) rfl ?_
    obtain rfl := Option.some.inj h
    exact v_zret C (Or.inl rfl) dX0_hasPath_17
  · have h := ite_n c1 h
    refine v_iload_n C 1 dX0_hasPath_4 rfl rfl (n := 5) rfl ?_
    refine v_aload_n C 0 dX0_hasPath_5 rfl rfl (n := 6) rfl ?_
    refine g_X0_paths C w_4_4 dX0_hasPath_6 (n := 9) rfl ?_
    refine v_icmp_ge C dX0_hasPath_9 (t := 16) (by decide) (n := 12) rfl (fun c2 => ?_) (fun c2 => ?_)
    · have h := ite_p c2 h
      refine v_iconst (v := 0) C dX0_hasPath_16 (by decide) (n := 17) rfl ?_
      obtain rfl := Option.some.inj h
      exact v_zret C (Or.inl rfl) dX0_hasPath_17
    · have h := ite_n c2 h
      refine v_iconst (v := 1) C dX0_hasPath_12 (by decide) (n := 13) rfl ?_
      refine v_goto C dX0_hasPath_13 (n := 17) (by decide) ?_
      obtain rfl := Option.some.inj h
      exact v_zret C (Or.inr rfl) dX0_hasPath_17
theorem c_X0_hasPath {l : Launch} {D : va_G} {q : Nat → Nat} {ar : Ar} (a1 : Int32) (S : St) {res : Int32 × St} (h : m_X0_hasPath a1 S = some res) : MetI l D q ar WX yX0_hasPath cX0_hasPath 2 (some .boolean) rm_X0_hasPath [.ref (q 6), .int a1] S res := by
  refine metI_of adrX (by decide +kernel) (Nat.le_of_ble_eq_true rfl) (fun x e1 e2 e3 e4 C => ?_)
  subst e1; subst e2; subst e3; subst e4
  exact v_sub [0, 1] rfl (t_X0_hasPath_0 C a1 S h)
theorem mf_X0_hasPath : CalV yX0_hasPath cX0_hasPath 2 (some .boolean) RX0 1 := ⟨w_18_13, w_18_11, w_18_12, w_1_23, rfl, by decide +kernel, by decide +kernel, by decide +kernel⟩
/-! LabyrinthGarden$Garden.hasPlace -/
def f_X0_hasPlace_0  (x1 : Int32) (S : St) : Option (Int32 × St) :=
  if x1 < 0 then (
    some (0, S))
  else (
    if (rd S 6 2) ≤ x1 then (
      some (0, S))
    else (
      some (1, S)))
def m_X0_hasPlace (a1 : Int32) (S : St) : Option (Int32 × St) := f_X0_hasPlace_0 a1 S
def rm_X0_hasPlace : Room := { frames := 0, cells := 0, slots := 0, locals := 0 }
set_option maxRecDepth 20000 in
set_option maxHeartbeats 2000000 in
theorem t_X0_hasPlace_0 {x : Ctx} (C : Cx x WX cX0_hasPlace RX0 2 rm_X0_hasPlace (some .boolean)) {res : Int32 × St}  (x1 : Int32) (S : St) (h : f_X0_hasPlace_0  x1 S = some res) : V x WX 2 (QI x WX res) S 0 [(0, .ref (xq x 6)), (1, .int x1)] [] := by
  unfold f_X0_hasPlace_0 at h
  refine v_iload_n C 1 dX0_hasPlace_0 rfl rfl (n := 1) rfl ?_
  refine v_if_lt C dX0_hasPlace_1 (t := 16) (by decide) (n := 4) rfl (fun c1 => ?_) (fun c1 => ?_)
  · have h := ite_p c1 h
    refine v_iconst (v := 0) C dX0_hasPlace_16 (by decide) (n := 17) rfl ?_
    obtain rfl := Option.some.inj h
    exact v_zret C (Or.inl rfl) dX0_hasPlace_17
  · have h := ite_n c1 h
    refine v_iload_n C 1 dX0_hasPlace_4 rfl rfl (n := 5) rfl ?_
    refine v_aload_n C 0 dX0_hasPlace_5 rfl rfl (n := 6) rfl ?_
    refine g_X0_places C w_4_5 dX0_hasPlace_6 (n := 9) rfl ?_
    refine v_icmp_ge C dX0_hasPlace_9 (t := 16) (by decide) (n := 12) rfl (fun c2 => ?_) (fun c2 => ?_)
    · have h := ite_p c2 h
      refine v_iconst (v := 0) C dX0_hasPlace_16 (by decide) (n := 17) rfl ?_
      obtain rfl := Option.some.inj h
      exact v_zret C (Or.inl rfl) dX0_hasPlace_17
    · have h := ite_n c2 h
      refine v_iconst (v := 1) C dX0_hasPlace_12 (by decide) (n := 13) rfl ?_
      refine v_goto C dX0_hasPlace_13 (n := 17) (by decide) ?_
      obtain rfl := Option.some.inj h
      exact v_zret C (Or.inr rfl) dX0_hasPlace_17
theorem c_X0_hasPlace {l : Launch} {D : va_G} {q : Nat → Nat} {ar : Ar} (a1 : Int32) (S : St) {res : Int32 × St} (h : m_X0_hasPlace a1 S = some res) : MetI l D q ar WX yX0_hasPlace cX0_hasPlace 2 (some .boolean) rm_X0_hasPlace [.ref (q 6), .int a1] S res := by
  refine metI_of adrX (by decide +kernel) (Nat.le_of_ble_eq_true rfl) (fun x e1 e2 e3 e4 C => ?_)
  subst e1; subst e2; subst e3; subst e4
  exact v_sub [0, 1] rfl (t_X0_hasPlace_0 C a1 S h)
theorem mf_X0_hasPlace : CalV yX0_hasPlace cX0_hasPlace 2 (some .boolean) RX0 1 := ⟨w_20_2, w_20_0, w_20_1, w_1_23, rfl, by decide +kernel, by decide +kernel, by decide +kernel⟩
/-! LabyrinthGarden$Garden.placeOf -/
def f_X0_placeOf_0  (x1 : Int32) (x2 : Int32) (S : St) : Option (Int32 × St) :=
  bI (m_X0_hasJunction x1 S) fun r2 S1 =>
  if r2 = 0 then (
    some ((-1), S1))
  else (
    if x2 < 0 then (
      some ((-1), S1))
    else (
      ck x1 8 <|
      if x2 < (rd S1 8 x1.toNatClampNeg) then (
        some (((rd S1 9 x1.toNatClampNeg) + x2), S1))
      else (
        some ((-1), S1))))
def m_X0_placeOf (a1 : Int32) (a2 : Int32) (S : St) : Option (Int32 × St) := f_X0_placeOf_0 a1 a2 S
def rm_X0_placeOf : Room := { frames := 1, cells := 0, slots := 0, locals := 21 }
set_option maxRecDepth 20000 in
set_option maxHeartbeats 2000000 in
theorem t_X0_placeOf_0 {x : Ctx} (C : Cx x WX cX0_placeOf RX0 3 rm_X0_placeOf (some .int)) {res : Int32 × St}  (x1 : Int32) (x2 : Int32) (S : St) (h : f_X0_placeOf_0  x1 x2 S = some res) : V x WX 3 (QI x WX res) S 0 [(0, .ref (xq x 6)), (1, .int x1), (2, .int x2)] [] := by
  unfold f_X0_placeOf_0 at h
  refine v_aload_n C 0 dX0_placeOf_0 rfl rfl (n := 1) rfl ?_
  refine v_iload_n C 1 dX0_placeOf_1 rfl rfl (n := 2) rfl ?_
  obtain ⟨r2, S1, eS1, h⟩ := bI_e h
  refine v_callVI (As := [.int x1]) C (c_X0_hasJunction x1 S eS1) mf_X0_hasJunction w_16_13 (oX0 _ _ _) rfl ⟨rfl, rfl, by decide, by decide⟩ rfl rfl (Nat.le_of_ble_eq_true rfl) dX0_placeOf_2 (n := 5) rfl ?_
  refine v_if_eq C dX0_placeOf_5 (t := 22) (by decide) (n := 8) rfl (fun c3 => ?_) (fun c3 => ?_)
  · have h := ite_p c3 h
    refine v_iconst (v := (-1)) C dX0_placeOf_22 (by decide) (n := 23) rfl ?_
    obtain rfl := Option.some.inj h
    exact v_iret C dX0_placeOf_23
  · have h := ite_n c3 h
    refine v_iload_n C 2 dX0_placeOf_8 rfl rfl (n := 9) rfl ?_
    refine v_if_lt C dX0_placeOf_9 (t := 22) (by decide) (n := 12) rfl (fun c4 => ?_) (fun c4 => ?_)
    · have h := ite_p c4 h
      refine v_iconst (v := (-1)) C dX0_placeOf_22 (by decide) (n := 23) rfl ?_
      obtain rfl := Option.some.inj h
      exact v_iret C dX0_placeOf_23
    · have h := ite_n c4 h
      refine v_iload_n C 2 dX0_placeOf_12 rfl rfl (n := 13) rfl ?_
      refine v_aload_n C 0 dX0_placeOf_13 rfl rfl (n := 14) rfl ?_
      refine g_X0_endsOf C w_4_11 dX0_placeOf_14 (n := 17) rfl ?_
      refine v_iload_n C 1 dX0_placeOf_17 rfl rfl (n := 18) rfl ?_
      obtain ⟨hi5, h⟩ := ck_e h
      refine v_ald C aX_8 hi5 dX0_placeOf_18 (n := 19) rfl ?_
      refine v_icmp_lt C dX0_placeOf_19 (t := 24) (by decide) (n := 22) rfl (fun c6 => ?_) (fun c6 => ?_)
      · have h := ite_p c6 h
        refine v_aload_n C 0 dX0_placeOf_24 rfl rfl (n := 25) rfl ?_
        refine g_X0_firstPlaceOf C w_4_12 dX0_placeOf_25 (n := 28) rfl ?_
        refine v_iload_n C 1 dX0_placeOf_28 rfl rfl (n := 29) rfl ?_
        refine v_ald C aX_9 hi5 dX0_placeOf_29 (n := 30) rfl ?_
        refine v_iload_n C 2 dX0_placeOf_30 rfl rfl (n := 31) rfl ?_
        refine v_iadd C dX0_placeOf_31 (n := 32) rfl ?_
        obtain rfl := Option.some.inj h
        exact v_iret C dX0_placeOf_32
      · have h := ite_n c6 h
        refine v_iconst (v := (-1)) C dX0_placeOf_22 (by decide) (n := 23) rfl ?_
        obtain rfl := Option.some.inj h
        exact v_iret C dX0_placeOf_23
theorem c_X0_placeOf {l : Launch} {D : va_G} {q : Nat → Nat} {ar : Ar} (a1 : Int32) (a2 : Int32) (S : St) {res : Int32 × St} (h : m_X0_placeOf a1 a2 S = some res) : MetI l D q ar WX yX0_placeOf cX0_placeOf 3 (some .int) rm_X0_placeOf [.ref (q 6), .int a1, .int a2] S res := by
  refine metI_of adrX (by decide +kernel) (Nat.le_of_ble_eq_true rfl) (fun x e1 e2 e3 e4 C => ?_)
  subst e1; subst e2; subst e3; subst e4
  exact v_sub [0, 1, 2] rfl (t_X0_placeOf_0 C a1 a2 S h)
theorem mf_X0_placeOf : CalV yX0_placeOf cX0_placeOf 3 (some .int) RX0 2 := ⟨w_19_14, w_19_12, w_19_13, w_1_23, rfl, by decide +kernel, by decide +kernel, by decide +kernel⟩
/-! LabyrinthGarden.withBit -/
def f_X9_withBit_0  (x0 : Int32) (x1 : Int32) (x2 : Int32) (S : St) : Option (Int32 × St) :=
  if x2 = 0 then (
    some ((x0 &&& ((shl 1 x1) ^^^ (-1))), S))
  else (
    some ((x0 ||| (shl 1 x1)), S))
def m_X9_withBit (a0 : Int32) (a1 : Int32) (a2 : Int32) (S : St) : Option (Int32 × St) := f_X9_withBit_0 a0 a1 a2 S
def rm_X9_withBit : Room := { frames := 0, cells := 0, slots := 0, locals := 0 }
set_option maxRecDepth 20000 in
set_option maxHeartbeats 2000000 in
theorem t_X9_withBit_0 {x : Ctx} (C : Cx x WX cX9_withBit RX9 3 rm_X9_withBit (some .int)) {res : Int32 × St}  (x0 : Int32) (x1 : Int32) (x2 : Int32) (S : St) (h : f_X9_withBit_0  x0 x1 x2 S = some res) : V x WX 3 (QI x WX res) S 0 [(0, .int x0), (1, .int x1), (2, .int x2)] [] := by
  unfold f_X9_withBit_0 at h
  refine v_iload_n C 2 dX9_withBit_0 rfl rfl (n := 1) rfl ?_
  refine v_if_eq C dX9_withBit_1 (t := 12) (by decide) (n := 4) rfl (fun c1 => ?_) (fun c1 => ?_)
  · have h := ite_p c1 h
    refine v_iload_n C 0 dX9_withBit_12 rfl rfl (n := 13) rfl ?_
    refine v_iconst (v := 1) C dX9_withBit_13 (by decide) (n := 14) rfl ?_
    refine v_iload_n C 1 dX9_withBit_14 rfl rfl (n := 15) rfl ?_
    refine v_ishl C dX9_withBit_15 (n := 16) rfl ?_
    refine v_iconst (v := (-1)) C dX9_withBit_16 (by decide) (n := 17) rfl ?_
    refine v_ixor C dX9_withBit_17 (n := 18) rfl ?_
    refine v_iand C dX9_withBit_18 (n := 19) rfl ?_
    obtain rfl := Option.some.inj h
    exact v_iret C dX9_withBit_19
  · have h := ite_n c1 h
    refine v_iload_n C 0 dX9_withBit_4 rfl rfl (n := 5) rfl ?_
    refine v_iconst (v := 1) C dX9_withBit_5 (by decide) (n := 6) rfl ?_
    refine v_iload_n C 1 dX9_withBit_6 rfl rfl (n := 7) rfl ?_
    refine v_ishl C dX9_withBit_7 (n := 8) rfl ?_
    refine v_ior C dX9_withBit_8 (n := 9) rfl ?_
    refine v_goto C dX9_withBit_9 (n := 19) (by decide) ?_
    obtain rfl := Option.some.inj h
    exact v_iret C dX9_withBit_19
theorem c_X9_withBit {l : Launch} {D : va_G} {q : Nat → Nat} {ar : Ar} (a0 : Int32) (a1 : Int32) (a2 : Int32) (S : St) {res : Int32 × St} (h : m_X9_withBit a0 a1 a2 S = some res) : MetI l D q ar WX yX9_withBit cX9_withBit 3 (some .int) rm_X9_withBit [.int a0, .int a1, .int a2] S res := by
  refine metI_of adrX (by decide +kernel) (Nat.le_of_ble_eq_true rfl) (fun x e1 e2 e3 e4 C => ?_)
  subst e1; subst e2; subst e3; subst e4
  exact v_sub [0, 1, 2] rfl (t_X9_withBit_0 C a0 a1 a2 S h)
theorem mf_X9_withBit : CalS yX9_withBit cX9_withBit 3 (some .int) 3 := ⟨w_11_22, w_11_21, w_1_2, by decide +kernel, by decide +kernel, by decide +kernel⟩
/-! LabyrinthGarden$Garden.addJunction -/
def f_X0_addJunction_0  (x1 : Int32) (S : St) : Option (Int32 × St) :=
  if (rd S 6 0) < 8 then (
    lt ((rd S 6 0) : Int32) fun y2 =>
    lt (up S 6 0 ((rd S 6 0) + 1)) fun S3 =>
    bI (m_X9_withBit (rd S3 6 3) y2 x1 S3) fun r5 S4 =>
    lt (up S4 6 3 r5) fun S6 =>
    ck y2 8 <|
    lt (up S6 8 y2.toNatClampNeg 0) fun S8 =>
    lt (up S8 9 y2.toNatClampNeg (rd S8 6 2)) fun S9 =>
    some (y2, S9))
  else (
    some ((-1), S))
def m_X0_addJunction (a1 : Int32) (S : St) : Option (Int32 × St) := f_X0_addJunction_0 a1 S
def rm_X0_addJunction : Room := { frames := 1, cells := 0, slots := 0, locals := 22 }
set_option maxRecDepth 20000 in
set_option maxHeartbeats 2000000 in
theorem t_X0_addJunction_0 {x : Ctx} (C : Cx x WX cX0_addJunction RX0 3 rm_X0_addJunction (some .int)) {res : Int32 × St}  (x1 : Int32) (S : St) (h : f_X0_addJunction_0  x1 S = some res) : V x WX 3 (QI x WX res) S 0 [(0, .ref (xq x 6)), (1, .int x1)] [] := by
  unfold f_X0_addJunction_0 at h
  refine v_aload_n C 0 dX0_addJunction_0 rfl rfl (n := 1) rfl ?_
  refine g_X0_junctions C w_4_3 dX0_addJunction_1 (n := 4) rfl ?_
  refine v_bipush (v := 8) C dX0_addJunction_4 (by decide) (n := 6) rfl ?_
  refine v_icmp_lt C dX0_addJunction_6 (t := 11) (by decide) (n := 9) rfl (fun c1 => ?_) (fun c1 => ?_)
  · have h := ite_p c1 h
    refine v_aload_n C 0 dX0_addJunction_11 rfl rfl (n := 12) rfl ?_
    refine g_X0_junctions C w_4_3 dX0_addJunction_12 (n := 15) rfl ?_
    obtain ⟨y2, ey2, h⟩ := lt_e h
    refine v_istore_n (L' := [(2, .int y2), (0, .ref (xq x 6)), (1, .int x1)]) C dX0_addJunction_15 rfl (by decide) rfl (n := 16) rfl ey2 ?_
    refine v_aload_n C 1 dX0_addJunction_16 rfl rfl (n := 17) rfl ?_
    refine v_dup C dX0_addJunction_17 rfl (n := 18) rfl ?_
    refine g_X0_junctions C w_4_3 dX0_addJunction_18 (n := 21) rfl ?_
    refine v_iconst (v := 1) C dX0_addJunction_21 (by decide) (n := 22) rfl ?_
    refine v_iadd C dX0_addJunction_22 (n := 23) rfl ?_
    obtain ⟨S3, eS3, h⟩ := lt_e h
    refine p_X0_junctions C w_4_3 dX0_addJunction_23 (n := 26) rfl eS3 ?_
    refine v_aload_n C 1 dX0_addJunction_26 rfl rfl (n := 27) rfl ?_
    refine v_aload_n C 1 dX0_addJunction_27 rfl rfl (n := 28) rfl ?_
    refine g_X0_outs C w_4_6 dX0_addJunction_28 (n := 31) rfl ?_
    refine v_iload_n C 0 dX0_addJunction_31 rfl rfl (n := 32) rfl ?_
    refine v_iload_n C 2 dX0_addJunction_32 rfl rfl (n := 33) rfl ?_
    obtain ⟨r5, S4, eS4, h⟩ := bI_e h
    refine v_callNI (As := [.int (rd S3 6 3), .int y2, .int x1]) C (c_X9_withBit (rd S3 6 3) y2 x1 S3 eS4) mf_X9_withBit (List.mem_of_getElem? (i := 7) rfl : (RX0, 65, yX9_withBit, RX9) ∈ nestW) ⟨rfl, rfl, by decide, by decide⟩ rfl rfl (Nat.le_of_ble_eq_true rfl) dX0_addJunction_33 (n := 36) rfl ?_
    obtain ⟨S6, eS6, h⟩ := lt_e h
    refine p_X0_outs C w_4_6 dX0_addJunction_36 (n := 39) rfl eS6 ?_
    refine v_aload_n C 1 dX0_addJunction_39 rfl rfl (n := 40) rfl ?_
    refine g_X0_endsOf C w_4_11 dX0_addJunction_40 (n := 43) rfl ?_
    refine v_iload_n C 0 dX0_addJunction_43 rfl rfl (n := 44) rfl ?_
    refine v_iconst (v := 0) C dX0_addJunction_44 (by decide) (n := 45) rfl ?_
    obtain ⟨hi7, h⟩ := ck_e h
    obtain ⟨S8, eS8, h⟩ := lt_e h
    refine v_ast C aX_8 hi7 dX0_addJunction_45 (n := 46) rfl eS8 ?_
    refine v_aload_n C 1 dX0_addJunction_46 rfl rfl (n := 47) rfl ?_
    refine g_X0_firstPlaceOf C w_4_12 dX0_addJunction_47 (n := 50) rfl ?_
    refine v_iload_n C 0 dX0_addJunction_50 rfl rfl (n := 51) rfl ?_
    refine v_aload_n C 1 dX0_addJunction_51 rfl rfl (n := 52) rfl ?_
    refine g_X0_places C w_4_5 dX0_addJunction_52 (n := 55) rfl ?_
    obtain ⟨S9, eS9, h⟩ := lt_e h
    refine v_ast C aX_9 hi7 dX0_addJunction_55 (n := 56) rfl eS9 ?_
    refine v_iload_n C 0 dX0_addJunction_56 rfl rfl (n := 57) rfl ?_
    obtain rfl := Option.some.inj h
    exact v_iret C dX0_addJunction_57
  · have h := ite_n c1 h
    refine v_iconst (v := (-1)) C dX0_addJunction_9 (by decide) (n := 10) rfl ?_
    obtain rfl := Option.some.inj h
    exact v_iret C dX0_addJunction_10
theorem c_X0_addJunction {l : Launch} {D : va_G} {q : Nat → Nat} {ar : Ar} (a1 : Int32) (S : St) {res : Int32 × St} (h : m_X0_addJunction a1 S = some res) : MetI l D q ar WX yX0_addJunction cX0_addJunction 3 (some .int) rm_X0_addJunction [.ref (q 6), .int a1] S res := by
  refine metI_of adrX (by decide +kernel) (Nat.le_of_ble_eq_true rfl) (fun x e1 e2 e3 e4 C => ?_)
  subst e1; subst e2; subst e3; subst e4
  exact v_sub [0, 1] rfl (t_X0_addJunction_0 C a1 S h)
theorem mf_X0_addJunction : CalV yX0_addJunction cX0_addJunction 3 (some .int) RX0 1 := ⟨w_16_0, w_15_22, w_15_23, w_1_23, rfl, by decide +kernel, by decide +kernel, by decide +kernel⟩
/-! LabyrinthGarden$Garden.addEnd -/
def f_X0_addEnd_0  (x1 : Int32) (x2 : Int32) (S : St) : Option (St) :=
  ck x1 8 <|
  ck ((x1 * 6) + (rd S 8 x1.toNatClampNeg)) 48 <|
  lt (up S 14 ((x1 * 6) + (rd S 8 x1.toNatClampNeg)).toNatClampNeg x2) fun S3 =>
  lt (up S3 8 x1.toNatClampNeg ((rd S3 8 x1.toNatClampNeg) + 1)) fun S4 =>
  some S4
def m_X0_addEnd (a1 : Int32) (a2 : Int32) (S : St) : Option (St) := f_X0_addEnd_0 a1 a2 S
def rm_X0_addEnd : Room := { frames := 0, cells := 0, slots := 0, locals := 0 }
set_option maxRecDepth 20000 in
set_option maxHeartbeats 2000000 in
theorem t_X0_addEnd_0 {x : Ctx} (C : Cx x WX cX0_addEnd RX0 3 rm_X0_addEnd none) {res : St}  (x1 : Int32) (x2 : Int32) (S : St) (h : f_X0_addEnd_0  x1 x2 S = some res) : V x WX 3 (QV x WX res) S 0 [(0, .ref (xq x 6)), (1, .int x1), (2, .int x2)] [] := by
  unfold f_X0_addEnd_0 at h
  refine v_aload_n C 0 dX0_addEnd_0 rfl rfl (n := 1) rfl ?_
  refine g_X0_rings C w_4_17 dX0_addEnd_1 (n := 4) rfl ?_
  refine v_iload_n C 1 dX0_addEnd_4 rfl rfl (n := 5) rfl ?_
  refine v_bipush (v := 6) C dX0_addEnd_5 (by decide) (n := 7) rfl ?_
  refine v_imul C dX0_addEnd_7 (n := 8) rfl ?_
  refine v_aload_n C 0 dX0_addEnd_8 rfl rfl (n := 9) rfl ?_
  refine g_X0_endsOf C w_4_11 dX0_addEnd_9 (n := 12) rfl ?_
  refine v_iload_n C 1 dX0_addEnd_12 rfl rfl (n := 13) rfl ?_
  obtain ⟨hi1, h⟩ := ck_e h
  refine v_ald C aX_8 hi1 dX0_addEnd_13 (n := 14) rfl ?_
  refine v_iadd C dX0_addEnd_14 (n := 15) rfl ?_
  refine v_iload_n C 2 dX0_addEnd_15 rfl rfl (n := 16) rfl ?_
  obtain ⟨hi2, h⟩ := ck_e h
  obtain ⟨S3, eS3, h⟩ := lt_e h
  refine v_ast C aX_14 hi2 dX0_addEnd_16 (n := 17) rfl eS3 ?_
  refine v_aload_n C 0 dX0_addEnd_17 rfl rfl (n := 18) rfl ?_
  refine g_X0_endsOf C w_4_11 dX0_addEnd_18 (n := 21) rfl ?_
  refine v_iload_n C 1 dX0_addEnd_21 rfl rfl (n := 22) rfl ?_
  refine v_dup2 C dX0_addEnd_22 rfl rfl (n := 23) rfl ?_
  refine v_ald C aX_8 hi1 dX0_addEnd_23 (n := 24) rfl ?_
  refine v_iconst (v := 1) C dX0_addEnd_24 (by decide) (n := 25) rfl ?_
  refine v_iadd C dX0_addEnd_25 (n := 26) rfl ?_
  obtain ⟨S4, eS4, h⟩ := lt_e h
  refine v_ast C aX_8 hi1 dX0_addEnd_26 (n := 27) rfl eS4 ?_
  obtain rfl := Option.some.inj h
  exact v_ret C dX0_addEnd_27
theorem c_X0_addEnd {l : Launch} {D : va_G} {q : Nat → Nat} {ar : Ar} (a1 : Int32) (a2 : Int32) (S : St) {res : St} (h : m_X0_addEnd a1 a2 S = some res) : MetV l D q ar WX yX0_addEnd cX0_addEnd 3 none rm_X0_addEnd [.ref (q 6), .int a1, .int a2] S res := by
  refine metV_of adrX (by decide +kernel) (Nat.le_of_ble_eq_true rfl) (fun x e1 e2 e3 e4 C => ?_)
  subst e1; subst e2; subst e3; subst e4
  exact v_sub [0, 1, 2] rfl (t_X0_addEnd_0 C a1 a2 S h)
theorem mf_X0_addEnd : CalV yX0_addEnd cX0_addEnd 3 none RX0 2 := ⟨w_16_20, w_16_18, w_16_19, w_1_23, rfl, by decide +kernel, by decide +kernel, by decide +kernel⟩
/-! LabyrinthGarden$Garden.numberPlaces -/
def f_X0_numberPlaces_27 (k7 : Int32 → St → Option (St)) (k27 : Int32 → Int32 → St → Option (St)) (x1 : Int32) (x2 : Int32) (S : St) : Option (St) :=
  ck x1 8 <|
  if (rd S 8 x1.toNatClampNeg) ≤ x2 then (
    lt (x1 + 1 : Int32) fun y3 =>
    k7 y3 S)
  else (
    ck ((x1 * 6) + x2) 48 <|
    lt ((rd S 14 ((x1 * 6) + x2).toNatClampNeg) : Int32) fun y5 =>
    ck (rd S 6 2) 24 <|
    lt (up S 10 (rd S 6 2).toNatClampNeg x1) fun S7 =>
    ck (rd S7 6 2) 24 <|
    lt (up S7 11 (rd S7 6 2).toNatClampNeg x2) fun S9 =>
    ck (rd S9 6 2) 24 <|
    lt (up S9 12 (rd S9 6 2).toNatClampNeg (y5 / 2)) fun S11 =>
    ck y5 24 <|
    lt (up S11 15 y5.toNatClampNeg (rd S11 6 2)) fun S13 =>
    lt (up S13 6 2 ((rd S13 6 2) + 1)) fun S14 =>
    lt (x2 + 1 : Int32) fun y15 =>
    k27 x1 y15 S14)
def g_X0_numberPlaces_27 (k7 : Int32 → St → Option (St)) : Nat → Int32 → Int32 → St → Option (St)
  | 0 => fun _ _ _ => none
  | n + 1 => f_X0_numberPlaces_27 k7 (g_X0_numberPlaces_27 k7 n)
def f_X0_numberPlaces_115 (k115 : Int32 → St → Option (St)) (x1 : Int32) (S : St) : Option (St) :=
  if (rd S 6 2) ≤ x1 then (
    some S)
  else (
    ck x1 24 <|
    ck (x1 ^^^ 1) 24 <|
    ck (rd S 15 x1.toNatClampNeg) 24 <|
    lt (up S 13 (rd S 15 x1.toNatClampNeg).toNatClampNeg (rd S 15 (x1 ^^^ 1).toNatClampNeg)) fun S5 =>
    lt (x1 + 1 : Int32) fun y6 =>
    k115 y6 S5)
def g_X0_numberPlaces_115  : Nat → Int32 → St → Option (St)
  | 0 => fun _ _ => none
  | n + 1 => f_X0_numberPlaces_115 (g_X0_numberPlaces_115  n)
def f_X0_numberPlaces_7 (k7 : Int32 → St → Option (St)) (x1 : Int32) (S : St) : Option (St) :=
  if (rd S 6 0) ≤ x1 then (
    g_X0_numberPlaces_115  fuel 0 S)
  else (
    ck x1 8 <|
    lt (up S 9 x1.toNatClampNeg (rd S 6 2)) fun S3 =>
    g_X0_numberPlaces_27 k7 fuel x1 0 S3)
def g_X0_numberPlaces_7  : Nat → Int32 → St → Option (St)
  | 0 => fun _ _ => none
  | n + 1 => f_X0_numberPlaces_7 (g_X0_numberPlaces_7  n)
def f_X0_numberPlaces_0   (S : St) : Option (St) :=
  lt (up S 6 2 0) fun S1 =>
  g_X0_numberPlaces_7  fuel 0 S1
def m_X0_numberPlaces  (S : St) : Option (St) := f_X0_numberPlaces_0  S
def rm_X0_numberPlaces : Room := { frames := 0, cells := 0, slots := 0, locals := 0 }
set_option maxRecDepth 20000 in
set_option maxHeartbeats 2000000 in
theorem t_X0_numberPlaces_27 {x : Ctx} (C : Cx x WX cX0_numberPlaces RX0 4 rm_X0_numberPlaces none) {res : St} {k7 : Int32 → St → Option (St)} (hk7 : ∀ (x1 : Int32) (S : St), k7 x1 S = some res → V x WX 4 (QV x WX res) S 7 [(0, .ref (xq x 6)), (1, .int x1)] []) {k27 : Int32 → Int32 → St → Option (St)} (hk27 : ∀ (x1 : Int32) (x2 : Int32) (S : St), k27 x1 x2 S = some res → V x WX 4 (QV x WX res) S 27 [(0, .ref (xq x 6)), (1, .int x1), (2, .int x2)] []) (x1 : Int32) (x2 : Int32) (S : St) (h : f_X0_numberPlaces_27 k7 k27 x1 x2 S = some res) : V x WX 4 (QV x WX res) S 27 [(0, .ref (xq x 6)), (1, .int x1), (2, .int x2)] [] := by
  unfold f_X0_numberPlaces_27 at h
  refine v_iload_n C 2 dX0_numberPlaces_27 rfl rfl (n := 28) rfl ?_
  refine v_aload_n C 0 dX0_numberPlaces_28 rfl rfl (n := 29) rfl ?_
  refine g_X0_endsOf C w_4_11 dX0_numberPlaces_29 (n := 32) rfl ?_
  refine v_iload_n C 1 dX0_numberPlaces_32 rfl rfl (n := 33) rfl ?_
  obtain ⟨hi1, h⟩ := ck_e h
  refine v_ald C aX_8 hi1 dX0_numberPlaces_33 (n := 34) rfl ?_
  refine v_icmp_ge C dX0_numberPlaces_34 (t := 107) (by decide) (n := 37) rfl (fun c2 => ?_) (fun c2 => ?_)
  · have h := ite_p c2 h
    obtain ⟨y3, ey3, h⟩ := lt_e h
    refine v_iinc (L' := [(1, .int y3), (0, .ref (xq x 6)), (2, .int x2)]) C 1 dX0_numberPlaces_107 rfl (by rw [ey3]; rfl) (by decide) rfl (n := 110) rfl ?_
    refine v_goto C dX0_numberPlaces_110 (n := 7) (by decide) ?_
    refine v_sub [1, 0] rfl ?_
    exact hk7 y3 S h
  · have h := ite_n c2 h
    refine v_aload_n C 0 dX0_numberPlaces_37 rfl rfl (n := 38) rfl ?_
    refine g_X0_rings C w_4_17 dX0_numberPlaces_38 (n := 41) rfl ?_
    refine v_iload_n C 1 dX0_numberPlaces_41 rfl rfl (n := 42) rfl ?_
    refine v_bipush (v := 6) C dX0_numberPlaces_42 (by decide) (n := 44) rfl ?_
    refine v_imul C dX0_numberPlaces_44 (n := 45) rfl ?_
    refine v_iload_n C 2 dX0_numberPlaces_45 rfl rfl (n := 46) rfl ?_
    refine v_iadd C dX0_numberPlaces_46 (n := 47) rfl ?_
    obtain ⟨hi4, h⟩ := ck_e h
    refine v_ald C aX_14 hi4 dX0_numberPlaces_47 (n := 48) rfl ?_
    obtain ⟨y5, ey5, h⟩ := lt_e h
    refine v_istore_n (L' := [(3, .int y5), (0, .ref (xq x 6)), (1, .int x1), (2, .int x2)]) C dX0_numberPlaces_48 rfl (by decide) rfl (n := 49) rfl ey5 ?_
    refine v_aload_n C 1 dX0_numberPlaces_49 rfl rfl (n := 50) rfl ?_
    refine g_X0_junctionAt C w_4_13 dX0_numberPlaces_50 (n := 53) rfl ?_
    refine v_aload_n C 1 dX0_numberPlaces_53 rfl rfl (n := 54) rfl ?_
    refine g_X0_places C w_4_5 dX0_numberPlaces_54 (n := 57) rfl ?_
    refine v_iload_n C 2 dX0_numberPlaces_57 rfl rfl (n := 58) rfl ?_
    obtain ⟨hi6, h⟩ := ck_e h
    obtain ⟨S7, eS7, h⟩ := lt_e h
    refine v_ast C aX_10 hi6 dX0_numberPlaces_58 (n := 59) rfl eS7 ?_
    refine v_aload_n C 1 dX0_numberPlaces_59 rfl rfl (n := 60) rfl ?_
    refine g_X0_endAt C w_4_14 dX0_numberPlaces_60 (n := 63) rfl ?_
    refine v_aload_n C 1 dX0_numberPlaces_63 rfl rfl (n := 64) rfl ?_
    refine g_X0_places C w_4_5 dX0_numberPlaces_64 (n := 67) rfl ?_
    refine v_iload_n C 3 dX0_numberPlaces_67 rfl rfl (n := 68) rfl ?_
    obtain ⟨hi8, h⟩ := ck_e h
    obtain ⟨S9, eS9, h⟩ := lt_e h
    refine v_ast C aX_11 hi8 dX0_numberPlaces_68 (n := 69) rfl eS9 ?_
    refine v_aload_n C 1 dX0_numberPlaces_69 rfl rfl (n := 70) rfl ?_
    refine g_X0_pathAt C w_4_15 dX0_numberPlaces_70 (n := 73) rfl ?_
    refine v_aload_n C 1 dX0_numberPlaces_73 rfl rfl (n := 74) rfl ?_
    refine g_X0_places C w_4_5 dX0_numberPlaces_74 (n := 77) rfl ?_
    refine v_iload_n C 0 dX0_numberPlaces_77 rfl rfl (n := 78) rfl ?_
    refine v_iconst (v := 2) C dX0_numberPlaces_78 (by decide) (n := 79) rfl ?_
    refine v_idiv C dX0_numberPlaces_79 (by decide) (n := 80) rfl ?_
    obtain ⟨hi10, h⟩ := ck_e h
    obtain ⟨S11, eS11, h⟩ := lt_e h
    refine v_ast C aX_12 hi10 dX0_numberPlaces_80 (n := 81) rfl eS11 ?_
    refine v_aload_n C 1 dX0_numberPlaces_81 rfl rfl (n := 82) rfl ?_
    refine g_X0_placeOfSide C w_4_18 dX0_numberPlaces_82 (n := 85) rfl ?_
    refine v_iload_n C 0 dX0_numberPlaces_85 rfl rfl (n := 86) rfl ?_
    refine v_aload_n C 1 dX0_numberPlaces_86 rfl rfl (n := 87) rfl ?_
    refine g_X0_places C w_4_5 dX0_numberPlaces_87 (n := 90) rfl ?_
    obtain ⟨hi12, h⟩ := ck_e h
    obtain ⟨S13, eS13, h⟩ := lt_e h
    refine v_ast C aX_15 hi12 dX0_numberPlaces_90 (n := 91) rfl eS13 ?_
    refine v_aload_n C 1 dX0_numberPlaces_91 rfl rfl (n := 92) rfl ?_
    refine v_dup C dX0_numberPlaces_92 rfl (n := 93) rfl ?_
    refine g_X0_places C w_4_5 dX0_numberPlaces_93 (n := 96) rfl ?_
    refine v_iconst (v := 1) C dX0_numberPlaces_96 (by decide) (n := 97) rfl ?_
    refine v_iadd C dX0_numberPlaces_97 (n := 98) rfl ?_
    obtain ⟨S14, eS14, h⟩ := lt_e h
    refine p_X0_places C w_4_5 dX0_numberPlaces_98 (n := 101) rfl eS14 ?_
    obtain ⟨y15, ey15, h⟩ := lt_e h
    refine v_iinc (L' := [(2, .int y15), (3, .int y5), (0, .ref (xq x 6)), (1, .int x1)]) C 3 dX0_numberPlaces_101 rfl (by rw [ey15]; rfl) (by decide) rfl (n := 104) rfl ?_
    refine v_goto C dX0_numberPlaces_104 (n := 27) (by decide) ?_
    refine v_sub [2, 3, 0] rfl ?_
    exact hk27 x1 y15 S14 h
theorem tg_X0_numberPlaces_27 {x : Ctx} (C : Cx x WX cX0_numberPlaces RX0 4 rm_X0_numberPlaces none) {res : St} {k7 : Int32 → St → Option (St)} (hk7 : ∀ (x1 : Int32) (S : St), k7 x1 S = some res → V x WX 4 (QV x WX res) S 7 [(0, .ref (xq x 6)), (1, .int x1)] []) : ∀ (n : Nat) (x1 : Int32) (x2 : Int32) (S : St), g_X0_numberPlaces_27 k7 n x1 x2 S = some res → V x WX 4 (QV x WX res) S 27 [(0, .ref (xq x 6)), (1, .int x1), (2, .int x2)] [] := by
  intro n
  induction n with
  | zero => intro x1 x2 S h; cases h
  | succ n ih => intro x1 x2 S h; exact t_X0_numberPlaces_27 C hk7 (fun x1 x2 S h => ih x1 x2 S h) x1 x2 S h
set_option maxRecDepth 20000 in
set_option maxHeartbeats 2000000 in
theorem t_X0_numberPlaces_115 {x : Ctx} (C : Cx x WX cX0_numberPlaces RX0 4 rm_X0_numberPlaces none) {res : St} {k115 : Int32 → St → Option (St)} (hk115 : ∀ (x1 : Int32) (S : St), k115 x1 S = some res → V x WX 4 (QV x WX res) S 115 [(0, .ref (xq x 6)), (1, .int x1)] []) (x1 : Int32) (S : St) (h : f_X0_numberPlaces_115 k115 x1 S = some res) : V x WX 4 (QV x WX res) S 115 [(0, .ref (xq x 6)), (1, .int x1)] [] := by
  unfold f_X0_numberPlaces_115 at h
  refine v_iload_n C 1 dX0_numberPlaces_115 rfl rfl (n := 116) rfl ?_
  refine v_aload_n C 0 dX0_numberPlaces_116 rfl rfl (n := 117) rfl ?_
  refine g_X0_places C w_4_5 dX0_numberPlaces_117 (n := 120) rfl ?_
  refine v_icmp_ge C dX0_numberPlaces_120 (t := 148) (by decide) (n := 123) rfl (fun c1 => ?_) (fun c1 => ?_)
  · have h := ite_p c1 h
    obtain rfl := Option.some.inj h
    exact v_ret C dX0_numberPlaces_148
  · have h := ite_n c1 h
    refine v_aload_n C 0 dX0_numberPlaces_123 rfl rfl (n := 124) rfl ?_
    refine g_X0_otherOf C w_4_16 dX0_numberPlaces_124 (n := 127) rfl ?_
    refine v_aload_n C 0 dX0_numberPlaces_127 rfl rfl (n := 128) rfl ?_
    refine g_X0_placeOfSide C w_4_18 dX0_numberPlaces_128 (n := 131) rfl ?_
    refine v_iload_n C 1 dX0_numberPlaces_131 rfl rfl (n := 132) rfl ?_
    obtain ⟨hi2, h⟩ := ck_e h
    refine v_ald C aX_15 hi2 dX0_numberPlaces_132 (n := 133) rfl ?_
    refine v_aload_n C 0 dX0_numberPlaces_133 rfl rfl (n := 134) rfl ?_
    refine g_X0_placeOfSide C w_4_18 dX0_numberPlaces_134 (n := 137) rfl ?_
    refine v_iload_n C 1 dX0_numberPlaces_137 rfl rfl (n := 138) rfl ?_
    refine v_iconst (v := 1) C dX0_numberPlaces_138 (by decide) (n := 139) rfl ?_
    refine v_ixor C dX0_numberPlaces_139 (n := 140) rfl ?_
    obtain ⟨hi3, h⟩ := ck_e h
    refine v_ald C aX_15 hi3 dX0_numberPlaces_140 (n := 141) rfl ?_
    obtain ⟨hi4, h⟩ := ck_e h
    obtain ⟨S5, eS5, h⟩ := lt_e h
    refine v_ast C aX_13 hi4 dX0_numberPlaces_141 (n := 142) rfl eS5 ?_
    obtain ⟨y6, ey6, h⟩ := lt_e h
    refine v_iinc (L' := [(1, .int y6), (0, .ref (xq x 6))]) C 1 dX0_numberPlaces_142 rfl (by rw [ey6]; rfl) (by decide) rfl (n := 145) rfl ?_
    refine v_goto C dX0_numberPlaces_145 (n := 115) (by decide) ?_
    refine v_sub [1, 0] rfl ?_
    exact hk115 y6 S5 h
theorem tg_X0_numberPlaces_115 {x : Ctx} (C : Cx x WX cX0_numberPlaces RX0 4 rm_X0_numberPlaces none) {res : St}  : ∀ (n : Nat) (x1 : Int32) (S : St), g_X0_numberPlaces_115  n x1 S = some res → V x WX 4 (QV x WX res) S 115 [(0, .ref (xq x 6)), (1, .int x1)] [] := by
  intro n
  induction n with
  | zero => intro x1 S h; cases h
  | succ n ih => intro x1 S h; exact t_X0_numberPlaces_115 C (fun x1 S h => ih x1 S h) x1 S h
set_option maxRecDepth 20000 in
set_option maxHeartbeats 2000000 in
theorem t_X0_numberPlaces_7 {x : Ctx} (C : Cx x WX cX0_numberPlaces RX0 4 rm_X0_numberPlaces none) {res : St} {k7 : Int32 → St → Option (St)} (hk7 : ∀ (x1 : Int32) (S : St), k7 x1 S = some res → V x WX 4 (QV x WX res) S 7 [(0, .ref (xq x 6)), (1, .int x1)] []) (x1 : Int32) (S : St) (h : f_X0_numberPlaces_7 k7 x1 S = some res) : V x WX 4 (QV x WX res) S 7 [(0, .ref (xq x 6)), (1, .int x1)] [] := by
  unfold f_X0_numberPlaces_7 at h
  refine v_iload_n C 1 dX0_numberPlaces_7 rfl rfl (n := 8) rfl ?_
  refine v_aload_n C 0 dX0_numberPlaces_8 rfl rfl (n := 9) rfl ?_
  refine g_X0_junctions C w_4_3 dX0_numberPlaces_9 (n := 12) rfl ?_
  refine v_icmp_ge C dX0_numberPlaces_12 (t := 113) (by decide) (n := 15) rfl (fun c1 => ?_) (fun c1 => ?_)
  · have h := ite_p c1 h
    refine v_iconst (v := 0) C dX0_numberPlaces_113 (by decide) (n := 114) rfl ?_
    refine v_istore_n (L' := [(1, .int 0), (0, .ref (xq x 6))]) C dX0_numberPlaces_114 rfl (by decide) rfl (n := 115) rfl rfl ?_
    refine v_sub [1, 0] rfl ?_
    exact tg_X0_numberPlaces_115 C  fuel 0 S h
  · have h := ite_n c1 h
    refine v_aload_n C 0 dX0_numberPlaces_15 rfl rfl (n := 16) rfl ?_
    refine g_X0_firstPlaceOf C w_4_12 dX0_numberPlaces_16 (n := 19) rfl ?_
    refine v_iload_n C 1 dX0_numberPlaces_19 rfl rfl (n := 20) rfl ?_
    refine v_aload_n C 0 dX0_numberPlaces_20 rfl rfl (n := 21) rfl ?_
    refine g_X0_places C w_4_5 dX0_numberPlaces_21 (n := 24) rfl ?_
    obtain ⟨hi2, h⟩ := ck_e h
    obtain ⟨S3, eS3, h⟩ := lt_e h
    refine v_ast C aX_9 hi2 dX0_numberPlaces_24 (n := 25) rfl eS3 ?_
    refine v_iconst (v := 0) C dX0_numberPlaces_25 (by decide) (n := 26) rfl ?_
    refine v_istore_n (L' := [(2, .int 0), (0, .ref (xq x 6)), (1, .int x1)]) C dX0_numberPlaces_26 rfl (by decide) rfl (n := 27) rfl rfl ?_
    refine v_sub [1, 2, 0] rfl ?_
    exact tg_X0_numberPlaces_27 C hk7 fuel x1 0 S3 h
theorem tg_X0_numberPlaces_7 {x : Ctx} (C : Cx x WX cX0_numberPlaces RX0 4 rm_X0_numberPlaces none) {res : St}  : ∀ (n : Nat) (x1 : Int32) (S : St), g_X0_numberPlaces_7  n x1 S = some res → V x WX 4 (QV x WX res) S 7 [(0, .ref (xq x 6)), (1, .int x1)] [] := by
  intro n
  induction n with
  | zero => intro x1 S h; cases h
  | succ n ih => intro x1 S h; exact t_X0_numberPlaces_7 C (fun x1 S h => ih x1 S h) x1 S h
set_option maxRecDepth 20000 in
set_option maxHeartbeats 2000000 in
theorem t_X0_numberPlaces_0 {x : Ctx} (C : Cx x WX cX0_numberPlaces RX0 4 rm_X0_numberPlaces none) {res : St}   (S : St) (h : f_X0_numberPlaces_0   S = some res) : V x WX 4 (QV x WX res) S 0 [(0, .ref (xq x 6))] [] := by
  unfold f_X0_numberPlaces_0 at h
  refine v_aload_n C 0 dX0_numberPlaces_0 rfl rfl (n := 1) rfl ?_
  refine v_iconst (v := 0) C dX0_numberPlaces_1 (by decide) (n := 2) rfl ?_
  obtain ⟨S1, eS1, h⟩ := lt_e h
  refine p_X0_places C w_4_5 dX0_numberPlaces_2 (n := 5) rfl eS1 ?_
  refine v_iconst (v := 0) C dX0_numberPlaces_5 (by decide) (n := 6) rfl ?_
  refine v_istore_n (L' := [(1, .int 0), (0, .ref (xq x 6))]) C dX0_numberPlaces_6 rfl (by decide) rfl (n := 7) rfl rfl ?_
  refine v_sub [1, 0] rfl ?_
  exact tg_X0_numberPlaces_7 C  fuel 0 S1 h
theorem c_X0_numberPlaces {l : Launch} {D : va_G} {q : Nat → Nat} {ar : Ar}  (S : St) {res : St} (h : m_X0_numberPlaces  S = some res) : MetV l D q ar WX yX0_numberPlaces cX0_numberPlaces 4 none rm_X0_numberPlaces [.ref (q 6)] S res := by
  refine metV_of adrX (by decide +kernel) (Nat.le_of_ble_eq_true rfl) (fun x e1 e2 e3 e4 C => ?_)
  subst e1; subst e2; subst e3; subst e4
  exact v_sub [0] rfl (t_X0_numberPlaces_0 C  S h)
theorem mf_X0_numberPlaces : CalV yX0_numberPlaces cX0_numberPlaces 4 none RX0 0 := ⟨w_17_0, w_16_22, w_16_23, w_1_23, rfl, by decide +kernel, by decide +kernel, by decide +kernel⟩
/-! LabyrinthGarden$Garden.addPath -/
def f_X0_addPath_37  (x1 : Int32) (x2 : Int32) (s0 : Int32) (S : St) : Option (Int32 × St) :=
  ck x1 8 <|
  if 6 < ((rd S 8 x1.toNatClampNeg) + s0) then (
    some ((-1), S))
  else (
    ck x2 8 <|
    if ((rd S 8 x2.toNatClampNeg) + s0) ≤ 6 then (
      lt ((rd S 6 1) : Int32) fun y5 =>
      lt (up S 6 1 ((rd S 6 1) + 1)) fun S6 =>
      ck y5 12 <|
      lt (up S6 7 y5.toNatClampNeg 255) fun S8 =>
      bV (m_X0_addEnd x1 (2 * y5) S8) fun S9 =>
      bV (m_X0_addEnd x2 ((2 * y5) + 1) S9) fun S10 =>
      bV (m_X0_numberPlaces  S10) fun S11 =>
      some (y5, S11))
    else (
      some ((-1), S)))
def f_X0_addPath_0  (x1 : Int32) (x2 : Int32) (S : St) : Option (Int32 × St) :=
  bI (m_X0_hasJunction x1 S) fun r2 S1 =>
  if r2 = 0 then (
    some ((-1), S1))
  else (
    bI (m_X0_hasJunction x2 S1) fun r5 S4 =>
    if r5 = 0 then (
      some ((-1), S4))
    else (
      if (rd S4 6 1) < 12 then (
        if x1 = x2 then (
          f_X0_addPath_37  x1 x2 2 S4)
        else (
          f_X0_addPath_37  x1 x2 1 S4))
      else (
        some ((-1), S4))))
def m_X0_addPath (a1 : Int32) (a2 : Int32) (S : St) : Option (Int32 × St) := f_X0_addPath_0 a1 a2 S
def rm_X0_addPath : Room := { frames := 1, cells := 0, slots := 0, locals := 23 }
set_option maxRecDepth 20000 in
set_option maxHeartbeats 2000000 in
theorem t_X0_addPath_37 {x : Ctx} (C : Cx x WX cX0_addPath RX0 5 rm_X0_addPath (some .int)) {res : Int32 × St}  (x1 : Int32) (x2 : Int32) (s0 : Int32) (S : St) (h : f_X0_addPath_37  x1 x2 s0 S = some res) : V x WX 5 (QI x WX res) S 37 [(0, .ref (xq x 6)), (1, .int x1), (2, .int x2)] [.int s0] := by
  unfold f_X0_addPath_37 at h
  refine v_istore_n (L' := [(3, .int s0), (0, .ref (xq x 6)), (1, .int x1), (2, .int x2)]) C dX0_addPath_37 rfl (by decide) rfl (n := 38) rfl rfl ?_
  refine v_aload_n C 1 dX0_addPath_38 rfl rfl (n := 39) rfl ?_
  refine g_X0_endsOf C w_4_11 dX0_addPath_39 (n := 42) rfl ?_
  refine v_iload_n C 2 dX0_addPath_42 rfl rfl (n := 43) rfl ?_
  obtain ⟨hi1, h⟩ := ck_e h
  refine v_ald C aX_8 hi1 dX0_addPath_43 (n := 44) rfl ?_
  refine v_iload_n C 0 dX0_addPath_44 rfl rfl (n := 45) rfl ?_
  refine v_iadd C dX0_addPath_45 (n := 46) rfl ?_
  refine v_bipush (v := 6) C dX0_addPath_46 (by decide) (n := 48) rfl ?_
  refine v_icmp_gt C dX0_addPath_48 (t := 64) (by decide) (n := 51) rfl (fun c2 => ?_) (fun c2 => ?_)
  · have h := ite_p c2 h
    refine v_iconst (v := (-1)) C dX0_addPath_64 (by decide) (n := 65) rfl ?_
    obtain rfl := Option.some.inj h
    exact v_iret C dX0_addPath_65
  · have h := ite_n c2 h
    refine v_aload_n C 1 dX0_addPath_51 rfl rfl (n := 52) rfl ?_
    refine g_X0_endsOf C w_4_11 dX0_addPath_52 (n := 55) rfl ?_
    refine v_iload_n C 3 dX0_addPath_55 rfl rfl (n := 56) rfl ?_
    obtain ⟨hi3, h⟩ := ck_e h
    refine v_ald C aX_8 hi3 dX0_addPath_56 (n := 57) rfl ?_
    refine v_iload_n C 0 dX0_addPath_57 rfl rfl (n := 58) rfl ?_
    refine v_iadd C dX0_addPath_58 (n := 59) rfl ?_
    refine v_bipush (v := 6) C dX0_addPath_59 (by decide) (n := 61) rfl ?_
    refine v_icmp_le C dX0_addPath_61 (t := 66) (by decide) (n := 64) rfl (fun c4 => ?_) (fun c4 => ?_)
    · have h := ite_p c4 h
      refine v_aload_n C 1 dX0_addPath_66 rfl rfl (n := 67) rfl ?_
      refine g_X0_paths C w_4_4 dX0_addPath_67 (n := 70) rfl ?_
      obtain ⟨y5, ey5, h⟩ := lt_e h
      refine v_istore (L' := [(4, .int y5), (3, .int s0), (0, .ref (xq x 6)), (1, .int x1), (2, .int x2)]) C dX0_addPath_70 (by decide) rfl (n := 72) rfl ey5 ?_
      refine v_aload_n C 2 dX0_addPath_72 rfl rfl (n := 73) rfl ?_
      refine v_dup C dX0_addPath_73 rfl (n := 74) rfl ?_
      refine g_X0_paths C w_4_4 dX0_addPath_74 (n := 77) rfl ?_
      refine v_iconst (v := 1) C dX0_addPath_77 (by decide) (n := 78) rfl ?_
      refine v_iadd C dX0_addPath_78 (n := 79) rfl ?_
      obtain ⟨S6, eS6, h⟩ := lt_e h
      refine p_X0_paths C w_4_4 dX0_addPath_79 (n := 82) rfl eS6 ?_
      refine v_aload_n C 2 dX0_addPath_82 rfl rfl (n := 83) rfl ?_
      refine g_X0_gates C w_4_10 dX0_addPath_83 (n := 86) rfl ?_
      refine v_iload C 0 dX0_addPath_86 rfl (n := 88) rfl ?_
      refine v_sipush (v := 255) C dX0_addPath_88 (by decide) (n := 91) rfl ?_
      obtain ⟨hi7, h⟩ := ck_e h
      obtain ⟨S8, eS8, h⟩ := lt_e h
      refine v_ast C aX_7 hi7 dX0_addPath_91 (n := 92) rfl eS8 ?_
      refine v_aload_n C 2 dX0_addPath_92 rfl rfl (n := 93) rfl ?_
      refine v_iload_n C 3 dX0_addPath_93 rfl rfl (n := 94) rfl ?_
      refine v_iconst (v := 2) C dX0_addPath_94 (by decide) (n := 95) rfl ?_
      refine v_iload C 0 dX0_addPath_95 rfl (n := 97) rfl ?_
      refine v_imul C dX0_addPath_97 (n := 98) rfl ?_
      obtain ⟨S9, eS9, h⟩ := bV_e h
      refine v_callVV (As := [.int x1, .int (2 * y5)]) C (c_X0_addEnd x1 (2 * y5) S8 eS9) mf_X0_addEnd w_16_17 (oX0 _ _ _) rfl ⟨rfl, rfl, by decide, by decide⟩ rfl rfl (Nat.le_of_ble_eq_true rfl) dX0_addPath_98 (n := 101) rfl ?_
      refine v_aload_n C 2 dX0_addPath_101 rfl rfl (n := 102) rfl ?_
      refine v_iload_n C 4 dX0_addPath_102 rfl rfl (n := 103) rfl ?_
      refine v_iconst (v := 2) C dX0_addPath_103 (by decide) (n := 104) rfl ?_
      refine v_iload C 0 dX0_addPath_104 rfl (n := 106) rfl ?_
      refine v_imul C dX0_addPath_106 (n := 107) rfl ?_
      refine v_iconst (v := 1) C dX0_addPath_107 (by decide) (n := 108) rfl ?_
      refine v_iadd C dX0_addPath_108 (n := 109) rfl ?_
      obtain ⟨S10, eS10, h⟩ := bV_e h
      refine v_callVV (As := [.int x2, .int ((2 * y5) + 1)]) C (c_X0_addEnd x2 ((2 * y5) + 1) S9 eS10) mf_X0_addEnd w_16_17 (oX0 _ _ _) rfl ⟨rfl, rfl, by decide, by decide⟩ rfl rfl (Nat.le_of_ble_eq_true rfl) dX0_addPath_109 (n := 112) rfl ?_
      refine v_aload_n C 2 dX0_addPath_112 rfl rfl (n := 113) rfl ?_
      obtain ⟨S11, eS11, h⟩ := bV_e h
      refine v_callVV (As := []) C (c_X0_numberPlaces  S10 eS11) mf_X0_numberPlaces w_16_21 (oX0 _ _ _) rfl ⟨rfl, rfl, by decide, by decide⟩ rfl rfl (Nat.le_of_ble_eq_true rfl) dX0_addPath_113 (n := 116) rfl ?_
      refine v_iload C 0 dX0_addPath_116 rfl (n := 118) rfl ?_
      obtain rfl := Option.some.inj h
      exact v_iret C dX0_addPath_118
    · have h := ite_n c4 h
      refine v_iconst (v := (-1)) C dX0_addPath_64 (by decide) (n := 65) rfl ?_
      obtain rfl := Option.some.inj h
      exact v_iret C dX0_addPath_65
set_option maxRecDepth 20000 in
set_option maxHeartbeats 2000000 in
theorem t_X0_addPath_0 {x : Ctx} (C : Cx x WX cX0_addPath RX0 5 rm_X0_addPath (some .int)) {res : Int32 × St}  (x1 : Int32) (x2 : Int32) (S : St) (h : f_X0_addPath_0  x1 x2 S = some res) : V x WX 5 (QI x WX res) S 0 [(0, .ref (xq x 6)), (1, .int x1), (2, .int x2)] [] := by
  unfold f_X0_addPath_0 at h
  refine v_aload_n C 0 dX0_addPath_0 rfl rfl (n := 1) rfl ?_
  refine v_iload_n C 1 dX0_addPath_1 rfl rfl (n := 2) rfl ?_
  obtain ⟨r2, S1, eS1, h⟩ := bI_e h
  refine v_callVI (As := [.int x1]) C (c_X0_hasJunction x1 S eS1) mf_X0_hasJunction w_16_13 (oX0 _ _ _) rfl ⟨rfl, rfl, by decide, by decide⟩ rfl rfl (Nat.le_of_ble_eq_true rfl) dX0_addPath_2 (n := 5) rfl ?_
  refine v_if_eq C dX0_addPath_5 (t := 25) (by decide) (n := 8) rfl (fun c3 => ?_) (fun c3 => ?_)
  · have h := ite_p c3 h
    refine v_iconst (v := (-1)) C dX0_addPath_25 (by decide) (n := 26) rfl ?_
    obtain rfl := Option.some.inj h
    exact v_iret C dX0_addPath_26
  · have h := ite_n c3 h
    refine v_aload_n C 0 dX0_addPath_8 rfl rfl (n := 9) rfl ?_
    refine v_iload_n C 2 dX0_addPath_9 rfl rfl (n := 10) rfl ?_
    obtain ⟨r5, S4, eS4, h⟩ := bI_e h
    refine v_callVI (As := [.int x2]) C (c_X0_hasJunction x2 S1 eS4) mf_X0_hasJunction w_16_13 (oX0 _ _ _) rfl ⟨rfl, rfl, by decide, by decide⟩ rfl rfl (Nat.le_of_ble_eq_true rfl) dX0_addPath_10 (n := 13) rfl ?_
    refine v_if_eq C dX0_addPath_13 (t := 25) (by decide) (n := 16) rfl (fun c6 => ?_) (fun c6 => ?_)
    · have h := ite_p c6 h
      refine v_iconst (v := (-1)) C dX0_addPath_25 (by decide) (n := 26) rfl ?_
      obtain rfl := Option.some.inj h
      exact v_iret C dX0_addPath_26
    · have h := ite_n c6 h
      refine v_aload_n C 0 dX0_addPath_16 rfl rfl (n := 17) rfl ?_
      refine g_X0_paths C w_4_4 dX0_addPath_17 (n := 20) rfl ?_
      refine v_bipush (v := 12) C dX0_addPath_20 (by decide) (n := 22) rfl ?_
      refine v_icmp_lt C dX0_addPath_22 (t := 27) (by decide) (n := 25) rfl (fun c7 => ?_) (fun c7 => ?_)
      · have h := ite_p c7 h
        refine v_iload_n C 1 dX0_addPath_27 rfl rfl (n := 28) rfl ?_
        refine v_iload_n C 2 dX0_addPath_28 rfl rfl (n := 29) rfl ?_
        refine v_icmp_ne C dX0_addPath_29 (t := 36) (by decide) (n := 32) rfl (fun c8 => ?_) (fun c8 => ?_)
        · have h := ite_n c8 h
          refine v_iconst (v := 1) C dX0_addPath_36 (by decide) (n := 37) rfl ?_
          refine v_sub [0, 1, 2] rfl ?_
          exact t_X0_addPath_37 C  x1 x2 1 S4 h
        · have h := ite_p c8 h
          refine v_iconst (v := 2) C dX0_addPath_32 (by decide) (n := 33) rfl ?_
          refine v_goto C dX0_addPath_33 (n := 37) (by decide) ?_
          refine v_sub [0, 1, 2] rfl ?_
          exact t_X0_addPath_37 C  x1 x2 2 S4 h
      · have h := ite_n c7 h
        refine v_iconst (v := (-1)) C dX0_addPath_25 (by decide) (n := 26) rfl ?_
        obtain rfl := Option.some.inj h
        exact v_iret C dX0_addPath_26
theorem c_X0_addPath {l : Launch} {D : va_G} {q : Nat → Nat} {ar : Ar} (a1 : Int32) (a2 : Int32) (S : St) {res : Int32 × St} (h : m_X0_addPath a1 a2 S = some res) : MetI l D q ar WX yX0_addPath cX0_addPath 5 (some .int) rm_X0_addPath [.ref (q 6), .int a1, .int a2] S res := by
  refine metI_of adrX (by decide +kernel) (Nat.le_of_ble_eq_true rfl) (fun x e1 e2 e3 e4 C => ?_)
  subst e1; subst e2; subst e3; subst e4
  exact v_sub [0, 1, 2] rfl (t_X0_addPath_0 C a1 a2 S h)
theorem mf_X0_addPath : CalV yX0_addPath cX0_addPath 5 (some .int) RX0 2 := ⟨w_16_12, w_16_10, w_16_11, w_1_23, rfl, by decide +kernel, by decide +kernel, by decide +kernel⟩
/-! LabyrinthGarden$Garden.endsAt -/
def f_X0_endsAt_0  (x1 : Int32) (S : St) : Option (Int32 × St) :=
  ck x1 24 <|
  ck (rd S 10 x1.toNatClampNeg) 8 <|
  some ((rd S 8 (rd S 10 x1.toNatClampNeg).toNatClampNeg), S)
def m_X0_endsAt (a1 : Int32) (S : St) : Option (Int32 × St) := f_X0_endsAt_0 a1 S
def rm_X0_endsAt : Room := { frames := 0, cells := 0, slots := 0, locals := 0 }
set_option maxRecDepth 20000 in
set_option maxHeartbeats 2000000 in
theorem t_X0_endsAt_0 {x : Ctx} (C : Cx x WX cX0_endsAt RX0 2 rm_X0_endsAt (some .int)) {res : Int32 × St}  (x1 : Int32) (S : St) (h : f_X0_endsAt_0  x1 S = some res) : V x WX 2 (QI x WX res) S 0 [(0, .ref (xq x 6)), (1, .int x1)] [] := by
  unfold f_X0_endsAt_0 at h
  refine v_aload_n C 0 dX0_endsAt_0 rfl rfl (n := 1) rfl ?_
  refine g_X0_endsOf C w_4_11 dX0_endsAt_1 (n := 4) rfl ?_
  refine v_aload_n C 0 dX0_endsAt_4 rfl rfl (n := 5) rfl ?_
  refine g_X0_junctionAt C w_4_13 dX0_endsAt_5 (n := 8) rfl ?_
  refine v_iload_n C 1 dX0_endsAt_8 rfl rfl (n := 9) rfl ?_
  obtain ⟨hi1, h⟩ := ck_e h
  refine v_ald C aX_10 hi1 dX0_endsAt_9 (n := 10) rfl ?_
  obtain ⟨hi2, h⟩ := ck_e h
  refine v_ald C aX_8 hi2 dX0_endsAt_10 (n := 11) rfl ?_
  obtain rfl := Option.some.inj h
  exact v_iret C dX0_endsAt_11
theorem c_X0_endsAt {l : Launch} {D : va_G} {q : Nat → Nat} {ar : Ar} (a1 : Int32) (S : St) {res : Int32 × St} (h : m_X0_endsAt a1 S = some res) : MetI l D q ar WX yX0_endsAt cX0_endsAt 2 (some .int) rm_X0_endsAt [.ref (q 6), .int a1] S res := by
  refine metI_of adrX (by decide +kernel) (Nat.le_of_ble_eq_true rfl) (fun x e1 e2 e3 e4 C => ?_)
  subst e1; subst e2; subst e3; subst e4
  exact v_sub [0, 1] rfl (t_X0_endsAt_0 C a1 S h)
theorem mf_X0_endsAt : CalV yX0_endsAt cX0_endsAt 2 (some .int) RX0 1 := ⟨w_28_3, w_28_1, w_28_2, w_1_23, rfl, by decide +kernel, by decide +kernel, by decide +kernel⟩
/-! LabyrinthGarden$Garden.beyond -/
def f_X0_beyond_0  (x1 : Int32) (x2 : Int32) (S : St) : Option (Int32 × St) :=
  bI (m_X0_endsAt x1 S) fun r2 S1 =>
  if 1 ≤ r2 then (
    ck x1 24 <|
    ck (rd S1 10 x1.toNatClampNeg) 8 <|
    ckn r2 <|
    ck ((rd S1 9 (rd S1 10 x1.toNatClampNeg).toNatClampNeg) + (irem ((rd S1 11 x1.toNatClampNeg) + x2) r2)) 24 <|
    some ((rd S1 13 ((rd S1 9 (rd S1 10 x1.toNatClampNeg).toNatClampNeg) + (irem ((rd S1 11 x1.toNatClampNeg) + x2) r2)).toNatClampNeg), S1))
  else (
    some (x1, S1))
def m_X0_beyond (a1 : Int32) (a2 : Int32) (S : St) : Option (Int32 × St) := f_X0_beyond_0 a1 a2 S
def rm_X0_beyond : Room := { frames := 1, cells := 0, slots := 0, locals := 21 }
set_option maxRecDepth 20000 in
set_option maxHeartbeats 2000000 in
theorem t_X0_beyond_0 {x : Ctx} (C : Cx x WX cX0_beyond RX0 4 rm_X0_beyond (some .int)) {res : Int32 × St}  (x1 : Int32) (x2 : Int32) (S : St) (h : f_X0_beyond_0  x1 x2 S = some res) : V x WX 4 (QI x WX res) S 0 [(0, .ref (xq x 6)), (1, .int x1), (2, .int x2)] [] := by
  unfold f_X0_beyond_0 at h
  refine v_aload_n C 0 dX0_beyond_0 rfl rfl (n := 1) rfl ?_
  refine v_iload_n C 1 dX0_beyond_1 rfl rfl (n := 2) rfl ?_
  obtain ⟨r2, S1, eS1, h⟩ := bI_e h
  refine v_callVI (As := [.int x1]) C (c_X0_endsAt x1 S eS1) mf_X0_endsAt w_28_0 (oX0 _ _ _) rfl ⟨rfl, rfl, by decide, by decide⟩ rfl rfl (Nat.le_of_ble_eq_true rfl) dX0_beyond_2 (n := 5) rfl ?_
  refine v_istore_n (L' := [(3, .int r2), (0, .ref (xq x 6)), (1, .int x1), (2, .int x2)]) C dX0_beyond_5 rfl (by decide) rfl (n := 6) rfl rfl ?_
  refine v_iload_n C 0 dX0_beyond_6 rfl rfl (n := 7) rfl ?_
  refine v_iconst (v := 1) C dX0_beyond_7 (by decide) (n := 8) rfl ?_
  refine v_icmp_ge C dX0_beyond_8 (t := 13) (by decide) (n := 11) rfl (fun c3 => ?_) (fun c3 => ?_)
  · have h := ite_p c3 h
    refine v_aload_n C 1 dX0_beyond_13 rfl rfl (n := 14) rfl ?_
    refine g_X0_otherOf C w_4_16 dX0_beyond_14 (n := 17) rfl ?_
    refine v_aload_n C 1 dX0_beyond_17 rfl rfl (n := 18) rfl ?_
    refine g_X0_firstPlaceOf C w_4_12 dX0_beyond_18 (n := 21) rfl ?_
    refine v_aload_n C 1 dX0_beyond_21 rfl rfl (n := 22) rfl ?_
    refine g_X0_junctionAt C w_4_13 dX0_beyond_22 (n := 25) rfl ?_
    refine v_iload_n C 2 dX0_beyond_25 rfl rfl (n := 26) rfl ?_
    obtain ⟨hi4, h⟩ := ck_e h
    refine v_ald C aX_10 hi4 dX0_beyond_26 (n := 27) rfl ?_
    obtain ⟨hi5, h⟩ := ck_e h
    refine v_ald C aX_9 hi5 dX0_beyond_27 (n := 28) rfl ?_
    refine v_aload_n C 1 dX0_beyond_28 rfl rfl (n := 29) rfl ?_
    refine g_X0_endAt C w_4_14 dX0_beyond_29 (n := 32) rfl ?_
    refine v_iload_n C 2 dX0_beyond_32 rfl rfl (n := 33) rfl ?_
    refine v_ald C aX_11 hi4 dX0_beyond_33 (n := 34) rfl ?_
    refine v_iload_n C 3 dX0_beyond_34 rfl rfl (n := 35) rfl ?_
    refine v_iadd C dX0_beyond_35 (n := 36) rfl ?_
    refine v_iload_n C 0 dX0_beyond_36 rfl rfl (n := 37) rfl ?_
    obtain ⟨hz6, h⟩ := ckn_e h
    refine v_irem C dX0_beyond_37 hz6 (n := 38) rfl ?_
    refine v_iadd C dX0_beyond_38 (n := 39) rfl ?_
    obtain ⟨hi7, h⟩ := ck_e h
    refine v_ald C aX_13 hi7 dX0_beyond_39 (n := 40) rfl ?_
    obtain rfl := Option.some.inj h
    exact v_iret C dX0_beyond_40
  · have h := ite_n c3 h
    refine v_iload_n C 2 dX0_beyond_11 rfl rfl (n := 12) rfl ?_
    obtain rfl := Option.some.inj h
    exact v_iret C dX0_beyond_12
theorem c_X0_beyond {l : Launch} {D : va_G} {q : Nat → Nat} {ar : Ar} (a1 : Int32) (a2 : Int32) (S : St) {res : Int32 × St} (h : m_X0_beyond a1 a2 S = some res) : MetI l D q ar WX yX0_beyond cX0_beyond 4 (some .int) rm_X0_beyond [.ref (q 6), .int a1, .int a2] S res := by
  refine metI_of adrX (by decide +kernel) (Nat.le_of_ble_eq_true rfl) (fun x e1 e2 e3 e4 C => ?_)
  subst e1; subst e2; subst e3; subst e4
  exact v_sub [0, 1, 2] rfl (t_X0_beyond_0 C a1 a2 S h)
theorem mf_X0_beyond : CalV yX0_beyond cX0_beyond 4 (some .int) RX0 2 := ⟨w_29_5, w_29_3, w_29_4, w_1_23, rfl, by decide +kernel, by decide +kernel, by decide +kernel⟩
/-! LabyrinthGarden$Garden.placesWithEnds -/
def f_X0_placesWithEnds_4 (k4 : Int32 → Int32 → Int32 → St → Option (Int32 × St)) (x1 : Int32) (x2 : Int32) (x3 : Int32) (S : St) : Option (Int32 × St) :=
  if (rd S 6 2) ≤ x3 then (
    some (x2, S))
  else (
    bI (m_X0_endsAt x3 S) fun r3 S2 =>
    if r3 = x1 then (
      bI (m_X9_withBit x2 x3 1 S2) fun r7 S6 =>
      lt (x3 + 1 : Int32) fun y8 =>
      k4 x1 r7 y8 S6)
    else (
      lt (x3 + 1 : Int32) fun y5 =>
      k4 x1 x2 y5 S2))
def g_X0_placesWithEnds_4  : Nat → Int32 → Int32 → Int32 → St → Option (Int32 × St)
  | 0 => fun _ _ _ _ => none
  | n + 1 => f_X0_placesWithEnds_4 (g_X0_placesWithEnds_4  n)
def f_X0_placesWithEnds_0  (x1 : Int32) (S : St) : Option (Int32 × St) :=
  g_X0_placesWithEnds_4  fuel x1 0 0 S
def m_X0_placesWithEnds (a1 : Int32) (S : St) : Option (Int32 × St) := f_X0_placesWithEnds_0 a1 S
def rm_X0_placesWithEnds : Room := { frames := 1, cells := 0, slots := 0, locals := 22 }
set_option maxRecDepth 20000 in
set_option maxHeartbeats 2000000 in
theorem t_X0_placesWithEnds_4 {x : Ctx} (C : Cx x WX cX0_placesWithEnds RX0 4 rm_X0_placesWithEnds (some .int)) {res : Int32 × St} {k4 : Int32 → Int32 → Int32 → St → Option (Int32 × St)} (hk4 : ∀ (x1 : Int32) (x2 : Int32) (x3 : Int32) (S : St), k4 x1 x2 x3 S = some res → V x WX 4 (QI x WX res) S 4 [(0, .ref (xq x 6)), (1, .int x1), (2, .int x2), (3, .int x3)] []) (x1 : Int32) (x2 : Int32) (x3 : Int32) (S : St) (h : f_X0_placesWithEnds_4 k4 x1 x2 x3 S = some res) : V x WX 4 (QI x WX res) S 4 [(0, .ref (xq x 6)), (1, .int x1), (2, .int x2), (3, .int x3)] [] := by
  unfold f_X0_placesWithEnds_4 at h
  refine v_iload_n C 3 dX0_placesWithEnds_4 rfl rfl (n := 5) rfl ?_
  refine v_aload_n C 0 dX0_placesWithEnds_5 rfl rfl (n := 6) rfl ?_
  refine g_X0_places C w_4_5 dX0_placesWithEnds_6 (n := 9) rfl ?_
  refine v_icmp_ge C dX0_placesWithEnds_9 (t := 34) (by decide) (n := 12) rfl (fun c1 => ?_) (fun c1 => ?_)
  · have h := ite_p c1 h
    refine v_iload_n C 2 dX0_placesWithEnds_34 rfl rfl (n := 35) rfl ?_
    obtain rfl := Option.some.inj h
    exact v_iret C dX0_placesWithEnds_35
  · have h := ite_n c1 h
    refine v_aload_n C 0 dX0_placesWithEnds_12 rfl rfl (n := 13) rfl ?_
    refine v_iload_n C 3 dX0_placesWithEnds_13 rfl rfl (n := 14) rfl ?_
    obtain ⟨r3, S2, eS2, h⟩ := bI_e h
    refine v_callVI (As := [.int x3]) C (c_X0_endsAt x3 S eS2) mf_X0_endsAt w_28_0 (oX0 _ _ _) rfl ⟨rfl, rfl, by decide, by decide⟩ rfl rfl (Nat.le_of_ble_eq_true rfl) dX0_placesWithEnds_14 (n := 17) rfl ?_
    refine v_iload_n C 1 dX0_placesWithEnds_17 rfl rfl (n := 18) rfl ?_
    refine v_icmp_ne C dX0_placesWithEnds_18 (t := 28) (by decide) (n := 21) rfl (fun c4 => ?_) (fun c4 => ?_)
    · have h := ite_n c4 h
      obtain ⟨y5, ey5, h⟩ := lt_e h
      refine v_iinc (L' := [(3, .int y5), (0, .ref (xq x 6)), (1, .int x1), (2, .int x2)]) C 3 dX0_placesWithEnds_28 rfl (by rw [ey5]; rfl) (by decide) rfl (n := 31) rfl ?_
      refine v_goto C dX0_placesWithEnds_31 (n := 4) (by decide) ?_
      refine v_sub [1, 2, 3, 0] rfl ?_
      exact hk4 x1 x2 y5 S2 h
    · have h := ite_p c4 h
      refine v_iload_n C 2 dX0_placesWithEnds_21 rfl rfl (n := 22) rfl ?_
      refine v_iload_n C 3 dX0_placesWithEnds_22 rfl rfl (n := 23) rfl ?_
      refine v_iconst (v := 1) C dX0_placesWithEnds_23 (by decide) (n := 24) rfl ?_
      obtain ⟨r7, S6, eS6, h⟩ := bI_e h
      refine v_callNI (As := [.int x2, .int x3, .int 1]) C (c_X9_withBit x2 x3 1 S2 eS6) mf_X9_withBit (List.mem_of_getElem? (i := 7) rfl : (RX0, 65, yX9_withBit, RX9) ∈ nestW) ⟨rfl, rfl, by decide, by decide⟩ rfl rfl (Nat.le_of_ble_eq_true rfl) dX0_placesWithEnds_24 (n := 27) rfl ?_
      refine v_istore_n (L' := [(2, .int r7), (0, .ref (xq x 6)), (1, .int x1), (3, .int x3)]) C dX0_placesWithEnds_27 rfl (by decide) rfl (n := 28) rfl rfl ?_
      obtain ⟨y8, ey8, h⟩ := lt_e h
      refine v_iinc (L' := [(3, .int y8), (2, .int r7), (0, .ref (xq x 6)), (1, .int x1)]) C 3 dX0_placesWithEnds_28 rfl (by rw [ey8]; rfl) (by decide) rfl (n := 31) rfl ?_
      refine v_goto C dX0_placesWithEnds_31 (n := 4) (by decide) ?_
      refine v_sub [2, 3, 1, 0] rfl ?_
      exact hk4 x1 r7 y8 S6 h
theorem tg_X0_placesWithEnds_4 {x : Ctx} (C : Cx x WX cX0_placesWithEnds RX0 4 rm_X0_placesWithEnds (some .int)) {res : Int32 × St}  : ∀ (n : Nat) (x1 : Int32) (x2 : Int32) (x3 : Int32) (S : St), g_X0_placesWithEnds_4  n x1 x2 x3 S = some res → V x WX 4 (QI x WX res) S 4 [(0, .ref (xq x 6)), (1, .int x1), (2, .int x2), (3, .int x3)] [] := by
  intro n
  induction n with
  | zero => intro x1 x2 x3 S h; cases h
  | succ n ih => intro x1 x2 x3 S h; exact t_X0_placesWithEnds_4 C (fun x1 x2 x3 S h => ih x1 x2 x3 S h) x1 x2 x3 S h
set_option maxRecDepth 20000 in
set_option maxHeartbeats 2000000 in
theorem t_X0_placesWithEnds_0 {x : Ctx} (C : Cx x WX cX0_placesWithEnds RX0 4 rm_X0_placesWithEnds (some .int)) {res : Int32 × St}  (x1 : Int32) (S : St) (h : f_X0_placesWithEnds_0  x1 S = some res) : V x WX 4 (QI x WX res) S 0 [(0, .ref (xq x 6)), (1, .int x1)] [] := by
  unfold f_X0_placesWithEnds_0 at h
  refine v_iconst (v := 0) C dX0_placesWithEnds_0 (by decide) (n := 1) rfl ?_
  refine v_istore_n (L' := [(2, .int 0), (0, .ref (xq x 6)), (1, .int x1)]) C dX0_placesWithEnds_1 rfl (by decide) rfl (n := 2) rfl rfl ?_
  refine v_iconst (v := 0) C dX0_placesWithEnds_2 (by decide) (n := 3) rfl ?_
  refine v_istore_n (L' := [(3, .int 0), (2, .int 0), (0, .ref (xq x 6)), (1, .int x1)]) C dX0_placesWithEnds_3 rfl (by decide) rfl (n := 4) rfl rfl ?_
  refine v_sub [2, 3, 1, 0] rfl ?_
  exact tg_X0_placesWithEnds_4 C  fuel x1 0 0 S h
theorem c_X0_placesWithEnds {l : Launch} {D : va_G} {q : Nat → Nat} {ar : Ar} (a1 : Int32) (S : St) {res : Int32 × St} (h : m_X0_placesWithEnds a1 S = some res) : MetI l D q ar WX yX0_placesWithEnds cX0_placesWithEnds 4 (some .int) rm_X0_placesWithEnds [.ref (q 6), .int a1] S res := by
  refine metI_of adrX (by decide +kernel) (Nat.le_of_ble_eq_true rfl) (fun x e1 e2 e3 e4 C => ?_)
  subst e1; subst e2; subst e3; subst e4
  exact v_sub [0, 1] rfl (t_X0_placesWithEnds_0 C a1 S h)
theorem mf_X0_placesWithEnds : CalV yX0_placesWithEnds cX0_placesWithEnds 4 (some .int) RX0 1 := ⟨w_27_23, w_27_21, w_27_22, w_1_23, rfl, by decide +kernel, by decide +kernel, by decide +kernel⟩
/-! LabyrinthGarden.hasBit -/
def f_X9_hasBit_0  (x0 : Int32) (x1 : Int32) (S : St) : Option (Int32 × St) :=
  if ((ush x0 x1) &&& 1) = 0 then (
    some (0, S))
  else (
    some (1, S))
def m_X9_hasBit (a0 : Int32) (a1 : Int32) (S : St) : Option (Int32 × St) := f_X9_hasBit_0 a0 a1 S
def rm_X9_hasBit : Room := { frames := 0, cells := 0, slots := 0, locals := 0 }
set_option maxRecDepth 20000 in
set_option maxHeartbeats 2000000 in
theorem t_X9_hasBit_0 {x : Ctx} (C : Cx x WX cX9_hasBit RX9 2 rm_X9_hasBit (some .boolean)) {res : Int32 × St}  (x0 : Int32) (x1 : Int32) (S : St) (h : f_X9_hasBit_0  x0 x1 S = some res) : V x WX 2 (QI x WX res) S 0 [(0, .int x0), (1, .int x1)] [] := by
  unfold f_X9_hasBit_0 at h
  refine v_iload_n C 0 dX9_hasBit_0 rfl rfl (n := 1) rfl ?_
  refine v_iload_n C 1 dX9_hasBit_1 rfl rfl (n := 2) rfl ?_
  refine v_iushr C dX9_hasBit_2 (n := 3) rfl ?_
  refine v_iconst (v := 1) C dX9_hasBit_3 (by decide) (n := 4) rfl ?_
  refine v_iand C dX9_hasBit_4 (n := 5) rfl ?_
  refine v_if_eq C dX9_hasBit_5 (t := 12) (by decide) (n := 8) rfl (fun c1 => ?_) (fun c1 => ?_)
  · have h := ite_p c1 h
    refine v_iconst (v := 0) C dX9_hasBit_12 (by decide) (n := 13) rfl ?_
    obtain rfl := Option.some.inj h
    exact v_zret C (Or.inl rfl) dX9_hasBit_13
  · have h := ite_n c1 h
    refine v_iconst (v := 1) C dX9_hasBit_8 (by decide) (n := 9) rfl ?_
    refine v_goto C dX9_hasBit_9 (n := 13) (by decide) ?_
    obtain rfl := Option.some.inj h
    exact v_zret C (Or.inr rfl) dX9_hasBit_13
theorem c_X9_hasBit {l : Launch} {D : va_G} {q : Nat → Nat} {ar : Ar} (a0 : Int32) (a1 : Int32) (S : St) {res : Int32 × St} (h : m_X9_hasBit a0 a1 S = some res) : MetI l D q ar WX yX9_hasBit cX9_hasBit 2 (some .boolean) rm_X9_hasBit [.int a0, .int a1] S res := by
  refine metI_of adrX (by decide +kernel) (Nat.le_of_ble_eq_true rfl) (fun x e1 e2 e3 e4 C => ?_)
  subst e1; subst e2; subst e3; subst e4
  exact v_sub [0, 1] rfl (t_X9_hasBit_0 C a0 a1 S h)
theorem mf_X9_hasBit : CalS yX9_hasBit cX9_hasBit 2 (some .boolean) 2 := ⟨w_11_16, w_11_15, w_1_2, by decide +kernel, by decide +kernel, by decide +kernel⟩
/-! LabyrinthGarden$Garden.placesOfPaths -/
def f_X0_placesOfPaths_4 (k4 : Int32 → Int32 → Int32 → St → Option (Int32 × St)) (x1 : Int32) (x2 : Int32) (x3 : Int32) (S : St) : Option (Int32 × St) :=
  if (rd S 6 2) ≤ x3 then (
    some (x2, S))
  else (
    ck x3 24 <|
    bI (m_X9_hasBit x1 (rd S 12 x3.toNatClampNeg) S) fun r4 S3 =>
    if r4 = 0 then (
      lt (x3 + 1 : Int32) fun y6 =>
      k4 x1 x2 y6 S3)
    else (
      bI (m_X9_withBit x2 x3 1 S3) fun r8 S7 =>
      lt (x3 + 1 : Int32) fun y9 =>
      k4 x1 r8 y9 S7))
def g_X0_placesOfPaths_4  : Nat → Int32 → Int32 → Int32 → St → Option (Int32 × St)
  | 0 => fun _ _ _ _ => none
  | n + 1 => f_X0_placesOfPaths_4 (g_X0_placesOfPaths_4  n)
def f_X0_placesOfPaths_0  (x1 : Int32) (S : St) : Option (Int32 × St) :=
  g_X0_placesOfPaths_4  fuel x1 0 0 S
def m_X0_placesOfPaths (a1 : Int32) (S : St) : Option (Int32 × St) := f_X0_placesOfPaths_0 a1 S
def rm_X0_placesOfPaths : Room := { frames := 1, cells := 0, slots := 0, locals := 22 }
set_option maxRecDepth 20000 in
set_option maxHeartbeats 2000000 in
theorem t_X0_placesOfPaths_4 {x : Ctx} (C : Cx x WX cX0_placesOfPaths RX0 4 rm_X0_placesOfPaths (some .int)) {res : Int32 × St} {k4 : Int32 → Int32 → Int32 → St → Option (Int32 × St)} (hk4 : ∀ (x1 : Int32) (x2 : Int32) (x3 : Int32) (S : St), k4 x1 x2 x3 S = some res → V x WX 4 (QI x WX res) S 4 [(0, .ref (xq x 6)), (1, .int x1), (2, .int x2), (3, .int x3)] []) (x1 : Int32) (x2 : Int32) (x3 : Int32) (S : St) (h : f_X0_placesOfPaths_4 k4 x1 x2 x3 S = some res) : V x WX 4 (QI x WX res) S 4 [(0, .ref (xq x 6)), (1, .int x1), (2, .int x2), (3, .int x3)] [] := by
  unfold f_X0_placesOfPaths_4 at h
  refine v_iload_n C 3 dX0_placesOfPaths_4 rfl rfl (n := 5) rfl ?_
  refine v_aload_n C 0 dX0_placesOfPaths_5 rfl rfl (n := 6) rfl ?_
  refine g_X0_places C w_4_5 dX0_placesOfPaths_6 (n := 9) rfl ?_
  refine v_icmp_ge C dX0_placesOfPaths_9 (t := 38) (by decide) (n := 12) rfl (fun c1 => ?_) (fun c1 => ?_)
  · have h := ite_p c1 h
    refine v_iload_n C 2 dX0_placesOfPaths_38 rfl rfl (n := 39) rfl ?_
    obtain rfl := Option.some.inj h
    exact v_iret C dX0_placesOfPaths_39
  · have h := ite_n c1 h
    refine v_iload_n C 1 dX0_placesOfPaths_12 rfl rfl (n := 13) rfl ?_
    refine v_aload_n C 0 dX0_placesOfPaths_13 rfl rfl (n := 14) rfl ?_
    refine g_X0_pathAt C w_4_15 dX0_placesOfPaths_14 (n := 17) rfl ?_
    refine v_iload_n C 3 dX0_placesOfPaths_17 rfl rfl (n := 18) rfl ?_
    obtain ⟨hi2, h⟩ := ck_e h
    refine v_ald C aX_12 hi2 dX0_placesOfPaths_18 (n := 19) rfl ?_
    obtain ⟨r4, S3, eS3, h⟩ := bI_e h
    refine v_callNI (As := [.int x1, .int (rd S 12 x3.toNatClampNeg)]) C (c_X9_hasBit x1 (rd S 12 x3.toNatClampNeg) S eS3) mf_X9_hasBit (List.mem_of_getElem? (i := 8) rfl : (RX0, 80, yX9_hasBit, RX9) ∈ nestW) ⟨rfl, rfl, by decide, by decide⟩ rfl rfl (Nat.le_of_ble_eq_true rfl) dX0_placesOfPaths_19 (n := 22) rfl ?_
    refine v_if_eq C dX0_placesOfPaths_22 (t := 32) (by decide) (n := 25) rfl (fun c5 => ?_) (fun c5 => ?_)
    · have h := ite_p c5 h
      obtain ⟨y6, ey6, h⟩ := lt_e h
      refine v_iinc (L' := [(3, .int y6), (0, .ref (xq x 6)), (1, .int x1), (2, .int x2)]) C 3 dX0_placesOfPaths_32 rfl (by rw [ey6]; rfl) (by decide) rfl (n := 35) rfl ?_
      refine v_goto C dX0_placesOfPaths_35 (n := 4) (by decide) ?_
      refine v_sub [1, 2, 3, 0] rfl ?_
      exact hk4 x1 x2 y6 S3 h
    · have h := ite_n c5 h
      refine v_iload_n C 2 dX0_placesOfPaths_25 rfl rfl (n := 26) rfl ?_
      refine v_iload_n C 3 dX0_placesOfPaths_26 rfl rfl (n := 27) rfl ?_
      refine v_iconst (v := 1) C dX0_placesOfPaths_27 (by decide) (n := 28) rfl ?_
      obtain ⟨r8, S7, eS7, h⟩ := bI_e h
      refine v_callNI (As := [.int x2, .int x3, .int 1]) C (c_X9_withBit x2 x3 1 S3 eS7) mf_X9_withBit (List.mem_of_getElem? (i := 7) rfl : (RX0, 65, yX9_withBit, RX9) ∈ nestW) ⟨rfl, rfl, by decide, by decide⟩ rfl rfl (Nat.le_of_ble_eq_true rfl) dX0_placesOfPaths_28 (n := 31) rfl ?_
      refine v_istore_n (L' := [(2, .int r8), (0, .ref (xq x 6)), (1, .int x1), (3, .int x3)]) C dX0_placesOfPaths_31 rfl (by decide) rfl (n := 32) rfl rfl ?_
      obtain ⟨y9, ey9, h⟩ := lt_e h
      refine v_iinc (L' := [(3, .int y9), (2, .int r8), (0, .ref (xq x 6)), (1, .int x1)]) C 3 dX0_placesOfPaths_32 rfl (by rw [ey9]; rfl) (by decide) rfl (n := 35) rfl ?_
      refine v_goto C dX0_placesOfPaths_35 (n := 4) (by decide) ?_
      refine v_sub [2, 3, 1, 0] rfl ?_
      exact hk4 x1 r8 y9 S7 h
theorem tg_X0_placesOfPaths_4 {x : Ctx} (C : Cx x WX cX0_placesOfPaths RX0 4 rm_X0_placesOfPaths (some .int)) {res : Int32 × St}  : ∀ (n : Nat) (x1 : Int32) (x2 : Int32) (x3 : Int32) (S : St), g_X0_placesOfPaths_4  n x1 x2 x3 S = some res → V x WX 4 (QI x WX res) S 4 [(0, .ref (xq x 6)), (1, .int x1), (2, .int x2), (3, .int x3)] [] := by
  intro n
  induction n with
  | zero => intro x1 x2 x3 S h; cases h
  | succ n ih => intro x1 x2 x3 S h; exact t_X0_placesOfPaths_4 C (fun x1 x2 x3 S h => ih x1 x2 x3 S h) x1 x2 x3 S h
set_option maxRecDepth 20000 in
set_option maxHeartbeats 2000000 in
theorem t_X0_placesOfPaths_0 {x : Ctx} (C : Cx x WX cX0_placesOfPaths RX0 4 rm_X0_placesOfPaths (some .int)) {res : Int32 × St}  (x1 : Int32) (S : St) (h : f_X0_placesOfPaths_0  x1 S = some res) : V x WX 4 (QI x WX res) S 0 [(0, .ref (xq x 6)), (1, .int x1)] [] := by
  unfold f_X0_placesOfPaths_0 at h
  refine v_iconst (v := 0) C dX0_placesOfPaths_0 (by decide) (n := 1) rfl ?_
  refine v_istore_n (L' := [(2, .int 0), (0, .ref (xq x 6)), (1, .int x1)]) C dX0_placesOfPaths_1 rfl (by decide) rfl (n := 2) rfl rfl ?_
  refine v_iconst (v := 0) C dX0_placesOfPaths_2 (by decide) (n := 3) rfl ?_
  refine v_istore_n (L' := [(3, .int 0), (2, .int 0), (0, .ref (xq x 6)), (1, .int x1)]) C dX0_placesOfPaths_3 rfl (by decide) rfl (n := 4) rfl rfl ?_
  refine v_sub [2, 3, 1, 0] rfl ?_
  exact tg_X0_placesOfPaths_4 C  fuel x1 0 0 S h
theorem c_X0_placesOfPaths {l : Launch} {D : va_G} {q : Nat → Nat} {ar : Ar} (a1 : Int32) (S : St) {res : Int32 × St} (h : m_X0_placesOfPaths a1 S = some res) : MetI l D q ar WX yX0_placesOfPaths cX0_placesOfPaths 4 (some .int) rm_X0_placesOfPaths [.ref (q 6), .int a1] S res := by
  refine metI_of adrX (by decide +kernel) (Nat.le_of_ble_eq_true rfl) (fun x e1 e2 e3 e4 C => ?_)
  subst e1; subst e2; subst e3; subst e4
  exact v_sub [0, 1] rfl (t_X0_placesOfPaths_0 C a1 S h)
theorem mf_X0_placesOfPaths : CalV yX0_placesOfPaths cX0_placesOfPaths 4 (some .int) RX0 1 := ⟨w_20_15, w_20_13, w_20_14, w_1_23, rfl, by decide +kernel, by decide +kernel, by decide +kernel⟩
/-! LabyrinthGarden$Garden.placesOpenAt -/
def f_X0_placesOpenAt_4 (k4 : Int32 → Int32 → Int32 → St → Option (Int32 × St)) (x1 : Int32) (x2 : Int32) (x3 : Int32) (S : St) : Option (Int32 × St) :=
  if (rd S 6 1) ≤ x3 then (
    bI (m_X0_placesOfPaths (x2 &&& ((rd S 6 5) ^^^ (-1))) S) fun r3 S2 =>
    some (r3, S2))
  else (
    ck x3 12 <|
    bI (m_X9_hasBit (rd S 7 x3.toNatClampNeg) x1 S) fun r6 S5 =>
    if r6 = 0 then (
      lt (x3 + 1 : Int32) fun y8 =>
      k4 x1 x2 y8 S5)
    else (
      bI (m_X9_withBit x2 x3 1 S5) fun r10 S9 =>
      lt (x3 + 1 : Int32) fun y11 =>
      k4 x1 r10 y11 S9))
def g_X0_placesOpenAt_4  : Nat → Int32 → Int32 → Int32 → St → Option (Int32 × St)
  | 0 => fun _ _ _ _ => none
  | n + 1 => f_X0_placesOpenAt_4 (g_X0_placesOpenAt_4  n)
def f_X0_placesOpenAt_0  (x1 : Int32) (S : St) : Option (Int32 × St) :=
  g_X0_placesOpenAt_4  fuel x1 0 0 S
def m_X0_placesOpenAt (a1 : Int32) (S : St) : Option (Int32 × St) := f_X0_placesOpenAt_0 a1 S
def rm_X0_placesOpenAt : Room := { frames := 2, cells := 0, slots := 0, locals := 45 }
set_option maxRecDepth 20000 in
set_option maxHeartbeats 2000000 in
theorem t_X0_placesOpenAt_4 {x : Ctx} (C : Cx x WX cX0_placesOpenAt RX0 4 rm_X0_placesOpenAt (some .int)) {res : Int32 × St} {k4 : Int32 → Int32 → Int32 → St → Option (Int32 × St)} (hk4 : ∀ (x1 : Int32) (x2 : Int32) (x3 : Int32) (S : St), k4 x1 x2 x3 S = some res → V x WX 4 (QI x WX res) S 4 [(0, .ref (xq x 6)), (1, .int x1), (2, .int x2), (3, .int x3)] []) (x1 : Int32) (x2 : Int32) (x3 : Int32) (S : St) (h : f_X0_placesOpenAt_4 k4 x1 x2 x3 S = some res) : V x WX 4 (QI x WX res) S 4 [(0, .ref (xq x 6)), (1, .int x1), (2, .int x2), (3, .int x3)] [] := by
  unfold f_X0_placesOpenAt_4 at h
  refine v_iload_n C 3 dX0_placesOpenAt_4 rfl rfl (n := 5) rfl ?_
  refine v_aload_n C 0 dX0_placesOpenAt_5 rfl rfl (n := 6) rfl ?_
  refine g_X0_paths C w_4_4 dX0_placesOpenAt_6 (n := 9) rfl ?_
  refine v_icmp_ge C dX0_placesOpenAt_9 (t := 38) (by decide) (n := 12) rfl (fun c1 => ?_) (fun c1 => ?_)
  · have h := ite_p c1 h
    refine v_aload_n C 0 dX0_placesOpenAt_38 rfl rfl (n := 39) rfl ?_
    refine v_iload_n C 2 dX0_placesOpenAt_39 rfl rfl (n := 40) rfl ?_
    refine v_aload_n C 0 dX0_placesOpenAt_40 rfl rfl (n := 41) rfl ?_
    refine g_X0_shuts C w_4_8 dX0_placesOpenAt_41 (n := 44) rfl ?_
    refine v_iconst (v := (-1)) C dX0_placesOpenAt_44 (by decide) (n := 45) rfl ?_
    refine v_ixor C dX0_placesOpenAt_45 (n := 46) rfl ?_
    refine v_iand C dX0_placesOpenAt_46 (n := 47) rfl ?_
    obtain ⟨r3, S2, eS2, h⟩ := bI_e h
    refine v_callVI (As := [.int (x2 &&& ((rd S 6 5) ^^^ (-1)))]) C (c_X0_placesOfPaths (x2 &&& ((rd S 6 5) ^^^ (-1))) S eS2) mf_X0_placesOfPaths w_20_12 (oX0 _ _ _) rfl ⟨rfl, rfl, by decide, by decide⟩ rfl rfl (Nat.le_of_ble_eq_true rfl) dX0_placesOpenAt_47 (n := 50) rfl ?_
    obtain rfl := Option.some.inj h
    exact v_iret C dX0_placesOpenAt_50
  · have h := ite_n c1 h
    refine v_aload_n C 0 dX0_placesOpenAt_12 rfl rfl (n := 13) rfl ?_
    refine g_X0_gates C w_4_10 dX0_placesOpenAt_13 (n := 16) rfl ?_
    refine v_iload_n C 3 dX0_placesOpenAt_16 rfl rfl (n := 17) rfl ?_
    obtain ⟨hi4, h⟩ := ck_e h
    refine v_ald C aX_7 hi4 dX0_placesOpenAt_17 (n := 18) rfl ?_
    refine v_iload_n C 1 dX0_placesOpenAt_18 rfl rfl (n := 19) rfl ?_
    obtain ⟨r6, S5, eS5, h⟩ := bI_e h
    refine v_callNI (As := [.int (rd S 7 x3.toNatClampNeg), .int x1]) C (c_X9_hasBit (rd S 7 x3.toNatClampNeg) x1 S eS5) mf_X9_hasBit (List.mem_of_getElem? (i := 8) rfl : (RX0, 80, yX9_hasBit, RX9) ∈ nestW) ⟨rfl, rfl, by decide, by decide⟩ rfl rfl (Nat.le_of_ble_eq_true rfl) dX0_placesOpenAt_19 (n := 22) rfl ?_
    refine v_if_eq C dX0_placesOpenAt_22 (t := 32) (by decide) (n := 25) rfl (fun c7 => ?_) (fun c7 => ?_)
    · have h := ite_p c7 h
      obtain ⟨y8, ey8, h⟩ := lt_e h
      refine v_iinc (L' := [(3, .int y8), (0, .ref (xq x 6)), (1, .int x1), (2, .int x2)]) C 3 dX0_placesOpenAt_32 rfl (by rw [ey8]; rfl) (by decide) rfl (n := 35) rfl ?_
      refine v_goto C dX0_placesOpenAt_35 (n := 4) (by decide) ?_
      refine v_sub [1, 2, 3, 0] rfl ?_
      exact hk4 x1 x2 y8 S5 h
    · have h := ite_n c7 h
      refine v_iload_n C 2 dX0_placesOpenAt_25 rfl rfl (n := 26) rfl ?_
      refine v_iload_n C 3 dX0_placesOpenAt_26 rfl rfl (n := 27) rfl ?_
      refine v_iconst (v := 1) C dX0_placesOpenAt_27 (by decide) (n := 28) rfl ?_
      obtain ⟨r10, S9, eS9, h⟩ := bI_e h
      refine v_callNI (As := [.int x2, .int x3, .int 1]) C (c_X9_withBit x2 x3 1 S5 eS9) mf_X9_withBit (List.mem_of_getElem? (i := 7) rfl : (RX0, 65, yX9_withBit, RX9) ∈ nestW) ⟨rfl, rfl, by decide, by decide⟩ rfl rfl (Nat.le_of_ble_eq_true rfl) dX0_placesOpenAt_28 (n := 31) rfl ?_
      refine v_istore_n (L' := [(2, .int r10), (0, .ref (xq x 6)), (1, .int x1), (3, .int x3)]) C dX0_placesOpenAt_31 rfl (by decide) rfl (n := 32) rfl rfl ?_
      obtain ⟨y11, ey11, h⟩ := lt_e h
      refine v_iinc (L' := [(3, .int y11), (2, .int r10), (0, .ref (xq x 6)), (1, .int x1)]) C 3 dX0_placesOpenAt_32 rfl (by rw [ey11]; rfl) (by decide) rfl (n := 35) rfl ?_
      refine v_goto C dX0_placesOpenAt_35 (n := 4) (by decide) ?_
      refine v_sub [2, 3, 1, 0] rfl ?_
      exact hk4 x1 r10 y11 S9 h
theorem tg_X0_placesOpenAt_4 {x : Ctx} (C : Cx x WX cX0_placesOpenAt RX0 4 rm_X0_placesOpenAt (some .int)) {res : Int32 × St}  : ∀ (n : Nat) (x1 : Int32) (x2 : Int32) (x3 : Int32) (S : St), g_X0_placesOpenAt_4  n x1 x2 x3 S = some res → V x WX 4 (QI x WX res) S 4 [(0, .ref (xq x 6)), (1, .int x1), (2, .int x2), (3, .int x3)] [] := by
  intro n
  induction n with
  | zero => intro x1 x2 x3 S h; cases h
  | succ n ih => intro x1 x2 x3 S h; exact t_X0_placesOpenAt_4 C (fun x1 x2 x3 S h => ih x1 x2 x3 S h) x1 x2 x3 S h
set_option maxRecDepth 20000 in
set_option maxHeartbeats 2000000 in
theorem t_X0_placesOpenAt_0 {x : Ctx} (C : Cx x WX cX0_placesOpenAt RX0 4 rm_X0_placesOpenAt (some .int)) {res : Int32 × St}  (x1 : Int32) (S : St) (h : f_X0_placesOpenAt_0  x1 S = some res) : V x WX 4 (QI x WX res) S 0 [(0, .ref (xq x 6)), (1, .int x1)] [] := by
  unfold f_X0_placesOpenAt_0 at h
  refine v_iconst (v := 0) C dX0_placesOpenAt_0 (by decide) (n := 1) rfl ?_
  refine v_istore_n (L' := [(2, .int 0), (0, .ref (xq x 6)), (1, .int x1)]) C dX0_placesOpenAt_1 rfl (by decide) rfl (n := 2) rfl rfl ?_
  refine v_iconst (v := 0) C dX0_placesOpenAt_2 (by decide) (n := 3) rfl ?_
  refine v_istore_n (L' := [(3, .int 0), (2, .int 0), (0, .ref (xq x 6)), (1, .int x1)]) C dX0_placesOpenAt_3 rfl (by decide) rfl (n := 4) rfl rfl ?_
  refine v_sub [2, 3, 1, 0] rfl ?_
  exact tg_X0_placesOpenAt_4 C  fuel x1 0 0 S h
theorem c_X0_placesOpenAt {l : Launch} {D : va_G} {q : Nat → Nat} {ar : Ar} (a1 : Int32) (S : St) {res : Int32 × St} (h : m_X0_placesOpenAt a1 S = some res) : MetI l D q ar WX yX0_placesOpenAt cX0_placesOpenAt 4 (some .int) rm_X0_placesOpenAt [.ref (q 6), .int a1] S res := by
  refine metI_of adrX (by decide +kernel) (Nat.le_of_ble_eq_true rfl) (fun x e1 e2 e3 e4 C => ?_)
  subst e1; subst e2; subst e3; subst e4
  exact v_sub [0, 1] rfl (t_X0_placesOpenAt_0 C a1 S h)
theorem mf_X0_placesOpenAt : CalV yX0_placesOpenAt cX0_placesOpenAt 4 (some .int) RX0 1 := ⟨w_20_11, w_20_9, w_20_10, w_1_23, rfl, by decide +kernel, by decide +kernel, by decide +kernel⟩
/-! LabyrinthGarden$Rules.actOf -/
def f_X5_actOf_0  (x0 : Nat) (x1 : Int32) (x2 : Int32) (S : St) : Option (Int32 × St) :=
  if x2 = 0 then (
    ckr x0 <|
    bI (m_X9_hasBit (rd S x0 6) x1 S) fun r4 S3 =>
    if r4 = 0 then (
      some ((2 * x1), S3))
    else (
      some (((2 * x1) + 1), S3)))
  else (
    some ((2 * x1), S))
def m_X5_actOf (r0 : Nat) (a1 : Int32) (a2 : Int32) (S : St) : Option (Int32 × St) := f_X5_actOf_0 r0 a1 a2 S
def rm_X5_actOf : Room := { frames := 1, cells := 0, slots := 0, locals := 21 }
set_option maxRecDepth 20000 in
set_option maxHeartbeats 2000000 in
theorem t_X5_actOf_0 {x : Ctx} (C : Cx x WX cX5_actOf RX5 3 rm_X5_actOf (some .int)) {res : Int32 × St}  (x0 : Nat) (x1 : Int32) (x2 : Int32) (S : St) (h : f_X5_actOf_0  x0 x1 x2 S = some res) : V x WX 3 (QI x WX res) S 0 [(0, .ref (xq x x0)), (1, .int x1), (2, .int x2)] [] := by
  unfold f_X5_actOf_0 at h
  refine v_iload_n C 2 dX5_actOf_0 rfl rfl (n := 1) rfl ?_
  refine v_if_ne C dX5_actOf_1 (t := 15) (by decide) (n := 4) rfl (fun c1 => ?_) (fun c1 => ?_)
  · have h := ite_n c1 h
    refine v_iconst (v := 2) C dX5_actOf_15 (by decide) (n := 16) rfl ?_
    refine v_iload_n C 1 dX5_actOf_16 rfl rfl (n := 17) rfl ?_
    refine v_imul C dX5_actOf_17 (n := 18) rfl ?_
    refine v_goto C dX5_actOf_18 (n := 26) (by decide) ?_
    obtain rfl := Option.some.inj h
    exact v_iret C dX5_actOf_26
  · have h := ite_p c1 h
    refine v_aload_n C 0 dX5_actOf_4 rfl rfl (n := 5) rfl ?_
    obtain ⟨hr2, h⟩ := ckr_e h
    refine g_X5_forked hr2 C w_5_4 dX5_actOf_5 (n := 8) rfl ?_
    refine v_iload_n C 1 dX5_actOf_8 rfl rfl (n := 9) rfl ?_
    obtain ⟨r4, S3, eS3, h⟩ := bI_e h
    refine v_callNI (As := [.int (rd S x0 6), .int x1]) C (c_X9_hasBit (rd S x0 6) x1 S eS3) mf_X9_hasBit (List.mem_of_getElem? (i := 10) rfl : (RX5, 38, yX9_hasBit, RX9) ∈ nestW) ⟨rfl, rfl, by decide, by decide⟩ rfl rfl (Nat.le_of_ble_eq_true rfl) dX5_actOf_9 (n := 12) rfl ?_
    refine v_if_ne C dX5_actOf_12 (t := 21) (by decide) (n := 15) rfl (fun c5 => ?_) (fun c5 => ?_)
    · have h := ite_n c5 h
      refine v_iconst (v := 2) C dX5_actOf_21 (by decide) (n := 22) rfl ?_
      refine v_iload_n C 1 dX5_actOf_22 rfl rfl (n := 23) rfl ?_
      refine v_imul C dX5_actOf_23 (n := 24) rfl ?_
      refine v_iconst (v := 1) C dX5_actOf_24 (by decide) (n := 25) rfl ?_
      refine v_iadd C dX5_actOf_25 (n := 26) rfl ?_
      obtain rfl := Option.some.inj h
      exact v_iret C dX5_actOf_26
    · have h := ite_p c5 h
      refine v_iconst (v := 2) C dX5_actOf_15 (by decide) (n := 16) rfl ?_
      refine v_iload_n C 1 dX5_actOf_16 rfl rfl (n := 17) rfl ?_
      refine v_imul C dX5_actOf_17 (n := 18) rfl ?_
      refine v_goto C dX5_actOf_18 (n := 26) (by decide) ?_
      obtain rfl := Option.some.inj h
      exact v_iret C dX5_actOf_26
theorem c_X5_actOf {l : Launch} {D : va_G} {q : Nat → Nat} {ar : Ar} (r0 : Nat) (a1 : Int32) (a2 : Int32) (S : St) {res : Int32 × St} (h : m_X5_actOf r0 a1 a2 S = some res) : MetI l D q ar WX yX5_actOf cX5_actOf 3 (some .int) rm_X5_actOf [.ref (q r0), .int a1, .int a2] S res := by
  refine metI_of adrX (by decide +kernel) (Nat.le_of_ble_eq_true rfl) (fun x e1 e2 e3 e4 C => ?_)
  subst e1; subst e2; subst e3; subst e4
  exact v_sub [0, 1, 2] rfl (t_X5_actOf_0 C r0 a1 a2 S h)
theorem mf_X5_actOf : CalV yX5_actOf cX5_actOf 3 (some .int) RX5 2 := ⟨w_21_4, w_21_2, w_21_3, w_2_3, rfl, by decide +kernel, by decide +kernel, by decide +kernel⟩
/-! LabyrinthGarden$Rules.marksAfter -/
def f_X5_marksAfter_0  (x0 : Nat) (x1 : Int32) (x2 : Int32) (x3 : Int32) (S : St) : Option (Int32 × St) :=
  ckr x0 <|
  ck x1 8 <|
  if (rd S (x0 + 2) x1.toNatClampNeg) = 1 then (
    bI (m_X9_withBit x2 x3 0 S) fun r5 S4 =>
    some (r5, S4))
  else (
  if (rd S (x0 + 2) x1.toNatClampNeg) = 2 then (
    bI (m_X9_withBit x2 x3 1 S) fun r8 S7 =>
    some (r8, S7))
  else (
    some (x2, S)))
def m_X5_marksAfter (r0 : Nat) (a1 : Int32) (a2 : Int32) (a3 : Int32) (S : St) : Option (Int32 × St) := f_X5_marksAfter_0 r0 a1 a2 a3 S
def rm_X5_marksAfter : Room := { frames := 1, cells := 0, slots := 0, locals := 22 }
set_option maxRecDepth 20000 in
set_option maxHeartbeats 2000000 in
theorem t_X5_marksAfter_0 {x : Ctx} (C : Cx x WX cX5_marksAfter RX5 4 rm_X5_marksAfter (some .int)) {res : Int32 × St}  (x0 : Nat) (x1 : Int32) (x2 : Int32) (x3 : Int32) (S : St) (h : f_X5_marksAfter_0  x0 x1 x2 x3 S = some res) : V x WX 4 (QI x WX res) S 0 [(0, .ref (xq x x0)), (1, .int x1), (2, .int x2), (3, .int x3)] [] := by
  unfold f_X5_marksAfter_0 at h
  refine v_aload_n C 0 dX5_marksAfter_0 rfl rfl (n := 1) rfl ?_
  obtain ⟨hr1, h⟩ := ckr_e h
  refine g_X5_deed hr1 C w_4_23 dX5_marksAfter_1 (n := 4) rfl ?_
  refine v_iload_n C 1 dX5_marksAfter_4 rfl rfl (n := 5) rfl ?_
  obtain ⟨hi2, h⟩ := ck_e h
  refine v_ald C (aR_2 (hr1)) hi2 dX5_marksAfter_5 (n := 6) rfl ?_
  by_cases c3 : (rd S (x0 + 2) x1.toNatClampNeg) = 1
  · have h := ite_p c3 h
    refine v_look (off := 26) C dX5_marksAfter_6 (by decide) (by rw [c3] <;> decide) (t := 32) (by decide) ?_
    refine v_iload_n C 2 dX5_marksAfter_32 rfl rfl (n := 33) rfl ?_
    refine v_iload_n C 3 dX5_marksAfter_33 rfl rfl (n := 34) rfl ?_
    refine v_iconst (v := 0) C dX5_marksAfter_34 (by decide) (n := 35) rfl ?_
    obtain ⟨r5, S4, eS4, h⟩ := bI_e h
    refine v_callNI (As := [.int x2, .int x3, .int 0]) C (c_X9_withBit x2 x3 0 S eS4) mf_X9_withBit (List.mem_of_getElem? (i := 5) rfl : (RX5, 32, yX9_withBit, RX9) ∈ nestW) ⟨rfl, rfl, by decide, by decide⟩ rfl rfl (Nat.le_of_ble_eq_true rfl) dX5_marksAfter_35 (n := 38) rfl ?_
    obtain rfl := Option.some.inj h
    exact v_iret C dX5_marksAfter_38
  · have h := ite_n c3 h
    by_cases c6 : (rd S (x0 + 2) x1.toNatClampNeg) = 2
    · have h := ite_p c6 h
      refine v_look (off := 33) C dX5_marksAfter_6 (by decide) (by rw [c6] <;> decide) (t := 39) (by decide) ?_
      refine v_iload_n C 2 dX5_marksAfter_39 rfl rfl (n := 40) rfl ?_
      refine v_iload_n C 3 dX5_marksAfter_40 rfl rfl (n := 41) rfl ?_
      refine v_iconst (v := 1) C dX5_marksAfter_41 (by decide) (n := 42) rfl ?_
      obtain ⟨r8, S7, eS7, h⟩ := bI_e h
      refine v_callNI (As := [.int x2, .int x3, .int 1]) C (c_X9_withBit x2 x3 1 S eS7) mf_X9_withBit (List.mem_of_getElem? (i := 5) rfl : (RX5, 32, yX9_withBit, RX9) ∈ nestW) ⟨rfl, rfl, by decide, by decide⟩ rfl rfl (Nat.le_of_ble_eq_true rfl) dX5_marksAfter_42 (n := 45) rfl ?_
      obtain rfl := Option.some.inj h
      exact v_iret C dX5_marksAfter_45
    · have h := ite_n c6 h
      refine v_look (off := 40) C dX5_marksAfter_6 (by decide) ((lv_osw c3 (by decide)).trans ((lv_osw c6 (by decide)).trans (rfl))) (t := 46) (by decide) ?_
      refine v_iload_n C 2 dX5_marksAfter_46 rfl rfl (n := 47) rfl ?_
      obtain rfl := Option.some.inj h
      exact v_iret C dX5_marksAfter_47
theorem c_X5_marksAfter {l : Launch} {D : va_G} {q : Nat → Nat} {ar : Ar} (r0 : Nat) (a1 : Int32) (a2 : Int32) (a3 : Int32) (S : St) {res : Int32 × St} (h : m_X5_marksAfter r0 a1 a2 a3 S = some res) : MetI l D q ar WX yX5_marksAfter cX5_marksAfter 4 (some .int) rm_X5_marksAfter [.ref (q r0), .int a1, .int a2, .int a3] S res := by
  refine metI_of adrX (by decide +kernel) (Nat.le_of_ble_eq_true rfl) (fun x e1 e2 e3 e4 C => ?_)
  subst e1; subst e2; subst e3; subst e4
  exact v_sub [0, 1, 2, 3] rfl (t_X5_marksAfter_0 C r0 a1 a2 a3 S h)
theorem mf_X5_marksAfter : CalV yX5_marksAfter cX5_marksAfter 4 (some .int) RX5 3 := ⟨w_21_8, w_21_6, w_21_7, w_2_3, rfl, by decide +kernel, by decide +kernel, by decide +kernel⟩
/-! java/lang/Integer.bitCount -/
def f_J6_bitCount_0f7a4_0  (x0 : Int32) (S : St) : Option (Int32 × St) :=
  lt ((x0 - ((ush x0 1) &&& 1431655765)) : Int32) fun y1 =>
  lt (((y1 &&& 858993459) + ((ush y1 2) &&& 858993459)) : Int32) fun y2 =>
  lt (((y2 + (ush y2 4)) &&& 252645135) : Int32) fun y3 =>
  lt ((y3 + (ush y3 8)) : Int32) fun y4 =>
  lt ((y4 + (ush y4 16)) : Int32) fun y5 =>
  some ((y5 &&& 63), S)
def m_J6_bitCount_0f7a4 (a0 : Int32) (S : St) : Option (Int32 × St) := f_J6_bitCount_0f7a4_0 a0 S
def rm_J6_bitCount_0f7a4 : Room := { frames := 0, cells := 0, slots := 0, locals := 0 }
set_option maxRecDepth 20000 in
set_option maxHeartbeats 2000000 in
theorem t_J6_bitCount_0f7a4_0 {x : Ctx} (C : Cx x WX cJ6_bitCount_0f7a4 RJ6 1 rm_J6_bitCount_0f7a4 (some .int)) {res : Int32 × St}  (x0 : Int32) (S : St) (h : f_J6_bitCount_0f7a4_0  x0 S = some res) : V x WX 1 (QI x WX res) S 0 [(0, .int x0)] [] := by
  unfold f_J6_bitCount_0f7a4_0 at h
  refine v_iload_n C 0 dJ6_bitCount_0f7a4_0 rfl rfl (n := 1) rfl ?_
  refine v_iload_n C 0 dJ6_bitCount_0f7a4_1 rfl rfl (n := 2) rfl ?_
  refine v_iconst (v := 1) C dJ6_bitCount_0f7a4_2 (by decide) (n := 3) rfl ?_
  refine v_iushr C dJ6_bitCount_0f7a4_3 (n := 4) rfl ?_
  refine v_ldcw (v := 1431655765) C w_21_21 dJ6_bitCount_0f7a4_4 (n := 7) rfl ?_
  refine v_iand C dJ6_bitCount_0f7a4_7 (n := 8) rfl ?_
  refine v_isub C dJ6_bitCount_0f7a4_8 (n := 9) rfl ?_
  obtain ⟨y1, ey1, h⟩ := lt_e h
  refine v_istore_n (L' := [(0, .int y1)]) C dJ6_bitCount_0f7a4_9 rfl (by decide) rfl (n := 10) rfl ey1 ?_
  refine v_iload_n C 0 dJ6_bitCount_0f7a4_10 rfl rfl (n := 11) rfl ?_
  refine v_ldcw (v := 858993459) C w_21_22 dJ6_bitCount_0f7a4_11 (n := 14) rfl ?_
  refine v_iand C dJ6_bitCount_0f7a4_14 (n := 15) rfl ?_
  refine v_iload_n C 0 dJ6_bitCount_0f7a4_15 rfl rfl (n := 16) rfl ?_
  refine v_iconst (v := 2) C dJ6_bitCount_0f7a4_16 (by decide) (n := 17) rfl ?_
  refine v_iushr C dJ6_bitCount_0f7a4_17 (n := 18) rfl ?_
  refine v_ldcw (v := 858993459) C w_21_22 dJ6_bitCount_0f7a4_18 (n := 21) rfl ?_
  refine v_iand C dJ6_bitCount_0f7a4_21 (n := 22) rfl ?_
  refine v_iadd C dJ6_bitCount_0f7a4_22 (n := 23) rfl ?_
  obtain ⟨y2, ey2, h⟩ := lt_e h
  refine v_istore_n (L' := [(0, .int y2)]) C dJ6_bitCount_0f7a4_23 rfl (by decide) rfl (n := 24) rfl ey2 ?_
  refine v_iload_n C 0 dJ6_bitCount_0f7a4_24 rfl rfl (n := 25) rfl ?_
  refine v_iload_n C 0 dJ6_bitCount_0f7a4_25 rfl rfl (n := 26) rfl ?_
  refine v_iconst (v := 4) C dJ6_bitCount_0f7a4_26 (by decide) (n := 27) rfl ?_
  refine v_iushr C dJ6_bitCount_0f7a4_27 (n := 28) rfl ?_
  refine v_iadd C dJ6_bitCount_0f7a4_28 (n := 29) rfl ?_
  refine v_ldcw (v := 252645135) C w_21_23 dJ6_bitCount_0f7a4_29 (n := 32) rfl ?_
  refine v_iand C dJ6_bitCount_0f7a4_32 (n := 33) rfl ?_
  obtain ⟨y3, ey3, h⟩ := lt_e h
  refine v_istore_n (L' := [(0, .int y3)]) C dJ6_bitCount_0f7a4_33 rfl (by decide) rfl (n := 34) rfl ey3 ?_
  refine v_iload_n C 0 dJ6_bitCount_0f7a4_34 rfl rfl (n := 35) rfl ?_
  refine v_iload_n C 0 dJ6_bitCount_0f7a4_35 rfl rfl (n := 36) rfl ?_
  refine v_bipush (v := 8) C dJ6_bitCount_0f7a4_36 (by decide) (n := 38) rfl ?_
  refine v_iushr C dJ6_bitCount_0f7a4_38 (n := 39) rfl ?_
  refine v_iadd C dJ6_bitCount_0f7a4_39 (n := 40) rfl ?_
  obtain ⟨y4, ey4, h⟩ := lt_e h
  refine v_istore_n (L' := [(0, .int y4)]) C dJ6_bitCount_0f7a4_40 rfl (by decide) rfl (n := 41) rfl ey4 ?_
  refine v_iload_n C 0 dJ6_bitCount_0f7a4_41 rfl rfl (n := 42) rfl ?_
  refine v_iload_n C 0 dJ6_bitCount_0f7a4_42 rfl rfl (n := 43) rfl ?_
  refine v_bipush (v := 16) C dJ6_bitCount_0f7a4_43 (by decide) (n := 45) rfl ?_
  refine v_iushr C dJ6_bitCount_0f7a4_45 (n := 46) rfl ?_
  refine v_iadd C dJ6_bitCount_0f7a4_46 (n := 47) rfl ?_
  obtain ⟨y5, ey5, h⟩ := lt_e h
  refine v_istore_n (L' := [(0, .int y5)]) C dJ6_bitCount_0f7a4_47 rfl (by decide) rfl (n := 48) rfl ey5 ?_
  refine v_iload_n C 0 dJ6_bitCount_0f7a4_48 rfl rfl (n := 49) rfl ?_
  refine v_bipush (v := 63) C dJ6_bitCount_0f7a4_49 (by decide) (n := 51) rfl ?_
  refine v_iand C dJ6_bitCount_0f7a4_51 (n := 52) rfl ?_
  obtain rfl := Option.some.inj h
  exact v_iret C dJ6_bitCount_0f7a4_52
theorem c_J6_bitCount_0f7a4 {l : Launch} {D : va_G} {q : Nat → Nat} {ar : Ar} (a0 : Int32) (S : St) {res : Int32 × St} (h : m_J6_bitCount_0f7a4 a0 S = some res) : MetI l D q ar WX yJ6_bitCount_0f7a4 cJ6_bitCount_0f7a4 1 (some .int) rm_J6_bitCount_0f7a4 [.int a0] S res := by
  refine metI_ofF adrX (by decide +kernel) (Nat.le_of_ble_eq_true rfl) (fun x e1 e2 e3 e4 C => ?_)
  subst e1; subst e2; subst e3; subst e4
  exact v_sub [0] rfl (t_J6_bitCount_0f7a4_0 C a0 S h)
theorem mf_J6_bitCount_0f7a4 : CalS yJ6_bitCount_0f7a4 cJ6_bitCount_0f7a4 1 (some .int) 1 := ⟨w_21_20, w_21_18, w_21_19, by decide +kernel, by decide +kernel, by decide +kernel⟩
/-! LabyrinthGarden$Rules.clear -/
def f_X5_clear_0  (x0 : Nat) (S : St) : Option (St) :=
  ckr x0 <|
  lt (up S x0 3 0) fun S2 =>
  lt (up S2 x0 4 0) fun S3 =>
  lt (up S3 x0 5 0) fun S4 =>
  lt (up S4 x0 6 0) fun S5 =>
  some S5
def m_X5_clear (r0 : Nat) (S : St) : Option (St) := f_X5_clear_0 r0 S
def rm_X5_clear : Room := { frames := 0, cells := 0, slots := 0, locals := 0 }
set_option maxRecDepth 20000 in
set_option maxHeartbeats 2000000 in
theorem t_X5_clear_0 {x : Ctx} (C : Cx x WX cX5_clear RX5 1 rm_X5_clear none) {res : St}  (x0 : Nat) (S : St) (h : f_X5_clear_0  x0 S = some res) : V x WX 1 (QV x WX res) S 0 [(0, .ref (xq x x0))] [] := by
  unfold f_X5_clear_0 at h
  refine v_aload_n C 0 dX5_clear_0 rfl rfl (n := 1) rfl ?_
  refine v_iconst (v := 0) C dX5_clear_1 (by decide) (n := 2) rfl ?_
  obtain ⟨hr1, h⟩ := ckr_e h
  obtain ⟨S2, eS2, h⟩ := lt_e h
  refine p_X5_lines hr1 C w_5_1 dX5_clear_2 (n := 5) rfl eS2 ?_
  refine v_aload_n C 0 dX5_clear_5 rfl rfl (n := 6) rfl ?_
  refine v_iconst (v := 0) C dX5_clear_6 (by decide) (n := 7) rfl ?_
  obtain ⟨S3, eS3, h⟩ := lt_e h
  refine p_X5_firstState (hr1) C w_5_2 dX5_clear_7 (n := 10) rfl eS3 ?_
  refine v_aload_n C 0 dX5_clear_10 rfl rfl (n := 11) rfl ?_
  refine v_iconst (v := 0) C dX5_clear_11 (by decide) (n := 12) rfl ?_
  obtain ⟨S4, eS4, h⟩ := lt_e h
  refine p_X5_told (hr1) C w_5_3 dX5_clear_12 (n := 15) rfl eS4 ?_
  refine v_aload_n C 0 dX5_clear_15 rfl rfl (n := 16) rfl ?_
  refine v_iconst (v := 0) C dX5_clear_16 (by decide) (n := 17) rfl ?_
  obtain ⟨S5, eS5, h⟩ := lt_e h
  refine p_X5_forked (hr1) C w_5_4 dX5_clear_17 (n := 20) rfl eS5 ?_
  obtain rfl := Option.some.inj h
  exact v_ret C dX5_clear_20
theorem c_X5_clear {l : Launch} {D : va_G} {q : Nat → Nat} {ar : Ar} (r0 : Nat) (S : St) {res : St} (h : m_X5_clear r0 S = some res) : MetV l D q ar WX yX5_clear cX5_clear 1 none rm_X5_clear [.ref (q r0)] S res := by
  refine metV_of adrX (by decide +kernel) (Nat.le_of_ble_eq_true rfl) (fun x e1 e2 e3 e4 C => ?_)
  subst e1; subst e2; subst e3; subst e4
  exact v_sub [0] rfl (t_X5_clear_0 C r0 S h)
theorem mf_X5_clear : CalV yX5_clear cX5_clear 1 none RX5 0 := ⟨w_10_0, w_9_22, w_9_23, w_2_3, rfl, by decide +kernel, by decide +kernel, by decide +kernel⟩
/-! LabyrinthGarden$Rules.addLine -/
def f_X5_addLine_12  (x0 : Nat) (x1 : Int32) (S : St) : Option (St) :=
  ckr x0 <|
  lt (up S x0 3 ((rd S x0 3) + 1)) fun S2 =>
  bI (m_X9_withBit (rd S2 x0 5) x1 1 S2) fun r4 S3 =>
  lt (up S3 x0 5 r4) fun S5 =>
  some S5
def f_X5_addLine_0  (x0 : Nat) (x1 : Int32) (S : St) : Option (St) :=
  ckr x0 <|
  if (rd S x0 3) = 0 then (
    lt (up S x0 4 x1) fun S3 =>
    f_X5_addLine_12  x0 x1 S3)
  else (
    f_X5_addLine_12  x0 x1 S)
def m_X5_addLine (r0 : Nat) (a1 : Int32) (S : St) : Option (St) := f_X5_addLine_0 r0 a1 S
def rm_X5_addLine : Room := { frames := 1, cells := 0, slots := 0, locals := 22 }
set_option maxRecDepth 20000 in
set_option maxHeartbeats 2000000 in
theorem t_X5_addLine_12 {x : Ctx} (C : Cx x WX cX5_addLine RX5 2 rm_X5_addLine none) {res : St}  (x0 : Nat) (x1 : Int32) (S : St) (h : f_X5_addLine_12  x0 x1 S = some res) : V x WX 2 (QV x WX res) S 12 [(0, .ref (xq x x0)), (1, .int x1)] [] := by
  unfold f_X5_addLine_12 at h
  refine v_aload_n C 0 dX5_addLine_12 rfl rfl (n := 13) rfl ?_
  refine v_dup C dX5_addLine_13 rfl (n := 14) rfl ?_
  obtain ⟨hr1, h⟩ := ckr_e h
  refine g_X5_lines hr1 C w_5_1 dX5_addLine_14 (n := 17) rfl ?_
  refine v_iconst (v := 1) C dX5_addLine_17 (by decide) (n := 18) rfl ?_
  refine v_iadd C dX5_addLine_18 (n := 19) rfl ?_
  obtain ⟨S2, eS2, h⟩ := lt_e h
  refine p_X5_lines (hr1) C w_5_1 dX5_addLine_19 (n := 22) rfl eS2 ?_
  refine v_aload_n C 0 dX5_addLine_22 rfl rfl (n := 23) rfl ?_
  refine v_aload_n C 0 dX5_addLine_23 rfl rfl (n := 24) rfl ?_
  refine g_X5_told (hr1) C w_5_3 dX5_addLine_24 (n := 27) rfl ?_
  refine v_iload_n C 1 dX5_addLine_27 rfl rfl (n := 28) rfl ?_
  refine v_iconst (v := 1) C dX5_addLine_28 (by decide) (n := 29) rfl ?_
  obtain ⟨r4, S3, eS3, h⟩ := bI_e h
  refine v_callNI (As := [.int (rd S2 x0 5), .int x1, .int 1]) C (c_X9_withBit (rd S2 x0 5) x1 1 S2 eS3) mf_X9_withBit (List.mem_of_getElem? (i := 5) rfl : (RX5, 32, yX9_withBit, RX9) ∈ nestW) ⟨rfl, rfl, by decide, by decide⟩ rfl rfl (Nat.le_of_ble_eq_true rfl) dX5_addLine_29 (n := 32) rfl ?_
  obtain ⟨S5, eS5, h⟩ := lt_e h
  refine p_X5_told (hr1) C w_5_3 dX5_addLine_32 (n := 35) rfl eS5 ?_
  obtain rfl := Option.some.inj h
  exact v_ret C dX5_addLine_35
set_option maxRecDepth 20000 in
set_option maxHeartbeats 2000000 in
theorem t_X5_addLine_0 {x : Ctx} (C : Cx x WX cX5_addLine RX5 2 rm_X5_addLine none) {res : St}  (x0 : Nat) (x1 : Int32) (S : St) (h : f_X5_addLine_0  x0 x1 S = some res) : V x WX 2 (QV x WX res) S 0 [(0, .ref (xq x x0)), (1, .int x1)] [] := by
  unfold f_X5_addLine_0 at h
  refine v_aload_n C 0 dX5_addLine_0 rfl rfl (n := 1) rfl ?_
  obtain ⟨hr1, h⟩ := ckr_e h
  refine g_X5_lines hr1 C w_5_1 dX5_addLine_1 (n := 4) rfl ?_
  refine v_if_ne C dX5_addLine_4 (t := 12) (by decide) (n := 7) rfl (fun c2 => ?_) (fun c2 => ?_)
  · have h := ite_n c2 h
    refine v_sub [0, 1] rfl ?_
    exact t_X5_addLine_12 C  x0 x1 S h
  · have h := ite_p c2 h
    refine v_aload_n C 0 dX5_addLine_7 rfl rfl (n := 8) rfl ?_
    refine v_iload_n C 1 dX5_addLine_8 rfl rfl (n := 9) rfl ?_
    obtain ⟨S3, eS3, h⟩ := lt_e h
    refine p_X5_firstState (hr1) C w_5_2 dX5_addLine_9 (n := 12) rfl eS3 ?_
    refine v_sub [0, 1] rfl ?_
    exact t_X5_addLine_12 C  x0 x1 S3 h
theorem c_X5_addLine {l : Launch} {D : va_G} {q : Nat → Nat} {ar : Ar} (r0 : Nat) (a1 : Int32) (S : St) {res : St} (h : m_X5_addLine r0 a1 S = some res) : MetV l D q ar WX yX5_addLine cX5_addLine 2 none rm_X5_addLine [.ref (q r0), .int a1] S res := by
  refine metV_of adrX (by decide +kernel) (Nat.le_of_ble_eq_true rfl) (fun x e1 e2 e3 e4 C => ?_)
  subst e1; subst e2; subst e3; subst e4
  exact v_sub [0, 1] rfl (t_X5_addLine_0 C r0 a1 S h)
theorem mf_X5_addLine : CalV yX5_addLine cX5_addLine 2 none RX5 1 := ⟨w_11_20, w_11_18, w_11_19, w_2_3, rfl, by decide +kernel, by decide +kernel, by decide +kernel⟩
/-! LabyrinthGarden$Tale.forget -/
def f_X6_forget_0   (S : St) : Option (St) :=
  lt (up S 31 1 (-1)) fun S1 =>
  some S1
def m_X6_forget  (S : St) : Option (St) := f_X6_forget_0  S
def rm_X6_forget : Room := { frames := 0, cells := 0, slots := 0, locals := 0 }
set_option maxRecDepth 20000 in
set_option maxHeartbeats 2000000 in
theorem t_X6_forget_0 {x : Ctx} (C : Cx x WX cX6_forget RX6 1 rm_X6_forget none) {res : St}   (S : St) (h : f_X6_forget_0   S = some res) : V x WX 1 (QV x WX res) S 0 [(0, .ref (xq x 31))] [] := by
  unfold f_X6_forget_0 at h
  refine v_aload_n C 0 dX6_forget_0 rfl rfl (n := 1) rfl ?_
  refine v_iconst (v := (-1)) C dX6_forget_1 (by decide) (n := 2) rfl ?_
  obtain ⟨S1, eS1, h⟩ := lt_e h
  refine p_X6_turns C w_6_8 dX6_forget_2 (n := 5) rfl eS1 ?_
  obtain rfl := Option.some.inj h
  exact v_ret C dX6_forget_5
theorem c_X6_forget {l : Launch} {D : va_G} {q : Nat → Nat} {ar : Ar}  (S : St) {res : St} (h : m_X6_forget  S = some res) : MetV l D q ar WX yX6_forget cX6_forget 1 none rm_X6_forget [.ref (q 31)] S res := by
  refine metV_of adrX (by decide +kernel) (Nat.le_of_ble_eq_true rfl) (fun x e1 e2 e3 e4 C => ?_)
  subst e1; subst e2; subst e3; subst e4
  exact v_sub [0] rfl (t_X6_forget_0 C  S h)
theorem mf_X6_forget : CalV yX6_forget cX6_forget 1 none RX6 0 := ⟨w_15_5, w_15_3, w_15_4, w_2_20, rfl, by decide +kernel, by decide +kernel, by decide +kernel⟩
/-! LabyrinthGarden$Tale.canGoOn -/
def f_X6_canGoOn_0   (S : St) : Option (Int32 × St) :=
  if (rd S 31 1) = (-1) then (
    some (0, S))
  else (
    if 8 ≤ (rd S 31 1) then (
      some (0, S))
    else (
      some (1, S)))
def m_X6_canGoOn  (S : St) : Option (Int32 × St) := f_X6_canGoOn_0  S
def rm_X6_canGoOn : Room := { frames := 0, cells := 0, slots := 0, locals := 0 }
set_option maxRecDepth 20000 in
set_option maxHeartbeats 2000000 in
theorem t_X6_canGoOn_0 {x : Ctx} (C : Cx x WX cX6_canGoOn RX6 1 rm_X6_canGoOn (some .boolean)) {res : Int32 × St}   (S : St) (h : f_X6_canGoOn_0   S = some res) : V x WX 1 (QI x WX res) S 0 [(0, .ref (xq x 31))] [] := by
  unfold f_X6_canGoOn_0 at h
  refine v_aload_n C 0 dX6_canGoOn_0 rfl rfl (n := 1) rfl ?_
  refine g_X6_turns C w_6_8 dX6_canGoOn_1 (n := 4) rfl ?_
  refine v_iconst (v := (-1)) C dX6_canGoOn_4 (by decide) (n := 5) rfl ?_
  refine v_icmp_eq C dX6_canGoOn_5 (t := 21) (by decide) (n := 8) rfl (fun c1 => ?_) (fun c1 => ?_)
  · have h := ite_p c1 h
    refine v_iconst (v := 0) C dX6_canGoOn_21 (by decide) (n := 22) rfl ?_
    obtain rfl := Option.some.inj h
    exact v_zret C (Or.inl rfl) dX6_canGoOn_22
  · have h := ite_n c1 h
    refine v_aload_n C 0 dX6_canGoOn_8 rfl rfl (n := 9) rfl ?_
    refine g_X6_turns C w_6_8 dX6_canGoOn_9 (n := 12) rfl ?_
    refine v_bipush (v := 8) C dX6_canGoOn_12 (by decide) (n := 14) rfl ?_
    refine v_icmp_ge C dX6_canGoOn_14 (t := 21) (by decide) (n := 17) rfl (fun c2 => ?_) (fun c2 => ?_)
    · have h := ite_p c2 h
      refine v_iconst (v := 0) C dX6_canGoOn_21 (by decide) (n := 22) rfl ?_
      obtain rfl := Option.some.inj h
      exact v_zret C (Or.inl rfl) dX6_canGoOn_22
    · have h := ite_n c2 h
      refine v_iconst (v := 1) C dX6_canGoOn_17 (by decide) (n := 18) rfl ?_
      refine v_goto C dX6_canGoOn_18 (n := 22) (by decide) ?_
      obtain rfl := Option.some.inj h
      exact v_zret C (Or.inr rfl) dX6_canGoOn_22
theorem c_X6_canGoOn {l : Launch} {D : va_G} {q : Nat → Nat} {ar : Ar}  (S : St) {res : Int32 × St} (h : m_X6_canGoOn  S = some res) : MetI l D q ar WX yX6_canGoOn cX6_canGoOn 1 (some .boolean) rm_X6_canGoOn [.ref (q 31)] S res := by
  refine metI_of adrX (by decide +kernel) (Nat.le_of_ble_eq_true rfl) (fun x e1 e2 e3 e4 C => ?_)
  subst e1; subst e2; subst e3; subst e4
  exact v_sub [0] rfl (t_X6_canGoOn_0 C  S h)
theorem mf_X6_canGoOn : CalV yX6_canGoOn cX6_canGoOn 1 (some .boolean) RX6 0 := ⟨w_28_20, w_28_18, w_28_19, w_2_20, rfl, by decide +kernel, by decide +kernel, by decide +kernel⟩
/-! LabyrinthGarden$Tale.begin -/
def f_X6_begin_0  (x1 : Int32) (S : St) : Option (St) :=
  lt (up S 31 1 0) fun S1 =>
  bI (m_X0_placesWithEnds x1 S1) fun r3 S2 =>
  lt (up S2 31 0 r3) fun S4 =>
  some S4
def m_X6_begin (a1 : Int32) (S : St) : Option (St) := f_X6_begin_0 a1 S
def rm_X6_begin : Room := { frames := 2, cells := 0, slots := 0, locals := 45 }
set_option maxRecDepth 20000 in
set_option maxHeartbeats 2000000 in
theorem t_X6_begin_0 {x : Ctx} (C : Cx x WX cX6_begin RX6 2 rm_X6_begin none) {res : St}  (x1 : Int32) (S : St) (h : f_X6_begin_0  x1 S = some res) : V x WX 2 (QV x WX res) S 0 [(0, .ref (xq x 31)), (1, .int x1)] [] := by
  unfold f_X6_begin_0 at h
  refine v_aload_n C 0 dX6_begin_0 rfl rfl (n := 1) rfl ?_
  refine v_iconst (v := 0) C dX6_begin_1 (by decide) (n := 2) rfl ?_
  obtain ⟨S1, eS1, h⟩ := lt_e h
  refine p_X6_turns C w_6_8 dX6_begin_2 (n := 5) rfl eS1 ?_
  refine v_aload_n C 0 dX6_begin_5 rfl rfl (n := 6) rfl ?_
  refine v_aload_n C 0 dX6_begin_6 rfl rfl (n := 7) rfl ?_
  refine g_X6_garden C w_6_9 dX6_begin_7 (n := 10) rfl ?_
  refine v_iload_n C 1 dX6_begin_10 rfl rfl (n := 11) rfl ?_
  obtain ⟨r3, S2, eS2, h⟩ := bI_e h
  refine v_callVI (As := [.int x1]) C (c_X0_placesWithEnds x1 S1 eS2) mf_X0_placesWithEnds w_27_20 (oX0 _ _ _) rfl ⟨rfl, rfl, by decide, by decide⟩ rfl rfl (Nat.le_of_ble_eq_true rfl) dX6_begin_11 (n := 14) rfl ?_
  obtain ⟨S4, eS4, h⟩ := lt_e h
  refine p_X6_here C w_6_7 dX6_begin_14 (n := 17) rfl eS4 ?_
  obtain rfl := Option.some.inj h
  exact v_ret C dX6_begin_17
theorem c_X6_begin {l : Launch} {D : va_G} {q : Nat → Nat} {ar : Ar} (a1 : Int32) (S : St) {res : St} (h : m_X6_begin a1 S = some res) : MetV l D q ar WX yX6_begin cX6_begin 2 none rm_X6_begin [.ref (q 31), .int a1] S res := by
  refine metV_of adrX (by decide +kernel) (Nat.le_of_ble_eq_true rfl) (fun x e1 e2 e3 e4 C => ?_)
  subst e1; subst e2; subst e3; subst e4
  exact v_sub [0, 1] rfl (t_X6_begin_0 C a1 S h)
theorem mf_X6_begin : CalV yX6_begin cX6_begin 2 none RX6 1 := ⟨w_27_19, w_27_17, w_27_18, w_2_20, rfl, by decide +kernel, by decide +kernel, by decide +kernel⟩
/-! LabyrinthGarden$Tale.goOn -/
def f_X6_goOn_5 (k5 : Int32 → Int32 → Int32 → Int32 → St → Option (St)) (x1 : Int32) (x2 : Int32) (x3 : Int32) (x4 : Int32) (S : St) : Option (St) :=
  if (rd S 6 2) ≤ x4 then (
    lt (up S 31 1 ((rd S 31 1) + 1)) fun S2 =>
    bI (m_X0_placesWithEnds x2 S2) fun r4 S3 =>
    lt (up S3 31 0 (x3 &&& r4)) fun S5 =>
    some S5)
  else (
    bI (m_X9_hasBit (rd S 31 0) x4 S) fun r7 S6 =>
    if r7 = 0 then (
      lt (x4 + 1 : Int32) fun y9 =>
      k5 x1 x2 x3 y9 S6)
    else (
      bI (m_X0_beyond x4 x1 S6) fun r11 S10 =>
      bI (m_X9_withBit x3 r11 1 S10) fun r13 S12 =>
      lt (x4 + 1 : Int32) fun y14 =>
      k5 x1 x2 r13 y14 S12))
def g_X6_goOn_5  : Nat → Int32 → Int32 → Int32 → Int32 → St → Option (St)
  | 0 => fun _ _ _ _ _ => none
  | n + 1 => f_X6_goOn_5 (g_X6_goOn_5  n)
def f_X6_goOn_0  (x1 : Int32) (x2 : Int32) (S : St) : Option (St) :=
  g_X6_goOn_5  fuel x1 x2 0 0 S
def m_X6_goOn (a1 : Int32) (a2 : Int32) (S : St) : Option (St) := f_X6_goOn_0 a1 a2 S
def rm_X6_goOn : Room := { frames := 2, cells := 0, slots := 0, locals := 45 }
set_option maxRecDepth 20000 in
set_option maxHeartbeats 2000000 in
theorem t_X6_goOn_5 {x : Ctx} (C : Cx x WX cX6_goOn RX6 5 rm_X6_goOn none) {res : St} {k5 : Int32 → Int32 → Int32 → Int32 → St → Option (St)} (hk5 : ∀ (x1 : Int32) (x2 : Int32) (x3 : Int32) (x4 : Int32) (S : St), k5 x1 x2 x3 x4 S = some res → V x WX 5 (QV x WX res) S 5 [(0, .ref (xq x 31)), (1, .int x1), (2, .int x2), (3, .int x3), (4, .int x4)] []) (x1 : Int32) (x2 : Int32) (x3 : Int32) (x4 : Int32) (S : St) (h : f_X6_goOn_5 k5 x1 x2 x3 x4 S = some res) : V x WX 5 (QV x WX res) S 5 [(0, .ref (xq x 31)), (1, .int x1), (2, .int x2), (3, .int x3), (4, .int x4)] [] := by
  unfold f_X6_goOn_5 at h
  refine v_iload C 4 dX6_goOn_5 rfl (n := 7) rfl ?_
  refine v_aload_n C 0 dX6_goOn_7 rfl rfl (n := 8) rfl ?_
  refine g_X6_garden C w_6_9 dX6_goOn_8 (n := 11) rfl ?_
  refine g_X0_places C w_29_1 dX6_goOn_11 (n := 14) rfl ?_
  refine v_icmp_ge C dX6_goOn_14 (t := 51) (by decide) (n := 17) rfl (fun c1 => ?_) (fun c1 => ?_)
  · have h := ite_p c1 h
    refine v_aload_n C 0 dX6_goOn_51 rfl rfl (n := 52) rfl ?_
    refine v_dup C dX6_goOn_52 rfl (n := 53) rfl ?_
    refine g_X6_turns C w_6_8 dX6_goOn_53 (n := 56) rfl ?_
    refine v_iconst (v := 1) C dX6_goOn_56 (by decide) (n := 57) rfl ?_
    refine v_iadd C dX6_goOn_57 (n := 58) rfl ?_
    obtain ⟨S2, eS2, h⟩ := lt_e h
    refine p_X6_turns C w_6_8 dX6_goOn_58 (n := 61) rfl eS2 ?_
    refine v_aload_n C 0 dX6_goOn_61 rfl rfl (n := 62) rfl ?_
    refine v_iload_n C 3 dX6_goOn_62 rfl rfl (n := 63) rfl ?_
    refine v_aload_n C 0 dX6_goOn_63 rfl rfl (n := 64) rfl ?_
    refine g_X6_garden C w_6_9 dX6_goOn_64 (n := 67) rfl ?_
    refine v_iload_n C 2 dX6_goOn_67 rfl rfl (n := 68) rfl ?_
    obtain ⟨r4, S3, eS3, h⟩ := bI_e h
    refine v_callVI (As := [.int x2]) C (c_X0_placesWithEnds x2 S2 eS3) mf_X0_placesWithEnds w_27_20 (oX0 _ _ _) rfl ⟨rfl, rfl, by decide, by decide⟩ rfl rfl (Nat.le_of_ble_eq_true rfl) dX6_goOn_68 (n := 71) rfl ?_
    refine v_iand C dX6_goOn_71 (n := 72) rfl ?_
    obtain ⟨S5, eS5, h⟩ := lt_e h
    refine p_X6_here C w_6_7 dX6_goOn_72 (n := 75) rfl eS5 ?_
    obtain rfl := Option.some.inj h
    exact v_ret C dX6_goOn_75
  · have h := ite_n c1 h
    refine v_aload_n C 0 dX6_goOn_17 rfl rfl (n := 18) rfl ?_
    refine g_X6_here C w_6_7 dX6_goOn_18 (n := 21) rfl ?_
    refine v_iload C 4 dX6_goOn_21 rfl (n := 23) rfl ?_
    obtain ⟨r7, S6, eS6, h⟩ := bI_e h
    refine v_callNI (As := [.int (rd S 31 0), .int x4]) C (c_X9_hasBit (rd S 31 0) x4 S eS6) mf_X9_hasBit (List.mem_of_getElem? (i := 12) rfl : (RX6, 31, yX9_hasBit, RX9) ∈ nestW) ⟨rfl, rfl, by decide, by decide⟩ rfl rfl (Nat.le_of_ble_eq_true rfl) dX6_goOn_23 (n := 26) rfl ?_
    refine v_if_eq C dX6_goOn_26 (t := 45) (by decide) (n := 29) rfl (fun c8 => ?_) (fun c8 => ?_)
    · have h := ite_p c8 h
      obtain ⟨y9, ey9, h⟩ := lt_e h
      refine v_iinc (L' := [(4, .int y9), (0, .ref (xq x 31)), (1, .int x1), (2, .int x2), (3, .int x3)]) C 4 dX6_goOn_45 rfl (by rw [ey9]; rfl) (by decide) rfl (n := 48) rfl ?_
      refine v_goto C dX6_goOn_48 (n := 5) (by decide) ?_
      refine v_sub [1, 2, 3, 4, 0] rfl ?_
      exact hk5 x1 x2 x3 y9 S6 h
    · have h := ite_n c8 h
      refine v_iload_n C 3 dX6_goOn_29 rfl rfl (n := 30) rfl ?_
      refine v_aload_n C 0 dX6_goOn_30 rfl rfl (n := 31) rfl ?_
      refine g_X6_garden C w_6_9 dX6_goOn_31 (n := 34) rfl ?_
      refine v_iload C 4 dX6_goOn_34 rfl (n := 36) rfl ?_
      refine v_iload_n C 1 dX6_goOn_36 rfl rfl (n := 37) rfl ?_
      obtain ⟨r11, S10, eS10, h⟩ := bI_e h
      refine v_callVI (As := [.int x4, .int x1]) C (c_X0_beyond x4 x1 S6 eS10) mf_X0_beyond w_29_2 (oX0 _ _ _) rfl ⟨rfl, rfl, by decide, by decide⟩ rfl rfl (Nat.le_of_ble_eq_true rfl) dX6_goOn_37 (n := 40) rfl ?_
      refine v_iconst (v := 1) C dX6_goOn_40 (by decide) (n := 41) rfl ?_
      obtain ⟨r13, S12, eS12, h⟩ := bI_e h
      refine v_callNI (As := [.int x3, .int r11, .int 1]) C (c_X9_withBit x3 r11 1 S10 eS12) mf_X9_withBit (List.mem_of_getElem? (i := 13) rfl : (RX6, 39, yX9_withBit, RX9) ∈ nestW) ⟨rfl, rfl, by decide, by decide⟩ rfl rfl (Nat.le_of_ble_eq_true rfl) dX6_goOn_41 (n := 44) rfl ?_
      refine v_istore_n (L' := [(3, .int r13), (0, .ref (xq x 31)), (1, .int x1), (2, .int x2), (4, .int x4)]) C dX6_goOn_44 rfl (by decide) rfl (n := 45) rfl rfl ?_
      obtain ⟨y14, ey14, h⟩ := lt_e h
      refine v_iinc (L' := [(4, .int y14), (3, .int r13), (0, .ref (xq x 31)), (1, .int x1), (2, .int x2)]) C 4 dX6_goOn_45 rfl (by rw [ey14]; rfl) (by decide) rfl (n := 48) rfl ?_
      refine v_goto C dX6_goOn_48 (n := 5) (by decide) ?_
      refine v_sub [2, 3, 4, 1, 0] rfl ?_
      exact hk5 x1 x2 r13 y14 S12 h
theorem tg_X6_goOn_5 {x : Ctx} (C : Cx x WX cX6_goOn RX6 5 rm_X6_goOn none) {res : St}  : ∀ (n : Nat) (x1 : Int32) (x2 : Int32) (x3 : Int32) (x4 : Int32) (S : St), g_X6_goOn_5  n x1 x2 x3 x4 S = some res → V x WX 5 (QV x WX res) S 5 [(0, .ref (xq x 31)), (1, .int x1), (2, .int x2), (3, .int x3), (4, .int x4)] [] := by
  intro n
  induction n with
  | zero => intro x1 x2 x3 x4 S h; cases h
  | succ n ih => intro x1 x2 x3 x4 S h; exact t_X6_goOn_5 C (fun x1 x2 x3 x4 S h => ih x1 x2 x3 x4 S h) x1 x2 x3 x4 S h
set_option maxRecDepth 20000 in
set_option maxHeartbeats 2000000 in
theorem t_X6_goOn_0 {x : Ctx} (C : Cx x WX cX6_goOn RX6 5 rm_X6_goOn none) {res : St}  (x1 : Int32) (x2 : Int32) (S : St) (h : f_X6_goOn_0  x1 x2 S = some res) : V x WX 5 (QV x WX res) S 0 [(0, .ref (xq x 31)), (1, .int x1), (2, .int x2)] [] := by
  unfold f_X6_goOn_0 at h
  refine v_iconst (v := 0) C dX6_goOn_0 (by decide) (n := 1) rfl ?_
  refine v_istore_n (L' := [(3, .int 0), (0, .ref (xq x 31)), (1, .int x1), (2, .int x2)]) C dX6_goOn_1 rfl (by decide) rfl (n := 2) rfl rfl ?_
  refine v_iconst (v := 0) C dX6_goOn_2 (by decide) (n := 3) rfl ?_
  refine v_istore (L' := [(4, .int 0), (3, .int 0), (0, .ref (xq x 31)), (1, .int x1), (2, .int x2)]) C dX6_goOn_3 (by decide) rfl (n := 5) rfl rfl ?_
  refine v_sub [2, 3, 4, 1, 0] rfl ?_
  exact tg_X6_goOn_5 C  fuel x1 x2 0 0 S h
theorem c_X6_goOn {l : Launch} {D : va_G} {q : Nat → Nat} {ar : Ar} (a1 : Int32) (a2 : Int32) (S : St) {res : St} (h : m_X6_goOn a1 a2 S = some res) : MetV l D q ar WX yX6_goOn cX6_goOn 5 none rm_X6_goOn [.ref (q 31), .int a1, .int a2] S res := by
  refine metV_of adrX (by decide +kernel) (Nat.le_of_ble_eq_true rfl) (fun x e1 e2 e3 e4 C => ?_)
  subst e1; subst e2; subst e3; subst e4
  exact v_sub [0, 1, 2] rfl (t_X6_goOn_0 C a1 a2 S h)
theorem mf_X6_goOn : CalV yX6_goOn cX6_goOn 5 none RX6 2 := ⟨w_29_0, w_28_22, w_28_23, w_2_20, rfl, by decide +kernel, by decide +kernel, by decide +kernel⟩
/-! LabyrinthGarden$Tape.hasRoom -/
def f_X7_hasRoom_0   (S : St) : Option (Int32 × St) :=
  if 300 < ((rd S 1 1) + 20) then (
    some (0, S))
  else (
    some (1, S))
def m_X7_hasRoom  (S : St) : Option (Int32 × St) := f_X7_hasRoom_0  S
def rm_X7_hasRoom : Room := { frames := 0, cells := 0, slots := 0, locals := 0 }
set_option maxRecDepth 20000 in
set_option maxHeartbeats 2000000 in
theorem t_X7_hasRoom_0 {x : Ctx} (C : Cx x WX cX7_hasRoom RX7 1 rm_X7_hasRoom (some .boolean)) {res : Int32 × St}   (S : St) (h : f_X7_hasRoom_0   S = some res) : V x WX 1 (QI x WX res) S 0 [(0, .ref (xq x 1))] [] := by
  unfold f_X7_hasRoom_0 at h
  refine v_aload_n C 0 dX7_hasRoom_0 rfl rfl (n := 1) rfl ?_
  refine g_X7_size C w_3_7 dX7_hasRoom_1 (n := 4) rfl ?_
  refine v_bipush (v := 20) C dX7_hasRoom_4 (by decide) (n := 6) rfl ?_
  refine v_iadd C dX7_hasRoom_6 (n := 7) rfl ?_
  refine v_sipush (v := 300) C dX7_hasRoom_7 (by decide) (n := 10) rfl ?_
  refine v_icmp_gt C dX7_hasRoom_10 (t := 17) (by decide) (n := 13) rfl (fun c1 => ?_) (fun c1 => ?_)
  · have h := ite_p c1 h
    refine v_iconst (v := 0) C dX7_hasRoom_17 (by decide) (n := 18) rfl ?_
    obtain rfl := Option.some.inj h
    exact v_zret C (Or.inl rfl) dX7_hasRoom_18
  · have h := ite_n c1 h
    refine v_iconst (v := 1) C dX7_hasRoom_13 (by decide) (n := 14) rfl ?_
    refine v_goto C dX7_hasRoom_14 (n := 18) (by decide) ?_
    obtain rfl := Option.some.inj h
    exact v_zret C (Or.inr rfl) dX7_hasRoom_18
theorem c_X7_hasRoom {l : Launch} {D : va_G} {q : Nat → Nat} {ar : Ar}  (S : St) {res : Int32 × St} (h : m_X7_hasRoom  S = some res) : MetI l D q ar WX yX7_hasRoom cX7_hasRoom 1 (some .boolean) rm_X7_hasRoom [.ref (q 1)] S res := by
  refine metI_of adrX (by decide +kernel) (Nat.le_of_ble_eq_true rfl) (fun x e1 e2 e3 e4 C => ?_)
  subst e1; subst e2; subst e3; subst e4
  exact v_sub [0] rfl (t_X7_hasRoom_0 C  S h)
theorem mf_X7_hasRoom : CalV yX7_hasRoom cX7_hasRoom 1 (some .boolean) RX7 0 := ⟨w_8_20, w_8_18, w_8_19, w_1_15, rfl, by decide +kernel, by decide +kernel, by decide +kernel⟩
/-! LabyrinthGarden$Tape.add -/
def f_X7_add_3 (k3 : Int32 → Int32 → St → Option (St)) (x1 : Int32) (x2 : Int32) (S : St) : Option (St) :=
  if x2 < 0 then (
    some S)
  else (
    if 300 ≤ (rd S 1 1) then (
      some S)
    else (
      ck (rd S 1 1) 300 <|
      lt (up S 2 (rd S 1 1).toNatClampNeg ((ush x1 x2) &&& 255)) fun S4 =>
      lt (up S4 1 1 ((rd S4 1 1) + 1)) fun S5 =>
      lt (x2 + (-8) : Int32) fun y6 =>
      k3 x1 y6 S5))
def g_X7_add_3  : Nat → Int32 → Int32 → St → Option (St)
  | 0 => fun _ _ _ => none
  | n + 1 => f_X7_add_3 (g_X7_add_3  n)
def f_X7_add_0  (x1 : Int32) (S : St) : Option (St) :=
  g_X7_add_3  fuel x1 24 S
def m_X7_add (a1 : Int32) (S : St) : Option (St) := f_X7_add_0 a1 S
def rm_X7_add : Room := { frames := 0, cells := 0, slots := 0, locals := 0 }
set_option maxRecDepth 20000 in
set_option maxHeartbeats 2000000 in
theorem t_X7_add_3 {x : Ctx} (C : Cx x WX cX7_add RX7 3 rm_X7_add none) {res : St} {k3 : Int32 → Int32 → St → Option (St)} (hk3 : ∀ (x1 : Int32) (x2 : Int32) (S : St), k3 x1 x2 S = some res → V x WX 3 (QV x WX res) S 3 [(0, .ref (xq x 1)), (1, .int x1), (2, .int x2)] []) (x1 : Int32) (x2 : Int32) (S : St) (h : f_X7_add_3 k3 x1 x2 S = some res) : V x WX 3 (QV x WX res) S 3 [(0, .ref (xq x 1)), (1, .int x1), (2, .int x2)] [] := by
  unfold f_X7_add_3 at h
  refine v_iload_n C 2 dX7_add_3 rfl rfl (n := 4) rfl ?_
  refine v_if_lt C dX7_add_4 (t := 49) (by decide) (n := 7) rfl (fun c1 => ?_) (fun c1 => ?_)
  · have h := ite_p c1 h
    obtain rfl := Option.some.inj h
    exact v_ret C dX7_add_49
  · have h := ite_n c1 h
    refine v_aload_n C 0 dX7_add_7 rfl rfl (n := 8) rfl ?_
    refine g_X7_size C w_3_7 dX7_add_8 (n := 11) rfl ?_
    refine v_sipush (v := 300) C dX7_add_11 (by decide) (n := 14) rfl ?_
    refine v_icmp_ge C dX7_add_14 (t := 49) (by decide) (n := 17) rfl (fun c2 => ?_) (fun c2 => ?_)
    · have h := ite_p c2 h
      obtain rfl := Option.some.inj h
      exact v_ret C dX7_add_49
    · have h := ite_n c2 h
      refine v_aload_n C 0 dX7_add_17 rfl rfl (n := 18) rfl ?_
      refine g_X7_bytes C w_3_6 dX7_add_18 (n := 21) rfl ?_
      refine v_aload_n C 0 dX7_add_21 rfl rfl (n := 22) rfl ?_
      refine g_X7_size C w_3_7 dX7_add_22 (n := 25) rfl ?_
      refine v_iload_n C 1 dX7_add_25 rfl rfl (n := 26) rfl ?_
      refine v_iload_n C 2 dX7_add_26 rfl rfl (n := 27) rfl ?_
      refine v_iushr C dX7_add_27 (n := 28) rfl ?_
      refine v_sipush (v := 255) C dX7_add_28 (by decide) (n := 31) rfl ?_
      refine v_iand C dX7_add_31 (n := 32) rfl ?_
      obtain ⟨hi3, h⟩ := ck_e h
      obtain ⟨S4, eS4, h⟩ := lt_e h
      refine v_ast C aX_2 hi3 dX7_add_32 (n := 33) rfl eS4 ?_
      refine v_aload_n C 0 dX7_add_33 rfl rfl (n := 34) rfl ?_
      refine v_dup C dX7_add_34 rfl (n := 35) rfl ?_
      refine g_X7_size C w_3_7 dX7_add_35 (n := 38) rfl ?_
      refine v_iconst (v := 1) C dX7_add_38 (by decide) (n := 39) rfl ?_
      refine v_iadd C dX7_add_39 (n := 40) rfl ?_
      obtain ⟨S5, eS5, h⟩ := lt_e h
      refine p_X7_size C w_3_7 dX7_add_40 (n := 43) rfl eS5 ?_
      obtain ⟨y6, ey6, h⟩ := lt_e h
      refine v_iinc (L' := [(2, .int y6), (0, .ref (xq x 1)), (1, .int x1)]) C 2 dX7_add_43 rfl (by rw [ey6]; rfl) (by decide) rfl (n := 46) rfl ?_
      refine v_goto C dX7_add_46 (n := 3) (by decide) ?_
      refine v_sub [1, 2, 0] rfl ?_
      exact hk3 x1 y6 S5 h
theorem tg_X7_add_3 {x : Ctx} (C : Cx x WX cX7_add RX7 3 rm_X7_add none) {res : St}  : ∀ (n : Nat) (x1 : Int32) (x2 : Int32) (S : St), g_X7_add_3  n x1 x2 S = some res → V x WX 3 (QV x WX res) S 3 [(0, .ref (xq x 1)), (1, .int x1), (2, .int x2)] [] := by
  intro n
  induction n with
  | zero => intro x1 x2 S h; cases h
  | succ n ih => intro x1 x2 S h; exact t_X7_add_3 C (fun x1 x2 S h => ih x1 x2 S h) x1 x2 S h
set_option maxRecDepth 20000 in
set_option maxHeartbeats 2000000 in
theorem t_X7_add_0 {x : Ctx} (C : Cx x WX cX7_add RX7 3 rm_X7_add none) {res : St}  (x1 : Int32) (S : St) (h : f_X7_add_0  x1 S = some res) : V x WX 3 (QV x WX res) S 0 [(0, .ref (xq x 1)), (1, .int x1)] [] := by
  unfold f_X7_add_0 at h
  refine v_bipush (v := 24) C dX7_add_0 (by decide) (n := 2) rfl ?_
  refine v_istore_n (L' := [(2, .int 24), (0, .ref (xq x 1)), (1, .int x1)]) C dX7_add_2 rfl (by decide) rfl (n := 3) rfl rfl ?_
  refine v_sub [1, 2, 0] rfl ?_
  exact tg_X7_add_3 C  fuel x1 24 S h
theorem c_X7_add {l : Launch} {D : va_G} {q : Nat → Nat} {ar : Ar} (a1 : Int32) (S : St) {res : St} (h : m_X7_add a1 S = some res) : MetV l D q ar WX yX7_add cX7_add 3 none rm_X7_add [.ref (q 1), .int a1] S res := by
  refine metV_of adrX (by decide +kernel) (Nat.le_of_ble_eq_true rfl) (fun x e1 e2 e3 e4 C => ?_)
  subst e1; subst e2; subst e3; subst e4
  exact v_sub [0, 1] rfl (t_X7_add_0 C a1 S h)
theorem mf_X7_add : CalV yX7_add cX7_add 3 none RX7 1 := ⟨w_9_0, w_8_22, w_8_23, w_1_15, rfl, by decide +kernel, by decide +kernel, by decide +kernel⟩
/-! LabyrinthGarden.isSeeable -/
def f_X9_isSeeable_0  (x0 : Int32) (S : St) : Option (Int32 × St) :=
  if x0 < 0 then (
    some (0, S))
  else (
    if 6 < x0 then (
      some (0, S))
    else (
      some (1, S)))
def m_X9_isSeeable (a0 : Int32) (S : St) : Option (Int32 × St) := f_X9_isSeeable_0 a0 S
def rm_X9_isSeeable : Room := { frames := 0, cells := 0, slots := 0, locals := 0 }
set_option maxRecDepth 20000 in
set_option maxHeartbeats 2000000 in
theorem t_X9_isSeeable_0 {x : Ctx} (C : Cx x WX cX9_isSeeable RX9 1 rm_X9_isSeeable (some .boolean)) {res : Int32 × St}  (x0 : Int32) (S : St) (h : f_X9_isSeeable_0  x0 S = some res) : V x WX 1 (QI x WX res) S 0 [(0, .int x0)] [] := by
  unfold f_X9_isSeeable_0 at h
  refine v_iload_n C 0 dX9_isSeeable_0 rfl rfl (n := 1) rfl ?_
  refine v_if_lt C dX9_isSeeable_1 (t := 14) (by decide) (n := 4) rfl (fun c1 => ?_) (fun c1 => ?_)
  · have h := ite_p c1 h
    refine v_iconst (v := 0) C dX9_isSeeable_14 (by decide) (n := 15) rfl ?_
    obtain rfl := Option.some.inj h
    exact v_zret C (Or.inl rfl) dX9_isSeeable_15
  · have h := ite_n c1 h
    refine v_iload_n C 0 dX9_isSeeable_4 rfl rfl (n := 5) rfl ?_
    refine v_bipush (v := 6) C dX9_isSeeable_5 (by decide) (n := 7) rfl ?_
    refine v_icmp_gt C dX9_isSeeable_7 (t := 14) (by decide) (n := 10) rfl (fun c2 => ?_) (fun c2 => ?_)
    · have h := ite_p c2 h
      refine v_iconst (v := 0) C dX9_isSeeable_14 (by decide) (n := 15) rfl ?_
      obtain rfl := Option.some.inj h
      exact v_zret C (Or.inl rfl) dX9_isSeeable_15
    · have h := ite_n c2 h
      refine v_iconst (v := 1) C dX9_isSeeable_10 (by decide) (n := 11) rfl ?_
      refine v_goto C dX9_isSeeable_11 (n := 15) (by decide) ?_
      obtain rfl := Option.some.inj h
      exact v_zret C (Or.inr rfl) dX9_isSeeable_15
theorem c_X9_isSeeable {l : Launch} {D : va_G} {q : Nat → Nat} {ar : Ar} (a0 : Int32) (S : St) {res : Int32 × St} (h : m_X9_isSeeable a0 S = some res) : MetI l D q ar WX yX9_isSeeable cX9_isSeeable 1 (some .boolean) rm_X9_isSeeable [.int a0] S res := by
  refine metI_of adrX (by decide +kernel) (Nat.le_of_ble_eq_true rfl) (fun x e1 e2 e3 e4 C => ?_)
  subst e1; subst e2; subst e3; subst e4
  exact v_sub [0] rfl (t_X9_isSeeable_0 C a0 S h)
theorem mf_X9_isSeeable : CalS yX9_isSeeable cX9_isSeeable 1 (some .boolean) 1 := ⟨w_27_15, w_27_14, w_1_2, by decide +kernel, by decide +kernel, by decide +kernel⟩
