/-! LabyrinthGarden.feed -/
def f_X9_feed_0  (x1 : Int32) (x2 : Int32) (x3 : Int32) (x4 : Int32) (x5 : Int32) (S : St) : Option (Int32 × St) :=
  bI (m_X7_hasRoom  S) fun r2 S1 =>
  if r2 = 0 then (
    some ((-1), S1))
  else (
    bV (m_X7_add x1 S1) fun S4 =>
    bV (m_X7_add x2 S4) fun S5 =>
    bV (m_X7_add x3 S5) fun S6 =>
    bV (m_X7_add x4 S6) fun S7 =>
    bV (m_X7_add x5 S7) fun S8 =>
    some ((rd S8 1 1), S8))
def m_X9_feed (a1 : Int32) (a2 : Int32) (a3 : Int32) (a4 : Int32) (a5 : Int32) (S : St) : Option (Int32 × St) := f_X9_feed_0 a1 a2 a3 a4 a5 S
def rm_X9_feed : Room := { frames := 1, cells := 0, slots := 0, locals := 22 }
set_option maxRecDepth 20000 in
set_option maxHeartbeats 2000000 in
theorem t_X9_feed_0 {x : Ctx} (C : Cx x WX cX9_feed RX9 6 rm_X9_feed (some .int)) {res : Int32 × St}  (x1 : Int32) (x2 : Int32) (x3 : Int32) (x4 : Int32) (x5 : Int32) (S : St) (h : f_X9_feed_0  x1 x2 x3 x4 x5 S = some res) : V x WX 6 (QI x WX res) S 0 [(0, .ref (xq x 0)), (1, .int x1), (2, .int x2), (3, .int x3), (4, .int x4), (5, .int x5)] [] := by
  unfold f_X9_feed_0 at h
  refine v_aload_n C 0 dX9_feed_0 rfl rfl (n := 1) rfl ?_
  refine g_X9_tape C w_1_16 dX9_feed_1 (n := 4) rfl ?_
  obtain ⟨r2, S1, eS1, h⟩ := bI_e h
  refine v_callVI (As := []) C (c_X7_hasRoom  S eS1) mf_X7_hasRoom w_8_17 (oX7 _ _ _) rfl ⟨rfl, rfl, by decide, by decide⟩ rfl rfl (Nat.le_of_ble_eq_true rfl) dX9_feed_4 (n := 7) rfl ?_
  refine v_if_ne C dX9_feed_7 (t := 12) (by decide) (n := 10) rfl (fun c3 => ?_) (fun c3 => ?_)
  · have h := ite_n c3 h
    refine v_aload_n C 0 dX9_feed_12 rfl rfl (n := 13) rfl ?_
    refine g_X9_tape C w_1_16 dX9_feed_13 (n := 16) rfl ?_
    refine v_iload_n C 1 dX9_feed_16 rfl rfl (n := 17) rfl ?_
    obtain ⟨S4, eS4, h⟩ := bV_e h
    refine v_callVV (As := [.int x1]) C (c_X7_add x1 S1 eS4) mf_X7_add w_8_21 (oX7 _ _ _) rfl ⟨rfl, rfl, by decide, by decide⟩ rfl rfl (Nat.le_of_ble_eq_true rfl) dX9_feed_17 (n := 20) rfl ?_
    refine v_aload_n C 0 dX9_feed_20 rfl rfl (n := 21) rfl ?_
    refine g_X9_tape C w_1_16 dX9_feed_21 (n := 24) rfl ?_
    refine v_iload_n C 2 dX9_feed_24 rfl rfl (n := 25) rfl ?_
    obtain ⟨S5, eS5, h⟩ := bV_e h
    refine v_callVV (As := [.int x2]) C (c_X7_add x2 S4 eS5) mf_X7_add w_8_21 (oX7 _ _ _) rfl ⟨rfl, rfl, by decide, by decide⟩ rfl rfl (Nat.le_of_ble_eq_true rfl) dX9_feed_25 (n := 28) rfl ?_
    refine v_aload_n C 0 dX9_feed_28 rfl rfl (n := 29) rfl ?_
    refine g_X9_tape C w_1_16 dX9_feed_29 (n := 32) rfl ?_
    refine v_iload_n C 3 dX9_feed_32 rfl rfl (n := 33) rfl ?_
    obtain ⟨S6, eS6, h⟩ := bV_e h
    refine v_callVV (As := [.int x3]) C (c_X7_add x3 S5 eS6) mf_X7_add w_8_21 (oX7 _ _ _) rfl ⟨rfl, rfl, by decide, by decide⟩ rfl rfl (Nat.le_of_ble_eq_true rfl) dX9_feed_33 (n := 36) rfl ?_
    refine v_aload_n C 0 dX9_feed_36 rfl rfl (n := 37) rfl ?_
    refine g_X9_tape C w_1_16 dX9_feed_37 (n := 40) rfl ?_
    refine v_iload C 4 dX9_feed_40 rfl (n := 42) rfl ?_
    obtain ⟨S7, eS7, h⟩ := bV_e h
    refine v_callVV (As := [.int x4]) C (c_X7_add x4 S6 eS7) mf_X7_add w_8_21 (oX7 _ _ _) rfl ⟨rfl, rfl, by decide, by decide⟩ rfl rfl (Nat.le_of_ble_eq_true rfl) dX9_feed_42 (n := 45) rfl ?_
    refine v_aload_n C 0 dX9_feed_45 rfl rfl (n := 46) rfl ?_
    refine g_X9_tape C w_1_16 dX9_feed_46 (n := 49) rfl ?_
    refine v_iload C 5 dX9_feed_49 rfl (n := 51) rfl ?_
    obtain ⟨S8, eS8, h⟩ := bV_e h
    refine v_callVV (As := [.int x5]) C (c_X7_add x5 S7 eS8) mf_X7_add w_8_21 (oX7 _ _ _) rfl ⟨rfl, rfl, by decide, by decide⟩ rfl rfl (Nat.le_of_ble_eq_true rfl) dX9_feed_51 (n := 54) rfl ?_
    refine v_aload_n C 0 dX9_feed_54 rfl rfl (n := 55) rfl ?_
    refine g_X9_tape C w_1_16 dX9_feed_55 (n := 58) rfl ?_
    refine g_X7_size C w_8_16 dX9_feed_58 (n := 61) rfl ?_
    obtain rfl := Option.some.inj h
    exact v_iret C dX9_feed_61
  · have h := ite_p c3 h
    refine v_iconst (v := (-1)) C dX9_feed_10 (by decide) (n := 11) rfl ?_
    obtain rfl := Option.some.inj h
    exact v_iret C dX9_feed_11
theorem c_X9_feed {l : Launch} {D : va_G} {q : Nat → Nat} {ar : Ar} (a1 : Int32) (a2 : Int32) (a3 : Int32) (a4 : Int32) (a5 : Int32) (S : St) {res : Int32 × St} (h : m_X9_feed a1 a2 a3 a4 a5 S = some res) : MetI l D q ar WX yX9_feed cX9_feed 6 (some .int) rm_X9_feed [.ref (q 0), .int a1, .int a2, .int a3, .int a4, .int a5] S res := by
  refine metI_of adrX (by decide +kernel) (Nat.le_of_ble_eq_true rfl) (fun x e1 e2 e3 e4 C => ?_)
  subst e1; subst e2; subst e3; subst e4
  exact v_sub [0, 1, 2, 3, 4, 5] rfl (t_X9_feed_0 C a1 a2 a3 a4 a5 S h)
theorem mf_X9_feed : CalV yX9_feed cX9_feed 6 (some .int) RX9 5 := ⟨w_8_15, w_8_13, w_8_14, w_1_2, rfl, by decide +kernel, by decide +kernel, by decide +kernel⟩
/-! LabyrinthGarden.rules -/
def f_X9_rules_0  (x1 : Int32) (S : St) : Option (Int32 × St) :=
  if x1 < 0 then (
    some ((-2), S))
  else (
    if x1 ≤ (rd S 1 1) then (
      bV (m_X3_read x1 (rs (rd S 0 9)) S) fun S3 =>
      lt (up S3 1 1 0) fun S4 =>
      if (rd S4 3 0) = 0 then (
        lt (up S4 0 8 (sr (rs (rd S4 0 9)))) fun S6 =>
        lt (up S6 0 9 (sr (rs (rd S4 0 8)))) fun S7 =>
        some ((rd S7 (rs (rd S7 0 8)) 3), S7))
      else (
        some ((-1), S4)))
    else (
      some ((-2), S)))
def m_X9_rules (a1 : Int32) (S : St) : Option (Int32 × St) := f_X9_rules_0 a1 S
def rm_X9_rules : Room := { frames := 6, cells := 0, slots := 0, locals := 131 }
set_option maxRecDepth 20000 in
set_option maxHeartbeats 2000000 in
theorem t_X9_rules_0 {x : Ctx} (C : Cx x WX cX9_rules RX9 3 rm_X9_rules (some .int)) {res : Int32 × St}  (x1 : Int32) (S : St) (h : f_X9_rules_0  x1 S = some res) : V x WX 3 (QI x WX res) S 0 [(0, .ref (xq x 0)), (1, .int x1)] [] := by
  unfold f_X9_rules_0 at h
  refine v_iload_n C 1 dX9_rules_0 rfl rfl (n := 1) rfl ?_
  refine v_if_lt C dX9_rules_1 (t := 15) (by decide) (n := 4) rfl (fun c1 => ?_) (fun c1 => ?_)
  · have h := ite_p c1 h
    refine v_bipush (v := (-2)) C dX9_rules_15 (by decide) (n := 17) rfl ?_
    obtain rfl := Option.some.inj h
    exact v_iret C dX9_rules_17
  · have h := ite_n c1 h
    refine v_iload_n C 1 dX9_rules_4 rfl rfl (n := 5) rfl ?_
    refine v_aload_n C 0 dX9_rules_5 rfl rfl (n := 6) rfl ?_
    refine g_X9_tape C w_1_16 dX9_rules_6 (n := 9) rfl ?_
    refine g_X7_size C w_8_16 dX9_rules_9 (n := 12) rfl ?_
    refine v_icmp_le C dX9_rules_12 (t := 18) (by decide) (n := 15) rfl (fun c2 => ?_) (fun c2 => ?_)
    · have h := ite_p c2 h
      refine v_aload_n C 0 dX9_rules_18 rfl rfl (n := 19) rfl ?_
      refine g_X9_reader C w_1_20 dX9_rules_19 (n := 22) rfl ?_
      refine v_iload_n C 1 dX9_rules_22 rfl rfl (n := 23) rfl ?_
      refine v_aload_n C 0 dX9_rules_23 rfl rfl (n := 24) rfl ?_
      refine g_X9_rulesToFill C w_2_5 dX9_rules_24 (n := 27) rfl ?_
      obtain ⟨S3, eS3, h⟩ := bV_e h
      refine v_callVV (As := [.int x1, .ref (xq x (rs (rd S 0 9)))]) C (c_X3_read x1 (rs (rd S 0 9)) S eS3) mf_X3_read w_9_13 (oX3 _ _ _) rfl ⟨rfl, rfl, by decide, by decide⟩ rfl rfl (Nat.le_of_ble_eq_true rfl) dX9_rules_27 (n := 30) rfl ?_
      refine v_aload_n C 0 dX9_rules_30 rfl rfl (n := 31) rfl ?_
      refine g_X9_tape C w_1_16 dX9_rules_31 (n := 34) rfl ?_
      refine v_iconst (v := 0) C dX9_rules_34 (by decide) (n := 35) rfl ?_
      obtain ⟨S4, eS4, h⟩ := lt_e h
      refine p_X7_size C w_8_16 dX9_rules_35 (n := 38) rfl eS4 ?_
      refine v_aload_n C 0 dX9_rules_38 rfl rfl (n := 39) rfl ?_
      refine g_X9_reader C w_1_20 dX9_rules_39 (n := 42) rfl ?_
      refine g_X3_fault C w_9_11 dX9_rules_42 (n := 45) rfl ?_
      refine v_if_eq C dX9_rules_45 (t := 50) (by decide) (n := 48) rfl (fun c5 => ?_) (fun c5 => ?_)
      · have h := ite_p c5 h
        refine v_aload_n C 0 dX9_rules_50 rfl rfl (n := 51) rfl ?_
        refine g_X9_rulesInUse C w_2_4 dX9_rules_51 (n := 54) rfl ?_
        refine v_astore_n (L' := [(2, .ref (xq x (rs (rd S4 0 8)))), (0, .ref (xq x 0)), (1, .int x1)]) C dX9_rules_54 rfl (by decide) rfl (n := 55) rfl ?_
        refine v_aload_n C 1 dX9_rules_55 rfl rfl (n := 56) rfl ?_
        refine v_aload_n C 1 dX9_rules_56 rfl rfl (n := 57) rfl ?_
        refine g_X9_rulesToFill C w_2_5 dX9_rules_57 (n := 60) rfl ?_
        obtain ⟨S6, eS6, h⟩ := lt_e h
        refine p_X9_rulesInUse (rs_ok _) C w_2_4 dX9_rules_60 (n := 63) rfl eS6 ?_
        refine v_aload_n C 1 dX9_rules_63 rfl rfl (n := 64) rfl ?_
        refine v_aload_n C 0 dX9_rules_64 rfl rfl (n := 65) rfl ?_
        obtain ⟨S7, eS7, h⟩ := lt_e h
        refine p_X9_rulesToFill (rs_ok _) C w_2_5 dX9_rules_65 (n := 68) rfl eS7 ?_
        refine v_aload_n C 1 dX9_rules_68 rfl rfl (n := 69) rfl ?_
        refine g_X9_rulesInUse C w_2_4 dX9_rules_69 (n := 72) rfl ?_
        refine g_X5_lines (rs_ok _) C w_9_12 dX9_rules_72 (n := 75) rfl ?_
        obtain rfl := Option.some.inj h
        exact v_iret C dX9_rules_75
      · have h := ite_n c5 h
        refine v_iconst (v := (-1)) C dX9_rules_48 (by decide) (n := 49) rfl ?_
        obtain rfl := Option.some.inj h
        exact v_iret C dX9_rules_49
    · have h := ite_n c2 h
      refine v_bipush (v := (-2)) C dX9_rules_15 (by decide) (n := 17) rfl ?_
      obtain rfl := Option.some.inj h
      exact v_iret C dX9_rules_17
theorem c_X9_rules {l : Launch} {D : va_G} {q : Nat → Nat} {ar : Ar} (a1 : Int32) (S : St) {res : Int32 × St} (h : m_X9_rules a1 S = some res) : MetI l D q ar WX yX9_rules cX9_rules 3 (some .int) rm_X9_rules [.ref (q 0), .int a1] S res := by
  refine metI_of adrX (by decide +kernel) (Nat.le_of_ble_eq_true rfl) (fun x e1 e2 e3 e4 C => ?_)
  subst e1; subst e2; subst e3; subst e4
  exact v_sub [0, 1] rfl (t_X9_rules_0 C a1 S h)
theorem mf_X9_rules : CalV yX9_rules cX9_rules 3 (some .int) RX9 1 := ⟨w_9_10, w_9_8, w_9_9, w_1_2, rfl, by decide +kernel, by decide +kernel, by decide +kernel⟩
/-! LabyrinthGarden.fault -/
def f_X9_fault_0  (x1 : Int32) (S : St) : Option (Int32 × St) :=
  if x1 = 0 then (
    some ((rd S 3 0), S))
  else (
  if x1 = 1 then (
    some ((rd S 3 1), S))
  else (
    some ((-1), S)))
def m_X9_fault (a1 : Int32) (S : St) : Option (Int32 × St) := f_X9_fault_0 a1 S
def rm_X9_fault : Room := { frames := 0, cells := 0, slots := 0, locals := 0 }
set_option maxRecDepth 20000 in
set_option maxHeartbeats 2000000 in
theorem t_X9_fault_0 {x : Ctx} (C : Cx x WX cX9_fault RX9 2 rm_X9_fault (some .int)) {res : Int32 × St}  (x1 : Int32) (S : St) (h : f_X9_fault_0  x1 S = some res) : V x WX 2 (QI x WX res) S 0 [(0, .ref (xq x 0)), (1, .int x1)] [] := by
  unfold f_X9_fault_0 at h
  refine v_iload_n C 1 dX9_fault_0 rfl rfl (n := 1) rfl ?_
  by_cases c1 : x1 = 0
  · have h := ite_p c1 h
    refine v_look (off := 27) C dX9_fault_1 (by decide) (by rw [c1] <;> decide) (t := 28) (by decide) ?_
    refine v_aload_n C 0 dX9_fault_28 rfl rfl (n := 29) rfl ?_
    refine g_X9_reader C w_1_20 dX9_fault_29 (n := 32) rfl ?_
    refine g_X3_fault C w_9_11 dX9_fault_32 (n := 35) rfl ?_
    obtain rfl := Option.some.inj h
    exact v_iret C dX9_fault_35
  · have h := ite_n c1 h
    by_cases c2 : x1 = 1
    · have h := ite_p c2 h
      refine v_look (off := 35) C dX9_fault_1 (by decide) (by rw [c2] <;> decide) (t := 36) (by decide) ?_
      refine v_aload_n C 0 dX9_fault_36 rfl rfl (n := 37) rfl ?_
      refine g_X9_reader C w_1_20 dX9_fault_37 (n := 40) rfl ?_
      refine g_X3_faultAt C w_14_13 dX9_fault_40 (n := 43) rfl ?_
      obtain rfl := Option.some.inj h
      exact v_iret C dX9_fault_43
    · have h := ite_n c2 h
      refine v_look (off := 43) C dX9_fault_1 (by decide) ((lv_osw c1 (by decide)).trans ((lv_osw c2 (by decide)).trans (rfl))) (t := 44) (by decide) ?_
      refine v_iconst (v := (-1)) C dX9_fault_44 (by decide) (n := 45) rfl ?_
      obtain rfl := Option.some.inj h
      exact v_iret C dX9_fault_45
theorem c_X9_fault {l : Launch} {D : va_G} {q : Nat → Nat} {ar : Ar} (a1 : Int32) (S : St) {res : Int32 × St} (h : m_X9_fault a1 S = some res) : MetI l D q ar WX yX9_fault cX9_fault 2 (some .int) rm_X9_fault [.ref (q 0), .int a1] S res := by
  refine metI_of adrX (by decide +kernel) (Nat.le_of_ble_eq_true rfl) (fun x e1 e2 e3 e4 C => ?_)
  subst e1; subst e2; subst e3; subst e4
  exact v_sub [0, 1] rfl (t_X9_fault_0 C a1 S h)
theorem mf_X9_fault : CalV yX9_fault cX9_fault 2 (some .int) RX9 1 := ⟨w_14_12, w_14_10, w_14_11, w_1_2, rfl, by decide +kernel, by decide +kernel, by decide +kernel⟩
/-! LabyrinthGarden.anew -/
def f_X9_anew_0   (S : St) : Option (St) :=
  bV (m_X0_clear  S) fun S1 =>
  bV (m_X6_forget  S1) fun S2 =>
  some S2
def m_X9_anew  (S : St) : Option (St) := f_X9_anew_0  S
def rm_X9_anew : Room := { frames := 1, cells := 0, slots := 0, locals := 20 }
set_option maxRecDepth 20000 in
set_option maxHeartbeats 2000000 in
theorem t_X9_anew_0 {x : Ctx} (C : Cx x WX cX9_anew RX9 1 rm_X9_anew none) {res : St}   (S : St) (h : f_X9_anew_0   S = some res) : V x WX 1 (QV x WX res) S 0 [(0, .ref (xq x 0))] [] := by
  unfold f_X9_anew_0 at h
  refine v_aload_n C 0 dX9_anew_0 rfl rfl (n := 1) rfl ?_
  refine g_X9_garden C w_2_0 dX9_anew_1 (n := 4) rfl ?_
  obtain ⟨S1, eS1, h⟩ := bV_e h
  refine v_callVV (As := []) C (c_X0_clear  S eS1) mf_X0_clear w_14_22 (oX0 _ _ _) rfl ⟨rfl, rfl, by decide, by decide⟩ rfl rfl (Nat.le_of_ble_eq_true rfl) dX9_anew_4 (n := 7) rfl ?_
  refine v_aload_n C 0 dX9_anew_7 rfl rfl (n := 8) rfl ?_
  refine g_X9_story C w_2_21 dX9_anew_8 (n := 11) rfl ?_
  obtain ⟨S2, eS2, h⟩ := bV_e h
  refine v_callVV (As := []) C (c_X6_forget  S1 eS2) mf_X6_forget w_15_2 (oX6 _ _ _) rfl ⟨rfl, rfl, by decide, by decide⟩ rfl rfl (Nat.le_of_ble_eq_true rfl) dX9_anew_11 (n := 14) rfl ?_
  obtain rfl := Option.some.inj h
  exact v_ret C dX9_anew_14
theorem c_X9_anew {l : Launch} {D : va_G} {q : Nat → Nat} {ar : Ar}  (S : St) {res : St} (h : m_X9_anew  S = some res) : MetV l D q ar WX yX9_anew cX9_anew 1 none rm_X9_anew [.ref (q 0)] S res := by
  refine metV_of adrX (by decide +kernel) (Nat.le_of_ble_eq_true rfl) (fun x e1 e2 e3 e4 C => ?_)
  subst e1; subst e2; subst e3; subst e4
  exact v_sub [0] rfl (t_X9_anew_0 C  S h)
theorem mf_X9_anew : CalV yX9_anew cX9_anew 1 none RX9 0 := ⟨w_14_21, w_14_19, w_14_20, w_1_2, rfl, by decide +kernel, by decide +kernel, by decide +kernel⟩
/-! LabyrinthGarden.junction -/
def f_X9_junction_0  (x1 : Int32) (S : St) : Option (Int32 × St) :=
  bI (m_X0_addJunction x1 S) fun r2 S1 =>
  some (r2, S1)
def m_X9_junction (a1 : Int32) (S : St) : Option (Int32 × St) := f_X9_junction_0 a1 S
def rm_X9_junction : Room := { frames := 2, cells := 0, slots := 0, locals := 44 }
set_option maxRecDepth 20000 in
set_option maxHeartbeats 2000000 in
theorem t_X9_junction_0 {x : Ctx} (C : Cx x WX cX9_junction RX9 2 rm_X9_junction (some .int)) {res : Int32 × St}  (x1 : Int32) (S : St) (h : f_X9_junction_0  x1 S = some res) : V x WX 2 (QI x WX res) S 0 [(0, .ref (xq x 0)), (1, .int x1)] [] := by
  unfold f_X9_junction_0 at h
  refine v_aload_n C 0 dX9_junction_0 rfl rfl (n := 1) rfl ?_
  refine g_X9_garden C w_2_0 dX9_junction_1 (n := 4) rfl ?_
  refine v_iload_n C 1 dX9_junction_4 rfl rfl (n := 5) rfl ?_
  obtain ⟨r2, S1, eS1, h⟩ := bI_e h
  refine v_callVI (As := [.int x1]) C (c_X0_addJunction x1 S eS1) mf_X0_addJunction w_15_21 (oX0 _ _ _) rfl ⟨rfl, rfl, by decide, by decide⟩ rfl rfl (Nat.le_of_ble_eq_true rfl) dX9_junction_5 (n := 8) rfl ?_
  obtain rfl := Option.some.inj h
  exact v_iret C dX9_junction_8
theorem c_X9_junction {l : Launch} {D : va_G} {q : Nat → Nat} {ar : Ar} (a1 : Int32) (S : St) {res : Int32 × St} (h : m_X9_junction a1 S = some res) : MetI l D q ar WX yX9_junction cX9_junction 2 (some .int) rm_X9_junction [.ref (q 0), .int a1] S res := by
  refine metI_of adrX (by decide +kernel) (Nat.le_of_ble_eq_true rfl) (fun x e1 e2 e3 e4 C => ?_)
  subst e1; subst e2; subst e3; subst e4
  exact v_sub [0, 1] rfl (t_X9_junction_0 C a1 S h)
theorem mf_X9_junction : CalV yX9_junction cX9_junction 2 (some .int) RX9 1 := ⟨w_15_20, w_15_18, w_15_19, w_1_2, rfl, by decide +kernel, by decide +kernel, by decide +kernel⟩
/-! LabyrinthGarden.path -/
def f_X9_path_0  (x1 : Int32) (x2 : Int32) (S : St) : Option (Int32 × St) :=
  bI (m_X0_addPath x1 x2 S) fun r2 S1 =>
  if r2 = (-1) then (
    some (r2, S1))
  else (
    bV (m_X6_forget  S1) fun S4 =>
    some (r2, S4))
def m_X9_path (a1 : Int32) (a2 : Int32) (S : St) : Option (Int32 × St) := f_X9_path_0 a1 a2 S
def rm_X9_path : Room := { frames := 2, cells := 0, slots := 0, locals := 47 }
set_option maxRecDepth 20000 in
set_option maxHeartbeats 2000000 in
theorem t_X9_path_0 {x : Ctx} (C : Cx x WX cX9_path RX9 4 rm_X9_path (some .int)) {res : Int32 × St}  (x1 : Int32) (x2 : Int32) (S : St) (h : f_X9_path_0  x1 x2 S = some res) : V x WX 4 (QI x WX res) S 0 [(0, .ref (xq x 0)), (1, .int x1), (2, .int x2)] [] := by
  unfold f_X9_path_0 at h
  refine v_aload_n C 0 dX9_path_0 rfl rfl (n := 1) rfl ?_
  refine g_X9_garden C w_2_0 dX9_path_1 (n := 4) rfl ?_
  refine v_iload_n C 1 dX9_path_4 rfl rfl (n := 5) rfl ?_
  refine v_iload_n C 2 dX9_path_5 rfl rfl (n := 6) rfl ?_
  obtain ⟨r2, S1, eS1, h⟩ := bI_e h
  refine v_callVI (As := [.int x1, .int x2]) C (c_X0_addPath x1 x2 S eS1) mf_X0_addPath w_16_9 (oX0 _ _ _) rfl ⟨rfl, rfl, by decide, by decide⟩ rfl rfl (Nat.le_of_ble_eq_true rfl) dX9_path_6 (n := 9) rfl ?_
  refine v_istore_n (L' := [(3, .int r2), (0, .ref (xq x 0)), (1, .int x1), (2, .int x2)]) C dX9_path_9 rfl (by decide) rfl (n := 10) rfl rfl ?_
  refine v_iload_n C 0 dX9_path_10 rfl rfl (n := 11) rfl ?_
  refine v_iconst (v := (-1)) C dX9_path_11 (by decide) (n := 12) rfl ?_
  refine v_icmp_eq C dX9_path_12 (t := 22) (by decide) (n := 15) rfl (fun c3 => ?_) (fun c3 => ?_)
  · have h := ite_p c3 h
    refine v_iload_n C 0 dX9_path_22 rfl rfl (n := 23) rfl ?_
    obtain rfl := Option.some.inj h
    exact v_iret C dX9_path_23
  · have h := ite_n c3 h
    refine v_aload_n C 1 dX9_path_15 rfl rfl (n := 16) rfl ?_
    refine g_X9_story C w_2_21 dX9_path_16 (n := 19) rfl ?_
    obtain ⟨S4, eS4, h⟩ := bV_e h
    refine v_callVV (As := []) C (c_X6_forget  S1 eS4) mf_X6_forget w_15_2 (oX6 _ _ _) rfl ⟨rfl, rfl, by decide, by decide⟩ rfl rfl (Nat.le_of_ble_eq_true rfl) dX9_path_19 (n := 22) rfl ?_
    refine v_iload_n C 0 dX9_path_22 rfl rfl (n := 23) rfl ?_
    obtain rfl := Option.some.inj h
    exact v_iret C dX9_path_23
theorem c_X9_path {l : Launch} {D : va_G} {q : Nat → Nat} {ar : Ar} (a1 : Int32) (a2 : Int32) (S : St) {res : Int32 × St} (h : m_X9_path a1 a2 S = some res) : MetI l D q ar WX yX9_path cX9_path 4 (some .int) rm_X9_path [.ref (q 0), .int a1, .int a2] S res := by
  refine metI_of adrX (by decide +kernel) (Nat.le_of_ble_eq_true rfl) (fun x e1 e2 e3 e4 C => ?_)
  subst e1; subst e2; subst e3; subst e4
  exact v_sub [0, 1, 2] rfl (t_X9_path_0 C a1 a2 S h)
theorem mf_X9_path : CalV yX9_path cX9_path 4 (some .int) RX9 2 := ⟨w_16_8, w_16_6, w_16_7, w_1_2, rfl, by decide +kernel, by decide +kernel, by decide +kernel⟩
/-! LabyrinthGarden.mark -/
def f_X9_mark_0  (x1 : Int32) (x2 : Int32) (S : St) : Option (Int32 × St) :=
  bI (m_X0_hasJunction x1 S) fun r2 S1 =>
  if r2 = 0 then (
    some (0, S1))
  else (
    bI (m_X9_withBit (rd S1 6 4) x1 x2 S1) fun r5 S4 =>
    lt (up S4 6 4 r5) fun S6 =>
    some (1, S6))
def m_X9_mark (a1 : Int32) (a2 : Int32) (S : St) : Option (Int32 × St) := f_X9_mark_0 a1 a2 S
def rm_X9_mark : Room := { frames := 1, cells := 0, slots := 0, locals := 22 }
set_option maxRecDepth 20000 in
set_option maxHeartbeats 2000000 in
theorem t_X9_mark_0 {x : Ctx} (C : Cx x WX cX9_mark RX9 3 rm_X9_mark (some .boolean)) {res : Int32 × St}  (x1 : Int32) (x2 : Int32) (S : St) (h : f_X9_mark_0  x1 x2 S = some res) : V x WX 3 (QI x WX res) S 0 [(0, .ref (xq x 0)), (1, .int x1), (2, .int x2)] [] := by
  unfold f_X9_mark_0 at h
  refine v_aload_n C 0 dX9_mark_0 rfl rfl (n := 1) rfl ?_
  refine g_X9_garden C w_2_0 dX9_mark_1 (n := 4) rfl ?_
  refine v_iload_n C 1 dX9_mark_4 rfl rfl (n := 5) rfl ?_
  obtain ⟨r2, S1, eS1, h⟩ := bI_e h
  refine v_callVI (As := [.int x1]) C (c_X0_hasJunction x1 S eS1) mf_X0_hasJunction w_17_14 (oX0 _ _ _) rfl ⟨rfl, rfl, by decide, by decide⟩ rfl rfl (Nat.le_of_ble_eq_true rfl) dX9_mark_5 (n := 8) rfl ?_
  refine v_if_ne C dX9_mark_8 (t := 13) (by decide) (n := 11) rfl (fun c3 => ?_) (fun c3 => ?_)
  · have h := ite_n c3 h
    refine v_aload_n C 0 dX9_mark_13 rfl rfl (n := 14) rfl ?_
    refine g_X9_garden C w_2_0 dX9_mark_14 (n := 17) rfl ?_
    refine v_aload_n C 0 dX9_mark_17 rfl rfl (n := 18) rfl ?_
    refine g_X9_garden C w_2_0 dX9_mark_18 (n := 21) rfl ?_
    refine g_X0_marks C w_17_13 dX9_mark_21 (n := 24) rfl ?_
    refine v_iload_n C 1 dX9_mark_24 rfl rfl (n := 25) rfl ?_
    refine v_iload_n C 2 dX9_mark_25 rfl rfl (n := 26) rfl ?_
    obtain ⟨r5, S4, eS4, h⟩ := bI_e h
    refine v_callSI (As := [.int (rd S1 6 4), .int x1, .int x2]) C (c_X9_withBit (rd S1 6 4) x1 x2 S1 eS4) mf_X9_withBit w_17_15 ⟨rfl, rfl, by decide, by decide⟩ rfl rfl (Nat.le_of_ble_eq_true rfl) dX9_mark_26 (n := 29) rfl ?_
    obtain ⟨S6, eS6, h⟩ := lt_e h
    refine p_X0_marks C w_17_13 dX9_mark_29 (n := 32) rfl eS6 ?_
    refine v_iconst (v := 1) C dX9_mark_32 (by decide) (n := 33) rfl ?_
    obtain rfl := Option.some.inj h
    exact v_zret C (Or.inr rfl) dX9_mark_33
  · have h := ite_p c3 h
    refine v_iconst (v := 0) C dX9_mark_11 (by decide) (n := 12) rfl ?_
    obtain rfl := Option.some.inj h
    exact v_zret C (Or.inl rfl) dX9_mark_12
theorem c_X9_mark {l : Launch} {D : va_G} {q : Nat → Nat} {ar : Ar} (a1 : Int32) (a2 : Int32) (S : St) {res : Int32 × St} (h : m_X9_mark a1 a2 S = some res) : MetI l D q ar WX yX9_mark cX9_mark 3 (some .boolean) rm_X9_mark [.ref (q 0), .int a1, .int a2] S res := by
  refine metI_of adrX (by decide +kernel) (Nat.le_of_ble_eq_true rfl) (fun x e1 e2 e3 e4 C => ?_)
  subst e1; subst e2; subst e3; subst e4
  exact v_sub [0, 1, 2] rfl (t_X9_mark_0 C a1 a2 S h)
theorem mf_X9_mark : CalV yX9_mark cX9_mark 3 (some .boolean) RX9 2 := ⟨w_17_12, w_17_10, w_17_11, w_1_2, rfl, by decide +kernel, by decide +kernel, by decide +kernel⟩
/-! LabyrinthGarden.period -/
def f_X9_period_0  (x1 : Int32) (S : St) : Option (Int32 × St) :=
  if x1 < 1 then (
    some (0, S))
  else (
    if x1 ≤ 8 then (
      lt (up S 6 6 x1) fun S3 =>
      some (1, S3))
    else (
      some (0, S)))
def m_X9_period (a1 : Int32) (S : St) : Option (Int32 × St) := f_X9_period_0 a1 S
def rm_X9_period : Room := { frames := 0, cells := 0, slots := 0, locals := 0 }
set_option maxRecDepth 20000 in
set_option maxHeartbeats 2000000 in
theorem t_X9_period_0 {x : Ctx} (C : Cx x WX cX9_period RX9 2 rm_X9_period (some .boolean)) {res : Int32 × St}  (x1 : Int32) (S : St) (h : f_X9_period_0  x1 S = some res) : V x WX 2 (QI x WX res) S 0 [(0, .ref (xq x 0)), (1, .int x1)] [] := by
  unfold f_X9_period_0 at h
  refine v_iload_n C 1 dX9_period_0 rfl rfl (n := 1) rfl ?_
  refine v_iconst (v := 1) C dX9_period_1 (by decide) (n := 2) rfl ?_
  refine v_icmp_lt C dX9_period_2 (t := 11) (by decide) (n := 5) rfl (fun c1 => ?_) (fun c1 => ?_)
  · have h := ite_p c1 h
    refine v_iconst (v := 0) C dX9_period_11 (by decide) (n := 12) rfl ?_
    obtain rfl := Option.some.inj h
    exact v_zret C (Or.inl rfl) dX9_period_12
  · have h := ite_n c1 h
    refine v_iload_n C 1 dX9_period_5 rfl rfl (n := 6) rfl ?_
    refine v_bipush (v := 8) C dX9_period_6 (by decide) (n := 8) rfl ?_
    refine v_icmp_le C dX9_period_8 (t := 13) (by decide) (n := 11) rfl (fun c2 => ?_) (fun c2 => ?_)
    · have h := ite_p c2 h
      refine v_aload_n C 0 dX9_period_13 rfl rfl (n := 14) rfl ?_
      refine g_X9_garden C w_2_0 dX9_period_14 (n := 17) rfl ?_
      refine v_iload_n C 1 dX9_period_17 rfl rfl (n := 18) rfl ?_
      obtain ⟨S3, eS3, h⟩ := lt_e h
      refine p_X0_beats C w_18_0 dX9_period_18 (n := 21) rfl eS3 ?_
      refine v_iconst (v := 1) C dX9_period_21 (by decide) (n := 22) rfl ?_
      obtain rfl := Option.some.inj h
      exact v_zret C (Or.inr rfl) dX9_period_22
    · have h := ite_n c2 h
      refine v_iconst (v := 0) C dX9_period_11 (by decide) (n := 12) rfl ?_
      obtain rfl := Option.some.inj h
      exact v_zret C (Or.inl rfl) dX9_period_12
theorem c_X9_period {l : Launch} {D : va_G} {q : Nat → Nat} {ar : Ar} (a1 : Int32) (S : St) {res : Int32 × St} (h : m_X9_period a1 S = some res) : MetI l D q ar WX yX9_period cX9_period 2 (some .boolean) rm_X9_period [.ref (q 0), .int a1] S res := by
  refine metI_of adrX (by decide +kernel) (Nat.le_of_ble_eq_true rfl) (fun x e1 e2 e3 e4 C => ?_)
  subst e1; subst e2; subst e3; subst e4
  exact v_sub [0, 1] rfl (t_X9_period_0 C a1 S h)
theorem mf_X9_period : CalV yX9_period cX9_period 2 (some .boolean) RX9 1 := ⟨w_17_23, w_17_21, w_17_22, w_1_2, rfl, by decide +kernel, by decide +kernel, by decide +kernel⟩
/-! LabyrinthGarden.gate -/
def f_X9_gate_0  (x1 : Int32) (x2 : Int32) (S : St) : Option (Int32 × St) :=
  bI (m_X0_hasPath x1 S) fun r2 S1 =>
  if r2 = 0 then (
    some (0, S1))
  else (
    if x2 < 0 then (
      some (0, S1))
    else (
      if x2 ≤ 255 then (
        ck x1 12 <|
        lt (up S1 7 x1.toNatClampNeg x2) fun S7 =>
        some (1, S7))
      else (
        some (0, S1))))
def m_X9_gate (a1 : Int32) (a2 : Int32) (S : St) : Option (Int32 × St) := f_X9_gate_0 a1 a2 S
def rm_X9_gate : Room := { frames := 1, cells := 0, slots := 0, locals := 21 }
set_option maxRecDepth 20000 in
set_option maxHeartbeats 2000000 in
theorem t_X9_gate_0 {x : Ctx} (C : Cx x WX cX9_gate RX9 3 rm_X9_gate (some .boolean)) {res : Int32 × St}  (x1 : Int32) (x2 : Int32) (S : St) (h : f_X9_gate_0  x1 x2 S = some res) : V x WX 3 (QI x WX res) S 0 [(0, .ref (xq x 0)), (1, .int x1), (2, .int x2)] [] := by
  unfold f_X9_gate_0 at h
  refine v_aload_n C 0 dX9_gate_0 rfl rfl (n := 1) rfl ?_
  refine g_X9_garden C w_2_0 dX9_gate_1 (n := 4) rfl ?_
  refine v_iload_n C 1 dX9_gate_4 rfl rfl (n := 5) rfl ?_
  obtain ⟨r2, S1, eS1, h⟩ := bI_e h
  refine v_callVI (As := [.int x1]) C (c_X0_hasPath x1 S eS1) mf_X0_hasPath w_18_10 (oX0 _ _ _) rfl ⟨rfl, rfl, by decide, by decide⟩ rfl rfl (Nat.le_of_ble_eq_true rfl) dX9_gate_5 (n := 8) rfl ?_
  refine v_if_eq C dX9_gate_8 (t := 22) (by decide) (n := 11) rfl (fun c3 => ?_) (fun c3 => ?_)
  · have h := ite_p c3 h
    refine v_iconst (v := 0) C dX9_gate_22 (by decide) (n := 23) rfl ?_
    obtain rfl := Option.some.inj h
    exact v_zret C (Or.inl rfl) dX9_gate_23
  · have h := ite_n c3 h
    refine v_iload_n C 2 dX9_gate_11 rfl rfl (n := 12) rfl ?_
    refine v_if_lt C dX9_gate_12 (t := 22) (by decide) (n := 15) rfl (fun c4 => ?_) (fun c4 => ?_)
    · have h := ite_p c4 h
      refine v_iconst (v := 0) C dX9_gate_22 (by decide) (n := 23) rfl ?_
      obtain rfl := Option.some.inj h
      exact v_zret C (Or.inl rfl) dX9_gate_23
    · have h := ite_n c4 h
      refine v_iload_n C 2 dX9_gate_15 rfl rfl (n := 16) rfl ?_
      refine v_sipush (v := 255) C dX9_gate_16 (by decide) (n := 19) rfl ?_
      refine v_icmp_le C dX9_gate_19 (t := 24) (by decide) (n := 22) rfl (fun c5 => ?_) (fun c5 => ?_)
      · have h := ite_p c5 h
        refine v_aload_n C 0 dX9_gate_24 rfl rfl (n := 25) rfl ?_
        refine g_X9_garden C w_2_0 dX9_gate_25 (n := 28) rfl ?_
        refine g_X0_gates C w_18_9 dX9_gate_28 (n := 31) rfl ?_
        refine v_iload_n C 1 dX9_gate_31 rfl rfl (n := 32) rfl ?_
        refine v_iload_n C 2 dX9_gate_32 rfl rfl (n := 33) rfl ?_
        obtain ⟨hi6, h⟩ := ck_e h
        obtain ⟨S7, eS7, h⟩ := lt_e h
        refine v_ast C aX_7 hi6 dX9_gate_33 (n := 34) rfl eS7 ?_
        refine v_iconst (v := 1) C dX9_gate_34 (by decide) (n := 35) rfl ?_
        obtain rfl := Option.some.inj h
        exact v_zret C (Or.inr rfl) dX9_gate_35
      · have h := ite_n c5 h
        refine v_iconst (v := 0) C dX9_gate_22 (by decide) (n := 23) rfl ?_
        obtain rfl := Option.some.inj h
        exact v_zret C (Or.inl rfl) dX9_gate_23
theorem c_X9_gate {l : Launch} {D : va_G} {q : Nat → Nat} {ar : Ar} (a1 : Int32) (a2 : Int32) (S : St) {res : Int32 × St} (h : m_X9_gate a1 a2 S = some res) : MetI l D q ar WX yX9_gate cX9_gate 3 (some .boolean) rm_X9_gate [.ref (q 0), .int a1, .int a2] S res := by
  refine metI_of adrX (by decide +kernel) (Nat.le_of_ble_eq_true rfl) (fun x e1 e2 e3 e4 C => ?_)
  subst e1; subst e2; subst e3; subst e4
  exact v_sub [0, 1, 2] rfl (t_X9_gate_0 C a1 a2 S h)
theorem mf_X9_gate : CalV yX9_gate cX9_gate 3 (some .boolean) RX9 2 := ⟨w_18_8, w_18_6, w_18_7, w_1_2, rfl, by decide +kernel, by decide +kernel, by decide +kernel⟩
/-! LabyrinthGarden.shut -/
def f_X9_shut_0  (x1 : Int32) (x2 : Int32) (S : St) : Option (Int32 × St) :=
  bI (m_X0_hasPath x1 S) fun r2 S1 =>
  if r2 = 0 then (
    some (0, S1))
  else (
    bI (m_X9_withBit (rd S1 6 5) x1 x2 S1) fun r5 S4 =>
    lt (up S4 6 5 r5) fun S6 =>
    some (1, S6))
def m_X9_shut (a1 : Int32) (a2 : Int32) (S : St) : Option (Int32 × St) := f_X9_shut_0 a1 a2 S
def rm_X9_shut : Room := { frames := 1, cells := 0, slots := 0, locals := 22 }
set_option maxRecDepth 20000 in
set_option maxHeartbeats 2000000 in
theorem t_X9_shut_0 {x : Ctx} (C : Cx x WX cX9_shut RX9 3 rm_X9_shut (some .boolean)) {res : Int32 × St}  (x1 : Int32) (x2 : Int32) (S : St) (h : f_X9_shut_0  x1 x2 S = some res) : V x WX 3 (QI x WX res) S 0 [(0, .ref (xq x 0)), (1, .int x1), (2, .int x2)] [] := by
  unfold f_X9_shut_0 at h
  refine v_aload_n C 0 dX9_shut_0 rfl rfl (n := 1) rfl ?_
  refine g_X9_garden C w_2_0 dX9_shut_1 (n := 4) rfl ?_
  refine v_iload_n C 1 dX9_shut_4 rfl rfl (n := 5) rfl ?_
  obtain ⟨r2, S1, eS1, h⟩ := bI_e h
  refine v_callVI (As := [.int x1]) C (c_X0_hasPath x1 S eS1) mf_X0_hasPath w_18_10 (oX0 _ _ _) rfl ⟨rfl, rfl, by decide, by decide⟩ rfl rfl (Nat.le_of_ble_eq_true rfl) dX9_shut_5 (n := 8) rfl ?_
  refine v_if_ne C dX9_shut_8 (t := 13) (by decide) (n := 11) rfl (fun c3 => ?_) (fun c3 => ?_)
  · have h := ite_n c3 h
    refine v_aload_n C 0 dX9_shut_13 rfl rfl (n := 14) rfl ?_
    refine g_X9_garden C w_2_0 dX9_shut_14 (n := 17) rfl ?_
    refine v_aload_n C 0 dX9_shut_17 rfl rfl (n := 18) rfl ?_
    refine g_X9_garden C w_2_0 dX9_shut_18 (n := 21) rfl ?_
    refine g_X0_shuts C w_19_2 dX9_shut_21 (n := 24) rfl ?_
    refine v_iload_n C 1 dX9_shut_24 rfl rfl (n := 25) rfl ?_
    refine v_iload_n C 2 dX9_shut_25 rfl rfl (n := 26) rfl ?_
    obtain ⟨r5, S4, eS4, h⟩ := bI_e h
    refine v_callSI (As := [.int (rd S1 6 5), .int x1, .int x2]) C (c_X9_withBit (rd S1 6 5) x1 x2 S1 eS4) mf_X9_withBit w_17_15 ⟨rfl, rfl, by decide, by decide⟩ rfl rfl (Nat.le_of_ble_eq_true rfl) dX9_shut_26 (n := 29) rfl ?_
    obtain ⟨S6, eS6, h⟩ := lt_e h
    refine p_X0_shuts C w_19_2 dX9_shut_29 (n := 32) rfl eS6 ?_
    refine v_iconst (v := 1) C dX9_shut_32 (by decide) (n := 33) rfl ?_
    obtain rfl := Option.some.inj h
    exact v_zret C (Or.inr rfl) dX9_shut_33
  · have h := ite_p c3 h
    refine v_iconst (v := 0) C dX9_shut_11 (by decide) (n := 12) rfl ?_
    obtain rfl := Option.some.inj h
    exact v_zret C (Or.inl rfl) dX9_shut_12
theorem c_X9_shut {l : Launch} {D : va_G} {q : Nat → Nat} {ar : Ar} (a1 : Int32) (a2 : Int32) (S : St) {res : Int32 × St} (h : m_X9_shut a1 a2 S = some res) : MetI l D q ar WX yX9_shut cX9_shut 3 (some .boolean) rm_X9_shut [.ref (q 0), .int a1, .int a2] S res := by
  refine metI_of adrX (by decide +kernel) (Nat.le_of_ble_eq_true rfl) (fun x e1 e2 e3 e4 C => ?_)
  subst e1; subst e2; subst e3; subst e4
  exact v_sub [0, 1, 2] rfl (t_X9_shut_0 C a1 a2 S h)
theorem mf_X9_shut : CalV yX9_shut cX9_shut 3 (some .boolean) RX9 2 := ⟨w_19_1, w_18_23, w_19_0, w_1_2, rfl, by decide +kernel, by decide +kernel, by decide +kernel⟩
/-! LabyrinthGarden.place -/
def f_X9_place_0  (x1 : Int32) (x2 : Int32) (S : St) : Option (Int32 × St) :=
  bI (m_X0_placeOf x1 x2 S) fun r2 S1 =>
  some (r2, S1)
def m_X9_place (a1 : Int32) (a2 : Int32) (S : St) : Option (Int32 × St) := f_X9_place_0 a1 a2 S
def rm_X9_place : Room := { frames := 2, cells := 0, slots := 0, locals := 43 }
set_option maxRecDepth 20000 in
set_option maxHeartbeats 2000000 in
theorem t_X9_place_0 {x : Ctx} (C : Cx x WX cX9_place RX9 3 rm_X9_place (some .int)) {res : Int32 × St}  (x1 : Int32) (x2 : Int32) (S : St) (h : f_X9_place_0  x1 x2 S = some res) : V x WX 3 (QI x WX res) S 0 [(0, .ref (xq x 0)), (1, .int x1), (2, .int x2)] [] := by
  unfold f_X9_place_0 at h
  refine v_aload_n C 0 dX9_place_0 rfl rfl (n := 1) rfl ?_
  refine g_X9_garden C w_2_0 dX9_place_1 (n := 4) rfl ?_
  refine v_iload_n C 1 dX9_place_4 rfl rfl (n := 5) rfl ?_
  refine v_iload_n C 2 dX9_place_5 rfl rfl (n := 6) rfl ?_
  obtain ⟨r2, S1, eS1, h⟩ := bI_e h
  refine v_callVI (As := [.int x1, .int x2]) C (c_X0_placeOf x1 x2 S eS1) mf_X0_placeOf w_19_11 (oX0 _ _ _) rfl ⟨rfl, rfl, by decide, by decide⟩ rfl rfl (Nat.le_of_ble_eq_true rfl) dX9_place_6 (n := 9) rfl ?_
  obtain rfl := Option.some.inj h
  exact v_iret C dX9_place_9
theorem c_X9_place {l : Launch} {D : va_G} {q : Nat → Nat} {ar : Ar} (a1 : Int32) (a2 : Int32) (S : St) {res : Int32 × St} (h : m_X9_place a1 a2 S = some res) : MetI l D q ar WX yX9_place cX9_place 3 (some .int) rm_X9_place [.ref (q 0), .int a1, .int a2] S res := by
  refine metI_of adrX (by decide +kernel) (Nat.le_of_ble_eq_true rfl) (fun x e1 e2 e3 e4 C => ?_)
  subst e1; subst e2; subst e3; subst e4
  exact v_sub [0, 1, 2] rfl (t_X9_place_0 C a1 a2 S h)
theorem mf_X9_place : CalV yX9_place cX9_place 3 (some .int) RX9 2 := ⟨w_19_10, w_19_8, w_19_9, w_1_2, rfl, by decide +kernel, by decide +kernel, by decide +kernel⟩
/-! LabyrinthGarden.walk -/
def f_X9_walk_0  (x1 : Int32) (S : St) : Option (Int32 × St) :=
  if (rd S (rs (rd S 0 8)) 3) = 0 then (
    some ((-1), S))
  else (
    bI (m_X0_hasPlace x1 S) fun r3 S2 =>
    if r3 = 0 then (
      some ((-1), S2))
    else (
      bV (m_X8_prepare (rs (rd S2 0 8)) S2) fun S5 =>
      bI (m_X8_comesOut x1 (rd S5 6 4) 0 S5) fun r7 S6 =>
      bI (m_X4_take r7 S6) fun r9 S8 =>
      some (r9, S8)))
def m_X9_walk (a1 : Int32) (S : St) : Option (Int32 × St) := f_X9_walk_0 a1 S
def rm_X9_walk : Room := { frames := 4, cells := 0, slots := 0, locals := 90 }
set_option maxRecDepth 20000 in
set_option maxHeartbeats 2000000 in
theorem t_X9_walk_0 {x : Ctx} (C : Cx x WX cX9_walk RX9 3 rm_X9_walk (some .int)) {res : Int32 × St}  (x1 : Int32) (S : St) (h : f_X9_walk_0  x1 S = some res) : V x WX 3 (QI x WX res) S 0 [(0, .ref (xq x 0)), (1, .int x1)] [] := by
  unfold f_X9_walk_0 at h
  refine v_aload_n C 0 dX9_walk_0 rfl rfl (n := 1) rfl ?_
  refine g_X9_rulesInUse C w_2_4 dX9_walk_1 (n := 4) rfl ?_
  refine g_X5_lines (rs_ok _) C w_9_12 dX9_walk_4 (n := 7) rfl ?_
  refine v_if_eq C dX9_walk_7 (t := 21) (by decide) (n := 10) rfl (fun c1 => ?_) (fun c1 => ?_)
  · have h := ite_p c1 h
    refine v_iconst (v := (-1)) C dX9_walk_21 (by decide) (n := 22) rfl ?_
    obtain rfl := Option.some.inj h
    exact v_iret C dX9_walk_22
  · have h := ite_n c1 h
    refine v_aload_n C 0 dX9_walk_10 rfl rfl (n := 11) rfl ?_
    refine g_X9_garden C w_2_0 dX9_walk_11 (n := 14) rfl ?_
    refine v_iload_n C 1 dX9_walk_14 rfl rfl (n := 15) rfl ?_
    obtain ⟨r3, S2, eS2, h⟩ := bI_e h
    refine v_callVI (As := [.int x1]) C (c_X0_hasPlace x1 S eS2) mf_X0_hasPlace w_19_23 (oX0 _ _ _) rfl ⟨rfl, rfl, by decide, by decide⟩ rfl rfl (Nat.le_of_ble_eq_true rfl) dX9_walk_15 (n := 18) rfl ?_
    refine v_if_ne C dX9_walk_18 (t := 23) (by decide) (n := 21) rfl (fun c4 => ?_) (fun c4 => ?_)
    · have h := ite_n c4 h
      refine v_aload_n C 0 dX9_walk_23 rfl rfl (n := 24) rfl ?_
      refine g_X9_walker C w_2_9 dX9_walk_24 (n := 27) rfl ?_
      refine v_aload_n C 0 dX9_walk_27 rfl rfl (n := 28) rfl ?_
      refine g_X9_rulesInUse C w_2_4 dX9_walk_28 (n := 31) rfl ?_
      obtain ⟨S5, eS5, h⟩ := bV_e h
      refine v_callVV (As := [.ref (xq x (rs (rd S2 0 8)))]) C (c_X8_prepare (rs (rd S2 0 8)) S2 eS5) mf_X8_prepare w_20_3 (oX8 _ _ _) rfl ⟨rfl, rfl, by decide, by decide⟩ rfl rfl (Nat.le_of_ble_eq_true rfl) dX9_walk_31 (n := 34) rfl ?_
      refine v_aload_n C 0 dX9_walk_34 rfl rfl (n := 35) rfl ?_
      refine g_X9_walker C w_2_9 dX9_walk_35 (n := 38) rfl ?_
      refine v_iload_n C 1 dX9_walk_38 rfl rfl (n := 39) rfl ?_
      refine v_aload_n C 0 dX9_walk_39 rfl rfl (n := 40) rfl ?_
      refine g_X9_garden C w_2_0 dX9_walk_40 (n := 43) rfl ?_
      refine g_X0_marks C w_17_13 dX9_walk_43 (n := 46) rfl ?_
      refine v_iconst (v := 0) C dX9_walk_46 (by decide) (n := 47) rfl ?_
      obtain ⟨r7, S6, eS6, h⟩ := bI_e h
      refine v_callVI (As := [.int x1, .int (rd S5 6 4), .int 0]) C (c_X8_comesOut x1 (rd S5 6 4) 0 S5 eS6) mf_X8_comesOut w_20_16 (oX8 _ _ _) rfl ⟨rfl, rfl, by decide, by decide⟩ rfl rfl (Nat.le_of_ble_eq_true rfl) dX9_walk_47 (n := 50) rfl ?_
      refine v_istore_n (L' := [(2, .int r7), (0, .ref (xq x 0)), (1, .int x1)]) C dX9_walk_50 rfl (by decide) rfl (n := 51) rfl rfl ?_
      refine v_aload_n C 1 dX9_walk_51 rfl rfl (n := 52) rfl ?_
      refine g_X9_report C w_2_13 dX9_walk_52 (n := 55) rfl ?_
      refine v_aload_n C 1 dX9_walk_55 rfl rfl (n := 56) rfl ?_
      refine g_X9_walker C w_2_9 dX9_walk_56 (n := 59) rfl ?_
      refine v_iload_n C 0 dX9_walk_59 rfl rfl (n := 60) rfl ?_
      obtain ⟨r9, S8, eS8, h⟩ := bI_e h
      refine v_callVI (As := [.ref (xq x 24), .int r7]) C (c_X4_take r7 S6 eS8) mf_X4_take w_22_0 (oX4 _ _ _) rfl ⟨rfl, rfl, by decide, by decide⟩ rfl rfl (Nat.le_of_ble_eq_true rfl) dX9_walk_60 (n := 63) rfl ?_
      obtain rfl := Option.some.inj h
      exact v_iret C dX9_walk_63
    · have h := ite_p c4 h
      refine v_iconst (v := (-1)) C dX9_walk_21 (by decide) (n := 22) rfl ?_
      obtain rfl := Option.some.inj h
      exact v_iret C dX9_walk_22
theorem c_X9_walk {l : Launch} {D : va_G} {q : Nat → Nat} {ar : Ar} (a1 : Int32) (S : St) {res : Int32 × St} (h : m_X9_walk a1 S = some res) : MetI l D q ar WX yX9_walk cX9_walk 3 (some .int) rm_X9_walk [.ref (q 0), .int a1] S res := by
  refine metI_of adrX (by decide +kernel) (Nat.le_of_ble_eq_true rfl) (fun x e1 e2 e3 e4 C => ?_)
  subst e1; subst e2; subst e3; subst e4
  exact v_sub [0, 1] rfl (t_X9_walk_0 C a1 S h)
theorem mf_X9_walk : CalV yX9_walk cX9_walk 3 (some .int) RX9 1 := ⟨w_19_22, w_19_20, w_19_21, w_1_2, rfl, by decide +kernel, by decide +kernel, by decide +kernel⟩
/-! LabyrinthGarden.walked -/
def f_X9_walked_0  (x1 : Int32) (S : St) : Option (Int32 × St) :=
  if x1 < 0 then (
    some ((-1), S))
  else (
    if x1 < 6 then (
      ck x1 6 <|
      some ((rd S 28 x1.toNatClampNeg), S))
    else (
      some ((-1), S)))
def m_X9_walked (a1 : Int32) (S : St) : Option (Int32 × St) := f_X9_walked_0 a1 S
def rm_X9_walked : Room := { frames := 0, cells := 0, slots := 0, locals := 0 }
set_option maxRecDepth 20000 in
set_option maxHeartbeats 2000000 in
theorem t_X9_walked_0 {x : Ctx} (C : Cx x WX cX9_walked RX9 2 rm_X9_walked (some .int)) {res : Int32 × St}  (x1 : Int32) (S : St) (h : f_X9_walked_0  x1 S = some res) : V x WX 2 (QI x WX res) S 0 [(0, .ref (xq x 0)), (1, .int x1)] [] := by
  unfold f_X9_walked_0 at h
  refine v_iload_n C 1 dX9_walked_0 rfl rfl (n := 1) rfl ?_
  refine v_if_lt C dX9_walked_1 (t := 10) (by decide) (n := 4) rfl (fun c1 => ?_) (fun c1 => ?_)
  · have h := ite_p c1 h
    refine v_iconst (v := (-1)) C dX9_walked_10 (by decide) (n := 11) rfl ?_
    refine v_goto C dX9_walked_11 (n := 23) (by decide) ?_
    obtain rfl := Option.some.inj h
    exact v_iret C dX9_walked_23
  · have h := ite_n c1 h
    refine v_iload_n C 1 dX9_walked_4 rfl rfl (n := 5) rfl ?_
    refine v_bipush (v := 6) C dX9_walked_5 (by decide) (n := 7) rfl ?_
    refine v_icmp_lt C dX9_walked_7 (t := 14) (by decide) (n := 10) rfl (fun c2 => ?_) (fun c2 => ?_)
    · have h := ite_p c2 h
      refine v_aload_n C 0 dX9_walked_14 rfl rfl (n := 15) rfl ?_
      refine g_X9_report C w_2_13 dX9_walked_15 (n := 18) rfl ?_
      refine g_X4_rows C w_24_6 dX9_walked_18 (n := 21) rfl ?_
      refine v_iload_n C 1 dX9_walked_21 rfl rfl (n := 22) rfl ?_
      obtain ⟨hi3, h⟩ := ck_e h
      refine v_ald C aX_28 hi3 dX9_walked_22 (n := 23) rfl ?_
      obtain rfl := Option.some.inj h
      exact v_iret C dX9_walked_23
    · have h := ite_n c2 h
      refine v_iconst (v := (-1)) C dX9_walked_10 (by decide) (n := 11) rfl ?_
      refine v_goto C dX9_walked_11 (n := 23) (by decide) ?_
      obtain rfl := Option.some.inj h
      exact v_iret C dX9_walked_23
theorem c_X9_walked {l : Launch} {D : va_G} {q : Nat → Nat} {ar : Ar} (a1 : Int32) (S : St) {res : Int32 × St} (h : m_X9_walked a1 S = some res) : MetI l D q ar WX yX9_walked cX9_walked 2 (some .int) rm_X9_walked [.ref (q 0), .int a1] S res := by
  refine metI_of adrX (by decide +kernel) (Nat.le_of_ble_eq_true rfl) (fun x e1 e2 e3 e4 C => ?_)
  subst e1; subst e2; subst e3; subst e4
  exact v_sub [0, 1] rfl (t_X9_walked_0 C a1 S h)
theorem mf_X9_walked : CalV yX9_walked cX9_walked 2 (some .int) RX9 1 := ⟨w_24_5, w_24_3, w_24_4, w_1_2, rfl, by decide +kernel, by decide +kernel, by decide +kernel⟩
/-! LabyrinthGarden.lost -/
def f_X9_lost_29 (k29 : Int64 → Int32 → St → Option (Int64 × St)) (x1 : Int64) (x3 : Int32) (S : St) : Option (Int64 × St) :=
  if (rd S 6 2) ≤ x3 then (
    some (x1, S))
  else (
    bI (m_X8_comesOut x3 (rd S 6 4) 0 S) fun r3 S2 =>
    if r3 = 0 then (
      lt ((x1 ||| (lshl 1 x3)) : Int64) fun y6 =>
      lt (x3 + 1 : Int32) fun y7 =>
      k29 y6 y7 S2)
    else (
      lt (x3 + 1 : Int32) fun y5 =>
      k29 x1 y5 S2))
def g_X9_lost_29  : Nat → Int64 → Int32 → St → Option (Int64 × St)
  | 0 => fun _ _ _ => none
  | n + 1 => f_X9_lost_29 (g_X9_lost_29  n)
def f_X9_lost_0   (S : St) : Option (Int64 × St) :=
  if (rd S (rs (rd S 0 8)) 3) = 0 then (
    some ((-1), S))
  else (
    bV (m_X8_prepare (rs (rd S 0 8)) S) fun S2 =>
    g_X9_lost_29  fuel 0 0 S2)
def m_X9_lost  (S : St) : Option (Int64 × St) := f_X9_lost_0  S
def rm_X9_lost : Room := { frames := 4, cells := 0, slots := 0, locals := 90 }
set_option maxRecDepth 20000 in
set_option maxHeartbeats 2000000 in
theorem t_X9_lost_29 {x : Ctx} (C : Cx x WX cX9_lost RX9 4 rm_X9_lost (some .long)) {res : Int64 × St} {k29 : Int64 → Int32 → St → Option (Int64 × St)} (hk29 : ∀ (x1 : Int64) (x3 : Int32) (S : St), k29 x1 x3 S = some res → V x WX 4 (QL x WX res) S 29 [(0, .ref (xq x 0)), (1, .long x1), (3, .int x3)] []) (x1 : Int64) (x3 : Int32) (S : St) (h : f_X9_lost_29 k29 x1 x3 S = some res) : V x WX 4 (QL x WX res) S 29 [(0, .ref (xq x 0)), (1, .long x1), (3, .int x3)] [] := by
  unfold f_X9_lost_29 at h
  refine v_iload_n C 2 dX9_lost_29 rfl rfl (n := 30) rfl ?_
  refine v_aload_n C 0 dX9_lost_30 rfl rfl (n := 31) rfl ?_
  refine g_X9_garden C w_2_0 dX9_lost_31 (n := 34) rfl ?_
  refine g_X0_places C w_24_16 dX9_lost_34 (n := 37) rfl ?_
  refine v_icmp_ge C dX9_lost_37 (t := 71) (by decide) (n := 40) rfl (fun c1 => ?_) (fun c1 => ?_)
  · have h := ite_p c1 h
    refine v_lload_n C 1 dX9_lost_71 rfl rfl (n := 72) rfl ?_
    obtain rfl := Option.some.inj h
    exact v_lret C dX9_lost_72
  · have h := ite_n c1 h
    refine v_aload_n C 0 dX9_lost_40 rfl rfl (n := 41) rfl ?_
    refine g_X9_walker C w_2_9 dX9_lost_41 (n := 44) rfl ?_
    refine v_iload_n C 2 dX9_lost_44 rfl rfl (n := 45) rfl ?_
    refine v_aload_n C 0 dX9_lost_45 rfl rfl (n := 46) rfl ?_
    refine g_X9_garden C w_2_0 dX9_lost_46 (n := 49) rfl ?_
    refine g_X0_marks C w_17_13 dX9_lost_49 (n := 52) rfl ?_
    refine v_iconst (v := 0) C dX9_lost_52 (by decide) (n := 53) rfl ?_
    obtain ⟨r3, S2, eS2, h⟩ := bI_e h
    refine v_callVI (As := [.int x3, .int (rd S 6 4), .int 0]) C (c_X8_comesOut x3 (rd S 6 4) 0 S eS2) mf_X8_comesOut w_20_16 (oX8 _ _ _) rfl ⟨rfl, rfl, by decide, by decide⟩ rfl rfl (Nat.le_of_ble_eq_true rfl) dX9_lost_53 (n := 56) rfl ?_
    refine v_if_ne C dX9_lost_56 (t := 65) (by decide) (n := 59) rfl (fun c4 => ?_) (fun c4 => ?_)
    · have h := ite_n c4 h
      obtain ⟨y5, ey5, h⟩ := lt_e h
      refine v_iinc (L' := [(3, .int y5), (0, .ref (xq x 0)), (1, .long x1)]) C 2 dX9_lost_65 rfl (by rw [ey5]; rfl) (by decide) rfl (n := 68) rfl ?_
      refine v_goto C dX9_lost_68 (n := 29) (by decide) ?_
      refine v_sub [1, 2, 0] rfl ?_
      exact hk29 x1 y5 S2 h
    · have h := ite_p c4 h
      refine v_lload_n C 1 dX9_lost_59 rfl rfl (n := 60) rfl ?_
      refine v_lconst (v := 1) C dX9_lost_60 (by decide) (n := 61) rfl ?_
      refine v_iload_n C 2 dX9_lost_61 rfl rfl (n := 62) rfl ?_
      refine v_lshl C dX9_lost_62 (n := 63) rfl ?_
      refine v_lor C dX9_lost_63 (n := 64) rfl ?_
      obtain ⟨y6, ey6, h⟩ := lt_e h
      refine v_lstore_n (L' := [(1, .long y6), (0, .ref (xq x 0)), (3, .int x3)]) C dX9_lost_64 rfl (by decide) rfl (n := 65) rfl ey6 ?_
      obtain ⟨y7, ey7, h⟩ := lt_e h
      refine v_iinc (L' := [(3, .int y7), (1, .long y6), (0, .ref (xq x 0))]) C 2 dX9_lost_65 rfl (by rw [ey7]; rfl) (by decide) rfl (n := 68) rfl ?_
      refine v_goto C dX9_lost_68 (n := 29) (by decide) ?_
      refine v_sub [2, 1, 0] rfl ?_
      exact hk29 y6 y7 S2 h
theorem tg_X9_lost_29 {x : Ctx} (C : Cx x WX cX9_lost RX9 4 rm_X9_lost (some .long)) {res : Int64 × St}  : ∀ (n : Nat) (x1 : Int64) (x3 : Int32) (S : St), g_X9_lost_29  n x1 x3 S = some res → V x WX 4 (QL x WX res) S 29 [(0, .ref (xq x 0)), (1, .long x1), (3, .int x3)] [] := by
  intro n
  induction n with
  | zero => intro x1 x3 S h; cases h
  | succ n ih => intro x1 x3 S h; exact t_X9_lost_29 C (fun x1 x3 S h => ih x1 x3 S h) x1 x3 S h
set_option maxRecDepth 20000 in
set_option maxHeartbeats 2000000 in
theorem t_X9_lost_0 {x : Ctx} (C : Cx x WX cX9_lost RX9 4 rm_X9_lost (some .long)) {res : Int64 × St}   (S : St) (h : f_X9_lost_0   S = some res) : V x WX 4 (QL x WX res) S 0 [(0, .ref (xq x 0))] [] := by
  unfold f_X9_lost_0 at h
  refine v_aload_n C 0 dX9_lost_0 rfl rfl (n := 1) rfl ?_
  refine g_X9_rulesInUse C w_2_4 dX9_lost_1 (n := 4) rfl ?_
  refine g_X5_lines (rs_ok _) C w_9_12 dX9_lost_4 (n := 7) rfl ?_
  refine v_if_ne C dX9_lost_7 (t := 14) (by decide) (n := 10) rfl (fun c1 => ?_) (fun c1 => ?_)
  · have h := ite_n c1 h
    refine v_aload_n C 0 dX9_lost_14 rfl rfl (n := 15) rfl ?_
    refine g_X9_walker C w_2_9 dX9_lost_15 (n := 18) rfl ?_
    refine v_aload_n C 0 dX9_lost_18 rfl rfl (n := 19) rfl ?_
    refine g_X9_rulesInUse C w_2_4 dX9_lost_19 (n := 22) rfl ?_
    obtain ⟨S2, eS2, h⟩ := bV_e h
    refine v_callVV (As := [.ref (xq x (rs (rd S 0 8)))]) C (c_X8_prepare (rs (rd S 0 8)) S eS2) mf_X8_prepare w_20_3 (oX8 _ _ _) rfl ⟨rfl, rfl, by decide, by decide⟩ rfl rfl (Nat.le_of_ble_eq_true rfl) dX9_lost_22 (n := 25) rfl ?_
    refine v_lconst (v := 0) C dX9_lost_25 (by decide) (n := 26) rfl ?_
    refine v_lstore_n (L' := [(1, .long 0), (0, .ref (xq x 0))]) C dX9_lost_26 rfl (by decide) rfl (n := 27) rfl rfl ?_
    refine v_iconst (v := 0) C dX9_lost_27 (by decide) (n := 28) rfl ?_
    refine v_istore_n (L' := [(3, .int 0), (1, .long 0), (0, .ref (xq x 0))]) C dX9_lost_28 rfl (by decide) rfl (n := 29) rfl rfl ?_
    refine v_sub [2, 1, 0] rfl ?_
    exact tg_X9_lost_29 C  fuel 0 0 S2 h
  · have h := ite_p c1 h
    refine v_ldc2 (v := (-1)) C w_24_15 dX9_lost_10 (n := 13) rfl ?_
    obtain rfl := Option.some.inj h
    exact v_lret C dX9_lost_13
theorem c_X9_lost {l : Launch} {D : va_G} {q : Nat → Nat} {ar : Ar}  (S : St) {res : Int64 × St} (h : m_X9_lost  S = some res) : MetL l D q ar WX yX9_lost cX9_lost 4 (some .long) rm_X9_lost [.ref (q 0)] S res := by
  refine metL_of adrX (by decide +kernel) (Nat.le_of_ble_eq_true rfl) (fun x e1 e2 e3 e4 C => ?_)
  subst e1; subst e2; subst e3; subst e4
  exact v_sub [0] rfl (t_X9_lost_0 C  S h)
theorem mf_X9_lost : CalV yX9_lost cX9_lost 4 (some .long) RX9 0 := ⟨w_24_14, w_24_12, w_24_13, w_1_2, rfl, by decide +kernel, by decide +kernel, by decide +kernel⟩
/-! LabyrinthGarden.help -/
def f_X9_help_21  (x1 : Int32) (S : St) : Option (Int32 × St) :=
  bV (m_X8_prepare (rs (rd S 0 8)) S) fun S1 =>
  bI (m_X1_seek x1 S1) fun r3 S2 =>
  some (r3, S2)
def f_X9_help_0  (x1 : Int32) (S : St) : Option (Int32 × St) :=
  if (rd S (rs (rd S 0 8)) 3) = 0 then (
    some ((-1), S))
  else (
    if x1 = 0 then (
      f_X9_help_21  x1 S)
    else (
      if x1 = 1 then (
        f_X9_help_21  x1 S)
      else (
        some ((-1), S))))
def m_X9_help (a1 : Int32) (S : St) : Option (Int32 × St) := f_X9_help_0 a1 S
def rm_X9_help : Room := { frames := 6, cells := 0, slots := 0, locals := 155 }
set_option maxRecDepth 20000 in
set_option maxHeartbeats 2000000 in
theorem t_X9_help_21 {x : Ctx} (C : Cx x WX cX9_help RX9 2 rm_X9_help (some .int)) {res : Int32 × St}  (x1 : Int32) (S : St) (h : f_X9_help_21  x1 S = some res) : V x WX 2 (QI x WX res) S 21 [(0, .ref (xq x 0)), (1, .int x1)] [] := by
  unfold f_X9_help_21 at h
  refine v_aload_n C 0 dX9_help_21 rfl rfl (n := 22) rfl ?_
  refine g_X9_walker C w_2_9 dX9_help_22 (n := 25) rfl ?_
  refine v_aload_n C 0 dX9_help_25 rfl rfl (n := 26) rfl ?_
  refine g_X9_rulesInUse C w_2_4 dX9_help_26 (n := 29) rfl ?_
  obtain ⟨S1, eS1, h⟩ := bV_e h
  refine v_callVV (As := [.ref (xq x (rs (rd S 0 8)))]) C (c_X8_prepare (rs (rd S 0 8)) S eS1) mf_X8_prepare w_20_3 (oX8 _ _ _) rfl ⟨rfl, rfl, by decide, by decide⟩ rfl rfl (Nat.le_of_ble_eq_true rfl) dX9_help_29 (n := 32) rfl ?_
  refine v_aload_n C 0 dX9_help_32 rfl rfl (n := 33) rfl ?_
  refine g_X9_helper C w_2_17 dX9_help_33 (n := 36) rfl ?_
  refine v_iload_n C 1 dX9_help_36 rfl rfl (n := 37) rfl ?_
  obtain ⟨r3, S2, eS2, h⟩ := bI_e h
  refine v_callVI (As := [.int x1]) C (c_X1_seek x1 S1 eS2) mf_X1_seek w_25_2 (oX1 _ _ _) rfl ⟨rfl, rfl, by decide, by decide⟩ rfl rfl (Nat.le_of_ble_eq_true rfl) dX9_help_37 (n := 40) rfl ?_
  obtain rfl := Option.some.inj h
  exact v_iret C dX9_help_40
set_option maxRecDepth 20000 in
set_option maxHeartbeats 2000000 in
theorem t_X9_help_0 {x : Ctx} (C : Cx x WX cX9_help RX9 2 rm_X9_help (some .int)) {res : Int32 × St}  (x1 : Int32) (S : St) (h : f_X9_help_0  x1 S = some res) : V x WX 2 (QI x WX res) S 0 [(0, .ref (xq x 0)), (1, .int x1)] [] := by
  unfold f_X9_help_0 at h
  refine v_aload_n C 0 dX9_help_0 rfl rfl (n := 1) rfl ?_
  refine g_X9_rulesInUse C w_2_4 dX9_help_1 (n := 4) rfl ?_
  refine g_X5_lines (rs_ok _) C w_9_12 dX9_help_4 (n := 7) rfl ?_
  refine v_if_eq C dX9_help_7 (t := 19) (by decide) (n := 10) rfl (fun c1 => ?_) (fun c1 => ?_)
  · have h := ite_p c1 h
    refine v_iconst (v := (-1)) C dX9_help_19 (by decide) (n := 20) rfl ?_
    obtain rfl := Option.some.inj h
    exact v_iret C dX9_help_20
  · have h := ite_n c1 h
    refine v_iload_n C 1 dX9_help_10 rfl rfl (n := 11) rfl ?_
    refine v_if_eq C dX9_help_11 (t := 21) (by decide) (n := 14) rfl (fun c2 => ?_) (fun c2 => ?_)
    · have h := ite_p c2 h
      refine v_sub [0, 1] rfl ?_
      exact t_X9_help_21 C  x1 S h
    · have h := ite_n c2 h
      refine v_iload_n C 1 dX9_help_14 rfl rfl (n := 15) rfl ?_
      refine v_iconst (v := 1) C dX9_help_15 (by decide) (n := 16) rfl ?_
      refine v_icmp_eq C dX9_help_16 (t := 21) (by decide) (n := 19) rfl (fun c3 => ?_) (fun c3 => ?_)
      · have h := ite_p c3 h
        refine v_sub [0, 1] rfl ?_
        exact t_X9_help_21 C  x1 S h
      · have h := ite_n c3 h
        refine v_iconst (v := (-1)) C dX9_help_19 (by decide) (n := 20) rfl ?_
        obtain rfl := Option.some.inj h
        exact v_iret C dX9_help_20
theorem c_X9_help {l : Launch} {D : va_G} {q : Nat → Nat} {ar : Ar} (a1 : Int32) (S : St) {res : Int32 × St} (h : m_X9_help a1 S = some res) : MetI l D q ar WX yX9_help cX9_help 2 (some .int) rm_X9_help [.ref (q 0), .int a1] S res := by
  refine metI_of adrX (by decide +kernel) (Nat.le_of_ble_eq_true rfl) (fun x e1 e2 e3 e4 C => ?_)
  subst e1; subst e2; subst e3; subst e4
  exact v_sub [0, 1] rfl (t_X9_help_0 C a1 S h)
theorem mf_X9_help : CalV yX9_help cX9_help 2 (some .int) RX9 1 := ⟨w_25_1, w_24_23, w_25_0, w_1_2, rfl, by decide +kernel, by decide +kernel, by decide +kernel⟩
/-! LabyrinthGarden.helped -/
def f_X9_helped_0  (x1 : Int32) (S : St) : Option (Int32 × St) :=
  if x1 < 0 then (
    some ((-1), S))
  else (
    if x1 < (rd S 29 1) then (
      ck x1 2 <|
      some ((rd S 30 x1.toNatClampNeg), S))
    else (
      some ((-1), S)))
def m_X9_helped (a1 : Int32) (S : St) : Option (Int32 × St) := f_X9_helped_0 a1 S
def rm_X9_helped : Room := { frames := 0, cells := 0, slots := 0, locals := 0 }
set_option maxRecDepth 20000 in
set_option maxHeartbeats 2000000 in
theorem t_X9_helped_0 {x : Ctx} (C : Cx x WX cX9_helped RX9 2 rm_X9_helped (some .int)) {res : Int32 × St}  (x1 : Int32) (S : St) (h : f_X9_helped_0  x1 S = some res) : V x WX 2 (QI x WX res) S 0 [(0, .ref (xq x 0)), (1, .int x1)] [] := by
  unfold f_X9_helped_0 at h
  refine v_iload_n C 1 dX9_helped_0 rfl rfl (n := 1) rfl ?_
  refine v_if_lt C dX9_helped_1 (t := 15) (by decide) (n := 4) rfl (fun c1 => ?_) (fun c1 => ?_)
  · have h := ite_p c1 h
    refine v_iconst (v := (-1)) C dX9_helped_15 (by decide) (n := 16) rfl ?_
    refine v_goto C dX9_helped_16 (n := 28) (by decide) ?_
    obtain rfl := Option.some.inj h
    exact v_iret C dX9_helped_28
  · have h := ite_n c1 h
    refine v_iload_n C 1 dX9_helped_4 rfl rfl (n := 5) rfl ?_
    refine v_aload_n C 0 dX9_helped_5 rfl rfl (n := 6) rfl ?_
    refine g_X9_helper C w_2_17 dX9_helped_6 (n := 9) rfl ?_
    refine g_X1_keptCount C w_27_2 dX9_helped_9 (n := 12) rfl ?_
    refine v_icmp_lt C dX9_helped_12 (t := 19) (by decide) (n := 15) rfl (fun c2 => ?_) (fun c2 => ?_)
    · have h := ite_p c2 h
      refine v_aload_n C 0 dX9_helped_19 rfl rfl (n := 20) rfl ?_
      refine g_X9_helper C w_2_17 dX9_helped_20 (n := 23) rfl ?_
      refine g_X1_kept C w_27_3 dX9_helped_23 (n := 26) rfl ?_
      refine v_iload_n C 1 dX9_helped_26 rfl rfl (n := 27) rfl ?_
      obtain ⟨hi3, h⟩ := ck_e h
      refine v_ald C aX_30 hi3 dX9_helped_27 (n := 28) rfl ?_
      obtain rfl := Option.some.inj h
      exact v_iret C dX9_helped_28
    · have h := ite_n c2 h
      refine v_iconst (v := (-1)) C dX9_helped_15 (by decide) (n := 16) rfl ?_
      refine v_goto C dX9_helped_16 (n := 28) (by decide) ?_
      obtain rfl := Option.some.inj h
      exact v_iret C dX9_helped_28
theorem c_X9_helped {l : Launch} {D : va_G} {q : Nat → Nat} {ar : Ar} (a1 : Int32) (S : St) {res : Int32 × St} (h : m_X9_helped a1 S = some res) : MetI l D q ar WX yX9_helped cX9_helped 2 (some .int) rm_X9_helped [.ref (q 0), .int a1] S res := by
  refine metI_of adrX (by decide +kernel) (Nat.le_of_ble_eq_true rfl) (fun x e1 e2 e3 e4 C => ?_)
  subst e1; subst e2; subst e3; subst e4
  exact v_sub [0, 1] rfl (t_X9_helped_0 C a1 S h)
theorem mf_X9_helped : CalV yX9_helped cX9_helped 2 (some .int) RX9 1 := ⟨w_27_1, w_26_23, w_27_0, w_1_2, rfl, by decide +kernel, by decide +kernel, by decide +kernel⟩
/-! LabyrinthGarden.tale -/
def f_X9_tale_0  (x1 : Int32) (S : St) : Option (Int64 × St) :=
  bI (m_X9_isSeeable x1 S) fun r2 S1 =>
  if r2 = 0 then (
    some ((-1), S1))
  else (
    bV (m_X6_begin x1 S1) fun S4 =>
    some (((rd S4 31 0)).toInt64, S4))
def m_X9_tale (a1 : Int32) (S : St) : Option (Int64 × St) := f_X9_tale_0 a1 S
def rm_X9_tale : Room := { frames := 3, cells := 0, slots := 0, locals := 66 }
set_option maxRecDepth 20000 in
set_option maxHeartbeats 2000000 in
theorem t_X9_tale_0 {x : Ctx} (C : Cx x WX cX9_tale RX9 2 rm_X9_tale (some .long)) {res : Int64 × St}  (x1 : Int32) (S : St) (h : f_X9_tale_0  x1 S = some res) : V x WX 2 (QL x WX res) S 0 [(0, .ref (xq x 0)), (1, .int x1)] [] := by
  unfold f_X9_tale_0 at h
  refine v_iload_n C 1 dX9_tale_0 rfl rfl (n := 1) rfl ?_
  obtain ⟨r2, S1, eS1, h⟩ := bI_e h
  refine v_callSI (As := [.int x1]) C (c_X9_isSeeable x1 S eS1) mf_X9_isSeeable w_27_13 ⟨rfl, rfl, by decide, by decide⟩ rfl rfl (Nat.le_of_ble_eq_true rfl) dX9_tale_1 (n := 4) rfl ?_
  refine v_if_ne C dX9_tale_4 (t := 11) (by decide) (n := 7) rfl (fun c3 => ?_) (fun c3 => ?_)
  · have h := ite_n c3 h
    refine v_aload_n C 0 dX9_tale_11 rfl rfl (n := 12) rfl ?_
    refine g_X9_story C w_2_21 dX9_tale_12 (n := 15) rfl ?_
    refine v_iload_n C 1 dX9_tale_15 rfl rfl (n := 16) rfl ?_
    obtain ⟨S4, eS4, h⟩ := bV_e h
    refine v_callVV (As := [.int x1]) C (c_X6_begin x1 S1 eS4) mf_X6_begin w_27_16 (oX6 _ _ _) rfl ⟨rfl, rfl, by decide, by decide⟩ rfl rfl (Nat.le_of_ble_eq_true rfl) dX9_tale_16 (n := 19) rfl ?_
    refine v_aload_n C 0 dX9_tale_19 rfl rfl (n := 20) rfl ?_
    refine g_X9_story C w_2_21 dX9_tale_20 (n := 23) rfl ?_
    refine g_X6_here C w_27_12 dX9_tale_23 (n := 26) rfl ?_
    refine v_i2l C dX9_tale_26 (n := 27) rfl ?_
    obtain rfl := Option.some.inj h
    exact v_lret C dX9_tale_27
  · have h := ite_p c3 h
    refine v_ldc2 (v := (-1)) C w_24_15 dX9_tale_7 (n := 10) rfl ?_
    obtain rfl := Option.some.inj h
    exact v_lret C dX9_tale_10
theorem c_X9_tale {l : Launch} {D : va_G} {q : Nat → Nat} {ar : Ar} (a1 : Int32) (S : St) {res : Int64 × St} (h : m_X9_tale a1 S = some res) : MetL l D q ar WX yX9_tale cX9_tale 2 (some .long) rm_X9_tale [.ref (q 0), .int a1] S res := by
  refine metL_of adrX (by decide +kernel) (Nat.le_of_ble_eq_true rfl) (fun x e1 e2 e3 e4 C => ?_)
  subst e1; subst e2; subst e3; subst e4
  exact v_sub [0, 1] rfl (t_X9_tale_0 C a1 S h)
theorem mf_X9_tale : CalV yX9_tale cX9_tale 2 (some .long) RX9 1 := ⟨w_27_11, w_27_9, w_27_10, w_1_2, rfl, by decide +kernel, by decide +kernel, by decide +kernel⟩
/-! LabyrinthGarden.turn -/
def f_X9_turn_0  (x1 : Int32) (x2 : Int32) (S : St) : Option (Int64 × St) :=
  bI (m_X6_canGoOn  S) fun r2 S1 =>
  if r2 = 0 then (
    some ((-1), S1))
  else (
    if x1 < 0 then (
      some ((-1), S1))
    else (
      if 9 < x1 then (
        some ((-1), S1))
      else (
        bI (m_X9_isSeeable x2 S1) fun r7 S6 =>
        if r7 = 0 then (
          some ((-1), S6))
        else (
          bV (m_X6_goOn x1 x2 S6) fun S9 =>
          some (((rd S9 31 0)).toInt64, S9)))))
def m_X9_turn (a1 : Int32) (a2 : Int32) (S : St) : Option (Int64 × St) := f_X9_turn_0 a1 a2 S
def rm_X9_turn : Room := { frames := 3, cells := 0, slots := 0, locals := 69 }
set_option maxRecDepth 20000 in
set_option maxHeartbeats 2000000 in
theorem t_X9_turn_0 {x : Ctx} (C : Cx x WX cX9_turn RX9 3 rm_X9_turn (some .long)) {res : Int64 × St}  (x1 : Int32) (x2 : Int32) (S : St) (h : f_X9_turn_0  x1 x2 S = some res) : V x WX 3 (QL x WX res) S 0 [(0, .ref (xq x 0)), (1, .int x1), (2, .int x2)] [] := by
  unfold f_X9_turn_0 at h
  refine v_aload_n C 0 dX9_turn_0 rfl rfl (n := 1) rfl ?_
  refine g_X9_story C w_2_21 dX9_turn_1 (n := 4) rfl ?_
  obtain ⟨r2, S1, eS1, h⟩ := bI_e h
  refine v_callVI (As := []) C (c_X6_canGoOn  S eS1) mf_X6_canGoOn w_28_17 (oX6 _ _ _) rfl ⟨rfl, rfl, by decide, by decide⟩ rfl rfl (Nat.le_of_ble_eq_true rfl) dX9_turn_4 (n := 7) rfl ?_
  refine v_if_eq C dX9_turn_7 (t := 27) (by decide) (n := 10) rfl (fun c3 => ?_) (fun c3 => ?_)
  · have h := ite_p c3 h
    refine v_ldc2 (v := (-1)) C w_24_15 dX9_turn_27 (n := 30) rfl ?_
    obtain rfl := Option.some.inj h
    exact v_lret C dX9_turn_30
  · have h := ite_n c3 h
    refine v_iload_n C 1 dX9_turn_10 rfl rfl (n := 11) rfl ?_
    refine v_if_lt C dX9_turn_11 (t := 27) (by decide) (n := 14) rfl (fun c4 => ?_) (fun c4 => ?_)
    · have h := ite_p c4 h
      refine v_ldc2 (v := (-1)) C w_24_15 dX9_turn_27 (n := 30) rfl ?_
      obtain rfl := Option.some.inj h
      exact v_lret C dX9_turn_30
    · have h := ite_n c4 h
      refine v_iload_n C 1 dX9_turn_14 rfl rfl (n := 15) rfl ?_
      refine v_bipush (v := 9) C dX9_turn_15 (by decide) (n := 17) rfl ?_
      refine v_icmp_gt C dX9_turn_17 (t := 27) (by decide) (n := 20) rfl (fun c5 => ?_) (fun c5 => ?_)
      · have h := ite_p c5 h
        refine v_ldc2 (v := (-1)) C w_24_15 dX9_turn_27 (n := 30) rfl ?_
        obtain rfl := Option.some.inj h
        exact v_lret C dX9_turn_30
      · have h := ite_n c5 h
        refine v_iload_n C 2 dX9_turn_20 rfl rfl (n := 21) rfl ?_
        obtain ⟨r7, S6, eS6, h⟩ := bI_e h
        refine v_callSI (As := [.int x2]) C (c_X9_isSeeable x2 S1 eS6) mf_X9_isSeeable w_27_13 ⟨rfl, rfl, by decide, by decide⟩ rfl rfl (Nat.le_of_ble_eq_true rfl) dX9_turn_21 (n := 24) rfl ?_
        refine v_if_ne C dX9_turn_24 (t := 31) (by decide) (n := 27) rfl (fun c8 => ?_) (fun c8 => ?_)
        · have h := ite_n c8 h
          refine v_aload_n C 0 dX9_turn_31 rfl rfl (n := 32) rfl ?_
          refine g_X9_story C w_2_21 dX9_turn_32 (n := 35) rfl ?_
          refine v_iload_n C 1 dX9_turn_35 rfl rfl (n := 36) rfl ?_
          refine v_iload_n C 2 dX9_turn_36 rfl rfl (n := 37) rfl ?_
          obtain ⟨S9, eS9, h⟩ := bV_e h
          refine v_callVV (As := [.int x1, .int x2]) C (c_X6_goOn x1 x2 S6 eS9) mf_X6_goOn w_28_21 (oX6 _ _ _) rfl ⟨rfl, rfl, by decide, by decide⟩ rfl rfl (Nat.le_of_ble_eq_true rfl) dX9_turn_37 (n := 40) rfl ?_
          refine v_aload_n C 0 dX9_turn_40 rfl rfl (n := 41) rfl ?_
          refine g_X9_story C w_2_21 dX9_turn_41 (n := 44) rfl ?_
          refine g_X6_here C w_27_12 dX9_turn_44 (n := 47) rfl ?_
          refine v_i2l C dX9_turn_47 (n := 48) rfl ?_
          obtain rfl := Option.some.inj h
          exact v_lret C dX9_turn_48
        · have h := ite_p c8 h
          refine v_ldc2 (v := (-1)) C w_24_15 dX9_turn_27 (n := 30) rfl ?_
          obtain rfl := Option.some.inj h
          exact v_lret C dX9_turn_30
theorem c_X9_turn {l : Launch} {D : va_G} {q : Nat → Nat} {ar : Ar} (a1 : Int32) (a2 : Int32) (S : St) {res : Int64 × St} (h : m_X9_turn a1 a2 S = some res) : MetL l D q ar WX yX9_turn cX9_turn 3 (some .long) rm_X9_turn [.ref (q 0), .int a1, .int a2] S res := by
  refine metL_of adrX (by decide +kernel) (Nat.le_of_ble_eq_true rfl) (fun x e1 e2 e3 e4 C => ?_)
  subst e1; subst e2; subst e3; subst e4
  exact v_sub [0, 1, 2] rfl (t_X9_turn_0 C a1 a2 S h)
theorem mf_X9_turn : CalV yX9_turn cX9_turn 3 (some .long) RX9 2 := ⟨w_28_16, w_28_14, w_28_15, w_1_2, rfl, by decide +kernel, by decide +kernel, by decide +kernel⟩
/-! LabyrinthGarden.home -/
def f_X9_home_0   (S : St) : Option (Int32 × St) :=
  bI (m_X2_seek  S) fun r2 S1 =>
  some (r2, S1)
def m_X9_home  (S : St) : Option (Int32 × St) := f_X9_home_0  S
def rm_X9_home : Room := { frames := 5, cells := 0, slots := 0, locals := 115 }
set_option maxRecDepth 20000 in
set_option maxHeartbeats 2000000 in
theorem t_X9_home_0 {x : Ctx} (C : Cx x WX cX9_home RX9 1 rm_X9_home (some .int)) {res : Int32 × St}   (S : St) (h : f_X9_home_0   S = some res) : V x WX 1 (QI x WX res) S 0 [(0, .ref (xq x 0))] [] := by
  unfold f_X9_home_0 at h
  refine v_aload_n C 0 dX9_home_0 rfl rfl (n := 1) rfl ?_
  refine g_X9_homer C w_3_1 dX9_home_1 (n := 4) rfl ?_
  obtain ⟨r2, S1, eS1, h⟩ := bI_e h
  refine v_callVI (As := []) C (c_X2_seek  S eS1) mf_X2_seek w_29_18 (oX2 _ _ _) rfl ⟨rfl, rfl, by decide, by decide⟩ rfl rfl (Nat.le_of_ble_eq_true rfl) dX9_home_4 (n := 7) rfl ?_
  obtain rfl := Option.some.inj h
  exact v_iret C dX9_home_7
theorem c_X9_home {l : Launch} {D : va_G} {q : Nat → Nat} {ar : Ar}  (S : St) {res : Int32 × St} (h : m_X9_home  S = some res) : MetI l D q ar WX yX9_home cX9_home 1 (some .int) rm_X9_home [.ref (q 0)] S res := by
  refine metI_of adrX (by decide +kernel) (Nat.le_of_ble_eq_true rfl) (fun x e1 e2 e3 e4 C => ?_)
  subst e1; subst e2; subst e3; subst e4
  exact v_sub [0] rfl (t_X9_home_0 C  S h)
theorem mf_X9_home : CalV yX9_home cX9_home 1 (some .int) RX9 0 := ⟨w_29_17, w_29_15, w_29_16, w_1_2, rfl, by decide +kernel, by decide +kernel, by decide +kernel⟩
/-! LabyrinthGarden.homing -/
def f_X9_homing_0  (x1 : Int32) (S : St) : Option (Int32 × St) :=
  if x1 < 0 then (
    some ((-1), S))
  else (
    if x1 < (rd S 32 1) then (
      ck x1 5 <|
      some ((rd S 33 x1.toNatClampNeg), S))
    else (
      some ((-1), S)))
def m_X9_homing (a1 : Int32) (S : St) : Option (Int32 × St) := f_X9_homing_0 a1 S
def rm_X9_homing : Room := { frames := 0, cells := 0, slots := 0, locals := 0 }
set_option maxRecDepth 20000 in
set_option maxHeartbeats 2000000 in
theorem t_X9_homing_0 {x : Ctx} (C : Cx x WX cX9_homing RX9 2 rm_X9_homing (some .int)) {res : Int32 × St}  (x1 : Int32) (S : St) (h : f_X9_homing_0  x1 S = some res) : V x WX 2 (QI x WX res) S 0 [(0, .ref (xq x 0)), (1, .int x1)] [] := by
  unfold f_X9_homing_0 at h
  refine v_iload_n C 1 dX9_homing_0 rfl rfl (n := 1) rfl ?_
  refine v_if_lt C dX9_homing_1 (t := 15) (by decide) (n := 4) rfl (fun c1 => ?_) (fun c1 => ?_)
  · have h := ite_p c1 h
    refine v_iconst (v := (-1)) C dX9_homing_15 (by decide) (n := 16) rfl ?_
    refine v_goto C dX9_homing_16 (n := 28) (by decide) ?_
    obtain rfl := Option.some.inj h
    exact v_iret C dX9_homing_28
  · have h := ite_n c1 h
    refine v_iload_n C 1 dX9_homing_4 rfl rfl (n := 5) rfl ?_
    refine v_aload_n C 0 dX9_homing_5 rfl rfl (n := 6) rfl ?_
    refine g_X9_homer C w_3_1 dX9_homing_6 (n := 9) rfl ?_
    refine g_X2_keptCount C w_32_21 dX9_homing_9 (n := 12) rfl ?_
    refine v_icmp_lt C dX9_homing_12 (t := 19) (by decide) (n := 15) rfl (fun c2 => ?_) (fun c2 => ?_)
    · have h := ite_p c2 h
      refine v_aload_n C 0 dX9_homing_19 rfl rfl (n := 20) rfl ?_
      refine g_X9_homer C w_3_1 dX9_homing_20 (n := 23) rfl ?_
      refine g_X2_kept C w_32_22 dX9_homing_23 (n := 26) rfl ?_
      refine v_iload_n C 1 dX9_homing_26 rfl rfl (n := 27) rfl ?_
      obtain ⟨hi3, h⟩ := ck_e h
      refine v_ald C aX_33 hi3 dX9_homing_27 (n := 28) rfl ?_
      obtain rfl := Option.some.inj h
      exact v_iret C dX9_homing_28
    · have h := ite_n c2 h
      refine v_iconst (v := (-1)) C dX9_homing_15 (by decide) (n := 16) rfl ?_
      refine v_goto C dX9_homing_16 (n := 28) (by decide) ?_
      obtain rfl := Option.some.inj h
      exact v_iret C dX9_homing_28
theorem c_X9_homing {l : Launch} {D : va_G} {q : Nat → Nat} {ar : Ar} (a1 : Int32) (S : St) {res : Int32 × St} (h : m_X9_homing a1 S = some res) : MetI l D q ar WX yX9_homing cX9_homing 2 (some .int) rm_X9_homing [.ref (q 0), .int a1] S res := by
  refine metI_of adrX (by decide +kernel) (Nat.le_of_ble_eq_true rfl) (fun x e1 e2 e3 e4 C => ?_)
  subst e1; subst e2; subst e3; subst e4
  exact v_sub [0, 1] rfl (t_X9_homing_0 C a1 S h)
theorem mf_X9_homing : CalV yX9_homing cX9_homing 2 (some .int) RX9 1 := ⟨w_32_20, w_32_18, w_32_19, w_1_2, rfl, by decide +kernel, by decide +kernel, by decide +kernel⟩
/-! LabyrinthGarden.count -/
def f_X9_count_0  (x1 : Int32) (S : St) : Option (Int32 × St) :=
  if x1 = 0 then (
    some ((rd S 6 0), S))
  else (
  if x1 = 1 then (
    some ((rd S 6 1), S))
  else (
  if x1 = 2 then (
    some ((rd S 6 2), S))
  else (
  if x1 = 3 then (
    bI (m_J6_bitCount_0f7a4 (rd S 6 4) S) fun r6 S5 =>
    some (r6, S5))
  else (
  if x1 = 4 then (
    some ((rd S 31 1), S))
  else (
  if x1 = 5 then (
    some ((rd S (rs (rd S 0 8)) 3), S))
  else (
    some ((-1), S)))))))
def m_X9_count (a1 : Int32) (S : St) : Option (Int32 × St) := f_X9_count_0 a1 S
def rm_X9_count : Room := { frames := 1, cells := 0, slots := 0, locals := 20 }
set_option maxRecDepth 20000 in
set_option maxHeartbeats 2000000 in
theorem t_X9_count_0 {x : Ctx} (C : Cx x WX cX9_count RX9 2 rm_X9_count (some .int)) {res : Int32 × St}  (x1 : Int32) (S : St) (h : f_X9_count_0  x1 S = some res) : V x WX 2 (QI x WX res) S 0 [(0, .ref (xq x 0)), (1, .int x1)] [] := by
  unfold f_X9_count_0 at h
  refine v_iload_n C 1 dX9_count_0 rfl rfl (n := 1) rfl ?_
  by_cases c1 : x1 = 0
  · have h := ite_p c1 h
    refine v_tabI (off := 39) C dX9_count_1 c1 (by decide) (by decide) (by decide) (t := 40) (by decide) ?_
    refine v_aload_n C 0 dX9_count_40 rfl rfl (n := 41) rfl ?_
    refine g_X9_garden C w_2_0 dX9_count_41 (n := 44) rfl ?_
    refine g_X0_junctions C w_34_13 dX9_count_44 (n := 47) rfl ?_
    obtain rfl := Option.some.inj h
    exact v_iret C dX9_count_47
  · have h := ite_n c1 h
    by_cases c2 : x1 = 1
    · have h := ite_p c2 h
      refine v_tabI (off := 47) C dX9_count_1 c2 (by decide) (by decide) (by decide) (t := 48) (by decide) ?_
      refine v_aload_n C 0 dX9_count_48 rfl rfl (n := 49) rfl ?_
      refine g_X9_garden C w_2_0 dX9_count_49 (n := 52) rfl ?_
      refine g_X0_paths C w_34_14 dX9_count_52 (n := 55) rfl ?_
      obtain rfl := Option.some.inj h
      exact v_iret C dX9_count_55
    · have h := ite_n c2 h
      by_cases c3 : x1 = 2
      · have h := ite_p c3 h
        refine v_tabI (off := 55) C dX9_count_1 c3 (by decide) (by decide) (by decide) (t := 56) (by decide) ?_
        refine v_aload_n C 0 dX9_count_56 rfl rfl (n := 57) rfl ?_
        refine g_X9_garden C w_2_0 dX9_count_57 (n := 60) rfl ?_
        refine g_X0_places C w_24_16 dX9_count_60 (n := 63) rfl ?_
        obtain rfl := Option.some.inj h
        exact v_iret C dX9_count_63
      · have h := ite_n c3 h
        by_cases c4 : x1 = 3
        · have h := ite_p c4 h
          refine v_tabI (off := 63) C dX9_count_1 c4 (by decide) (by decide) (by decide) (t := 64) (by decide) ?_
          refine v_aload_n C 0 dX9_count_64 rfl rfl (n := 65) rfl ?_
          refine g_X9_garden C w_2_0 dX9_count_65 (n := 68) rfl ?_
          refine g_X0_marks C w_17_13 dX9_count_68 (n := 71) rfl ?_
          obtain ⟨r6, S5, eS5, h⟩ := bI_e h
          refine v_callSI (As := [.int (rd S 6 4)]) C (c_J6_bitCount_0f7a4 (rd S 6 4) S eS5) mf_J6_bitCount_0f7a4 w_34_16 ⟨rfl, rfl, by decide, by decide⟩ rfl rfl (Nat.le_of_ble_eq_true rfl) dX9_count_71 (n := 74) rfl ?_
          obtain rfl := Option.some.inj h
          exact v_iret C dX9_count_74
        · have h := ite_n c4 h
          by_cases c7 : x1 = 4
          · have h := ite_p c7 h
            refine v_tabI (off := 74) C dX9_count_1 c7 (by decide) (by decide) (by decide) (t := 75) (by decide) ?_
            refine v_aload_n C 0 dX9_count_75 rfl rfl (n := 76) rfl ?_
            refine g_X9_story C w_2_21 dX9_count_76 (n := 79) rfl ?_
            refine g_X6_turns C w_34_15 dX9_count_79 (n := 82) rfl ?_
            obtain rfl := Option.some.inj h
            exact v_iret C dX9_count_82
          · have h := ite_n c7 h
            by_cases c8 : x1 = 5
            · have h := ite_p c8 h
              refine v_tabI (off := 82) C dX9_count_1 c8 (by decide) (by decide) (by decide) (t := 83) (by decide) ?_
              refine v_aload_n C 0 dX9_count_83 rfl rfl (n := 84) rfl ?_
              refine g_X9_rulesInUse C w_2_4 dX9_count_84 (n := 87) rfl ?_
              refine g_X5_lines (rs_ok _) C w_9_12 dX9_count_87 (n := 90) rfl ?_
              obtain rfl := Option.some.inj h
              exact v_iret C dX9_count_90
            · have h := ite_n c8 h
              have qc1 := lv_neT c1 (a := 0) (by decide)
              have qc2 := lv_neT c2 (a := 1) (by decide)
              have qc3 := lv_neT c3 (a := 2) (by decide)
              have qc4 := lv_neT c4 (a := 3) (by decide)
              have qc7 := lv_neT c7 (a := 4) (by decide)
              have qc8 := lv_neT c8 (a := 5) (by decide)
              refine v_tabO C dX9_count_1 (by omega) (t := 91) (by decide) ?_
              refine v_iconst (v := (-1)) C dX9_count_91 (by decide) (n := 92) rfl ?_
              obtain rfl := Option.some.inj h
              exact v_iret C dX9_count_92
theorem c_X9_count {l : Launch} {D : va_G} {q : Nat → Nat} {ar : Ar} (a1 : Int32) (S : St) {res : Int32 × St} (h : m_X9_count a1 S = some res) : MetI l D q ar WX yX9_count cX9_count 2 (some .int) rm_X9_count [.ref (q 0), .int a1] S res := by
  refine metI_of adrX (by decide +kernel) (Nat.le_of_ble_eq_true rfl) (fun x e1 e2 e3 e4 C => ?_)
  subst e1; subst e2; subst e3; subst e4
  exact v_sub [0, 1] rfl (t_X9_count_0 C a1 S h)
theorem mf_X9_count : CalV yX9_count cX9_count 2 (some .int) RX9 1 := ⟨w_34_12, w_34_10, w_34_11, w_1_2, rfl, by decide +kernel, by decide +kernel, by decide +kernel⟩
