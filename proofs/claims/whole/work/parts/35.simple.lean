/-! ===== the plain methods of the garden ===== -/
theorem Rl_GU {S T S' T' : St} (h : Rl S T) (hG : relG S' T') (hU : relU S' T') (hS : ∀ c i, (c < 6 ∨ 15 < c) → c ≠ 31 → rd S' c i = rd S c i) (hT : ∀ c i, (c ≠ 0 ∨ (i ≠ 2 ∧ i ≠ 8 ∧ i ≠ 11 ∧ i ≠ 15 ∧ i ≠ 16 ∧ i ≠ 48)) → (c < 3 ∨ 12 < c) → rd T' c i = rd T c i) : Rl S' T' := by
  obtain ⟨h1, h2, h3, h4, h5, h6, h7, h8, h9⟩ := h
  exact ⟨relT_fr h1 (fun c i q => hS c i (by omega) (by omega)) (fun c i q => hT c i (by omega) (by omega)), relF_fr h2 (fun c i q => hS c i (by omega) (by omega)) (fun c i q => hT c i (by omega) (by omega)), relR_fr h3 (fun c i q => hS c i (by omega) (by omega)) (fun c i q => hT c i (by omega) (by omega)), hG, relW_fr h5 (fun c i q => hS c i (by omega) (by omega)) (fun c i q => hT c i (by omega) (by omega)), relH_fr h6 (fun c i q => hS c i (by omega) (by omega)) (fun c i q => hT c i (by omega) (by omega)), hU, relM_fr h8 (fun c i q => hS c i (by omega) (by omega)) (fun c i q => hT c i (by omega) (by omega)), relC_fr h9 (fun c i q => hT c i (by omega) (by omega))⟩
theorem Rl_U {S T : St} (h : Rl S T) : relU S T := h.2.2.2.2.2.2.1
theorem of_01 {a : Int32} (h : a = 0 ∨ a = 1) : ∃ b : Bool, a = b2 b := by
  rcases h with rfl | rfl
  · exact ⟨false, rfl⟩
  · exact ⟨true, rfl⟩
theorem zb_b2 (b : Bool) : zb (b2 b) = b2 b := by cases b <;> decide +kernel
theorem b2_d {p : Prop} [Decidable p] : (b2 (decide p) = 0) ↔ ¬ p := by rw [b2_0]; simp
theorem b2_n0 (b : Bool) : (b2 b = nI 0) ↔ b = false := b2_0 b
theorem hasJ_eq {S : St} {J j : Nat} (h : rd S 6 0 = nI J) (hJ : J < 2 ^ 31) (hj : j < 2 ^ 31) : m_X0_hasJunction (nI j) S = some (b2 (decide (j < J)), S) := by
  unfold m_X0_hasJunction f_X0_hasJunction_0
  rw [if_neg (nI_pos hj)]
  simp (disch := omega) only [h, nI_leI]
  by_cases q : j < J
  · rw [if_neg (by omega)]; simp only [q, decide_true]; rfl
  · rw [if_pos (by omega)]; simp only [q, decide_false]; rfl
theorem hasP_eq {S : St} {J j : Nat} (h : rd S 6 1 = nI J) (hJ : J < 2 ^ 31) (hj : j < 2 ^ 31) : m_X0_hasPath (nI j) S = some (b2 (decide (j < J)), S) := by
  unfold m_X0_hasPath f_X0_hasPath_0
  rw [if_neg (nI_pos hj)]
  simp (disch := omega) only [h, nI_leI]
  by_cases q : j < J
  · rw [if_neg (by omega)]; simp only [q, decide_true]; rfl
  · rw [if_pos (by omega)]; simp only [q, decide_false]; rfl
theorem hasL_eq {S : St} {J j : Nat} (h : rd S 6 2 = nI J) (hJ : J < 2 ^ 31) (hj : j < 2 ^ 31) : m_X0_hasPlace (nI j) S = some (b2 (decide (j < J)), S) := by
  unfold m_X0_hasPlace f_X0_hasPlace_0
  rw [if_neg (nI_pos hj)]
  simp (disch := omega) only [h, nI_leI]
  by_cases q : j < J
  · rw [if_neg (by omega)]; simp only [q, decide_true]; rfl
  · rw [if_pos (by omega)]; simp only [q, decide_false]; rfl
theorem isJ_eq {S : St} {J j : Nat} (h : rd S 0 8 = nI J) (hJ : J < 2 ^ 31) (hj : j < 2 ^ 31) : m_X10_isJunction (nI j) S = some (b2 (decide (j < J)), S) := by
  unfold m_X10_isJunction f_X10_isJunction_0
  rw [if_neg (nI_pos hj)]
  simp (disch := omega) only [h, nI_leI]
  by_cases q : j < J
  · rw [if_neg (by omega)]; simp only [q, decide_true]; rfl
  · rw [if_pos (by omega)]; simp only [q, decide_false]; rfl
theorem isP_eq {S : St} {J j : Nat} (h : rd S 0 11 = nI J) (hJ : J < 2 ^ 31) (hj : j < 2 ^ 31) : m_X10_isPath (nI j) S = some (b2 (decide (j < J)), S) := by
  unfold m_X10_isPath f_X10_isPath_0
  rw [if_neg (nI_pos hj)]
  simp (disch := omega) only [h, nI_leI]
  by_cases q : j < J
  · rw [if_neg (by omega)]; simp only [q, decide_true]; rfl
  · rw [if_pos (by omega)]; simp only [q, decide_false]; rfl
theorem isL_eq {S : St} {J j : Nat} (h : rd S 0 16 = nI J) (hJ : J < 2 ^ 31) (hj : j < 2 ^ 31) : m_X10_isPlace (nI j) S = some (b2 (decide (j < J)), S) := by
  unfold m_X10_isPlace f_X10_isPlace_0
  rw [if_neg (nI_pos hj)]
  simp (disch := omega) only [h, nI_leI]
  by_cases q : j < J
  · rw [if_neg (by omega)]; simp only [q, decide_true]; rfl
  · rw [if_pos (by omega)]; simp only [q, decide_false]; rfl
theorem neg_all {x : Int32} (h : x < 0) (S : St) : m_X0_hasJunction x S = some (0, S) ∧ m_X0_hasPath x S = some (0, S) ∧ m_X0_hasPlace x S = some (0, S) ∧ m_X10_isJunction x S = some (0, S) ∧ m_X10_isPath x S = some (0, S) ∧ m_X10_isPlace x S = some (0, S) := by
  unfold m_X0_hasJunction f_X0_hasJunction_0 m_X0_hasPath f_X0_hasPath_0 m_X0_hasPlace f_X0_hasPlace_0 m_X10_isJunction f_X10_isJunction_0 m_X10_isPath f_X10_isPath_0 m_X10_isPlace f_X10_isPlace_0
  simp only [if_pos h]; exact ⟨trivial, trivial, trivial, trivial, trivial, trivial⟩
theorem st_period : St_period Rl := by
  intro a1 S T h
  unfold m_X9_period f_X9_period_0 m_X10_period f_X10_period_0
  simp (disch := omega) only [lt]
  by_cases c : a1 < 1
  · simp only [if_pos c]; exact ⟨_, _, _, rfl, rfl, Rl_0 h 0⟩
  · by_cases d : a1 ≤ 8
    · simp only [if_neg c, if_pos d]
      refine ⟨_, _, _, rfl, rfl, ?_⟩
      obtain ⟨j, hj, rfl⟩ := nI_of (x := a1) (fun q => c (by rw [Int32.lt_iff_toInt_lt] at *; have : (1 : Int32).toInt = 1 := by decide
                                                             have : (0 : Int32).toInt = 0 := by decide
                                                             omega))
      simp (disch := omega) only [l_1, l_8, nI_ltI, nI_leI] at c d
      obtain ⟨J, P, en, ga, ou, mk, sh, b, hn, hx, hm⟩ := h.2.2.2.1
      refine Rl_GU h ⟨J, P, en, ga, ou, mk, sh, j, ?_, ?_, ?_⟩ (relU_fr (Rl_U h) (fun c i q => rd_ne (by omega)) (fun c i q => by rw [rd_ne (by omega), rd_ne (by omega)]) rfl) (fun c i q1 q2 => rd_ne (by omega)) (fun c i q1 q2 => by rw [rd_ne (by omega), rd_ne (by omega)])
      · obtain ⟨n1, n2, n3, n4, n5, n6⟩ := hn
        exact ⟨n1, n2, n3, n4, ⟨by omega, by omega⟩, n6⟩
      · unfold gaX nuxR at *; simp (disch := omega) only [rd_ne, rd_same]; exact ⟨hx.1, hx.2.1, hx.2.2.1, hx.2.2.2.1, hx.2.2.2.2.1, hx.2.2.2.2.2.1, trivial, hx.2.2.2.2.2.2.2⟩
      · unfold gaM numR at *; simp (disch := omega) only [rd_ne, rd_same]; exact ⟨hm.1, hm.2.1, trivial, hm.2.2.2⟩
    · simp only [if_neg c, if_neg d]; exact ⟨_, _, _, rfl, rfl, Rl_0 h 0⟩
theorem st_gate : St_gate Rl := by
  intro a1 a2 S T h
  obtain ⟨J, P, en, ga, ou, mk, sh, b, hn, hx, hm⟩ := h.2.2.2.1
  unfold m_X9_gate f_X9_gate_0 m_X10_gate f_X10_gate_0
  simp only [lt]
  by_cases c : a1 < 0
  · simp only [neg_all c, bI_some, if_true]; exact ⟨_, _, _, rfl, rfl, Rl_0 h 0⟩
  · obtain ⟨j, hj, rfl⟩ := nI_of c
    have hP : P ≤ 12 := hn.2.1
    have e1 : rd (up T 0 2 0) 0 11 = nI P := by rw [rd_ne (by omega)]; exact hm.2.1
    rw [hasP_eq hx.2.1 (by omega) hj, isP_eq e1 (by omega) hj]
    simp only [bI_some, b2_d]
    by_cases q : j < P
    · simp only [q, not_true, if_false]
      by_cases c2 : a2 < 0
      · simp only [if_pos c2]; exact ⟨_, _, _, rfl, rfl, Rl_0 h 0⟩
      · by_cases d : a2 ≤ 255
        · obtain ⟨v, hv, rfl⟩ := nI_of c2
          simp (disch := omega) only [l_255, nI_leI] at d
          simp (disch := omega) only [if_neg c2, l_255, nI_leI, if_pos d, ck_nI, nI_clamp]
          refine ⟨_, _, _, rfl, rfl, ?_⟩
          refine Rl_GU h ⟨J, P, en, fun p => if p = j then v else ga p, ou, mk, sh, b, ?_, ?_, ?_⟩ (relU_fr (Rl_U h) (fun c i q => rd_ne (by omega)) (fun c i q => by rw [rd_ne (by omega), rd_ne (by omega)]) rfl) (fun c i q1 q2 => rd_ne (by omega)) (fun c i q1 q2 => by rw [rd_ne (by omega), rd_ne (by omega)])
          · obtain ⟨n1, n2, n3, n4, n5, n6, n7⟩ := hn
            refine ⟨n1, n2, n3, n4, n5, fun p hp => ?_, n7⟩
            by_cases w : p = j
            · simp only [w, if_true]; omega
            · simp only [w, if_false]; exact n6 p hp
          · obtain ⟨x1, x2, x3, x4, x5, x6, x7, x8, x9⟩ := hx
            unfold gaX nuxR at *; simp (disch := omega) only [rd_cell]
            refine ⟨x1, x2, x3, x4, x5, x6, x7, fun p hp => ?_, x9⟩
            by_cases w : p = j
            · subst w; simp only [rd_same, if_true]
            · simp (disch := omega) only [rd_ix, w, if_false]; exact x8 p hp
          · obtain ⟨y1, y2, y3, y4, y5, y6, y7⟩ := hm
            unfold gaM numR at *; simp (disch := omega) only [rd_cell, rd_ne]
            refine ⟨y1, y2, y3, y4, y5, fun p hp => ?_, y7⟩
            by_cases w : p = j
            · subst w; simp only [rd_same, if_true]; exact ⟨trivial, (y6 p hp).2⟩
            · simp (disch := omega) only [rd_ne, w, if_false]; exact y6 p hp
        · simp only [if_neg c2, if_neg d]; exact ⟨_, _, _, rfl, rfl, Rl_0 h 0⟩
    · simp only [q, not_false_iff, if_true]; exact ⟨_, _, _, rfl, rfl, Rl_0 h 0⟩
theorem st_mark : St_mark Rl := by
  intro a1 a2 S T h01 h
  obtain ⟨on, rfl⟩ := of_01 h01
  obtain ⟨J, P, en, ga, ou, mk, sh, b, hn, hx, hm⟩ := h.2.2.2.1
  unfold m_X9_mark f_X9_mark_0 m_X10_mark f_X10_mark_0
  simp only [lt]
  by_cases c : a1 < 0
  · simp only [neg_all c, bI_some, if_true]; exact ⟨_, _, _, rfl, rfl, Rl_0 h 0⟩
  · obtain ⟨j, hj, rfl⟩ := nI_of c
    have hJ : J ≤ 8 := hn.1
    have e1 : rd (up T 0 2 0) 0 8 = nI J := by rw [rd_ne (by omega)]; exact hm.1
    rw [hasJ_eq hx.1 (by omega) hj, isJ_eq e1 (by omega) hj]
    simp only [bI_some, b2_d]
    by_cases q : j < J
    · simp only [q, not_true, if_false]
      rw [hx.2.2.2.2.1, with_eq on S (by omega)]
      simp (disch := omega) only [bI_some, ck_nI, nI_clamp, zb_b2]
      refine ⟨_, _, _, rfl, rfl, ?_⟩
      refine Rl_GU h ⟨J, P, en, ga, ou, wb mk j on, sh, b, ?_, ?_, ?_⟩ (relU_fr (Rl_U h) (fun c i q => rd_ne (by omega)) (fun c i q => by rw [rd_ne (by omega), rd_ne (by omega)]) rfl) (fun c i q1 q2 => rd_ne (by omega)) (fun c i q1 q2 => by rw [rd_ne (by omega), rd_ne (by omega)])
      · obtain ⟨n1, n2, n3, n4, n5, n6, n7, n8, n9⟩ := hn
        exact ⟨n1, n2, n3, n4, n5, n6, n7, wb_lt on n8 q, n9⟩
      · obtain ⟨x1, x2, x3, x4, x5, x6⟩ := hx
        unfold gaX nuxR at *; simp (disch := omega) only [rd_ne, rd_same]
        exact ⟨x1, x2, x3, x4, trivial, x6⟩
      · obtain ⟨y1, y2, y3, y4, y5, y6⟩ := hm
        unfold gaM numR at *; simp (disch := omega) only [rd_cell, rd_ne]
        refine ⟨y1, y2, y3, y4, fun i hi => ?_, y6⟩
        obtain ⟨z1, z2, z3⟩ := y5 i hi
        refine ⟨z1, ?_, z3⟩
        rw [wb_tbit]
        by_cases w : i = j
        · subst w; simp only [rd_same, if_true]
        · simp (disch := omega) only [rd_ne, w, if_false]; exact z2
    · simp only [q, not_false_iff, if_true]; exact ⟨_, _, _, rfl, rfl, Rl_0 h 0⟩
theorem st_shut : St_shut Rl := by
  intro a1 a2 S T h01 h
  obtain ⟨on, rfl⟩ := of_01 h01
  obtain ⟨J, P, en, ga, ou, mk, sh, b, hn, hx, hm⟩ := h.2.2.2.1
  unfold m_X9_shut f_X9_shut_0 m_X10_shut f_X10_shut_0
  simp only [lt]
  by_cases c : a1 < 0
  · simp only [neg_all c, bI_some, if_true]; exact ⟨_, _, _, rfl, rfl, Rl_0 h 0⟩
  · obtain ⟨j, hj, rfl⟩ := nI_of c
    have hP : P ≤ 12 := hn.2.1
    have e1 : rd (up T 0 2 0) 0 11 = nI P := by rw [rd_ne (by omega)]; exact hm.2.1
    rw [hasP_eq hx.2.1 (by omega) hj, isP_eq e1 (by omega) hj]
    simp only [bI_some, b2_d]
    by_cases q : j < P
    · simp only [q, not_true, if_false]
      rw [hx.2.2.2.2.2.1, with_eq on S (by omega)]
      simp (disch := omega) only [bI_some, ck_nI, nI_clamp, zb_b2]
      refine ⟨_, _, _, rfl, rfl, ?_⟩
      refine Rl_GU h ⟨J, P, en, ga, ou, mk, wb sh j on, b, ?_, ?_, ?_⟩ (relU_fr (Rl_U h) (fun c i q => rd_ne (by omega)) (fun c i q => by rw [rd_ne (by omega), rd_ne (by omega)]) rfl) (fun c i q1 q2 => rd_ne (by omega)) (fun c i q1 q2 => by rw [rd_ne (by omega), rd_ne (by omega)])
      · obtain ⟨n1, n2, n3, n4, n5, n6, n7, n8, n9⟩ := hn
        exact ⟨n1, n2, n3, n4, n5, n6, n7, n8, wb_lt on n9 q⟩
      · obtain ⟨x1, x2, x3, x4, x5, x6, x7⟩ := hx
        unfold gaX nuxR at *; simp (disch := omega) only [rd_ne, rd_same]
        exact ⟨x1, x2, x3, x4, x5, trivial, x7⟩
      · obtain ⟨y1, y2, y3, y4, y5, y6, y7⟩ := hm
        unfold gaM numR at *; simp (disch := omega) only [rd_cell, rd_ne]
        refine ⟨y1, y2, y3, y4, y5, fun i hi => ?_, y7⟩
        obtain ⟨z1, z2⟩ := y6 i hi
        refine ⟨z1, ?_⟩
        rw [wb_tbit]
        by_cases w : i = j
        · subst w; simp only [rd_same, if_true]
        · simp (disch := omega) only [rd_ne, w, if_false]; exact z2
    · simp only [q, not_false_iff, if_true]; exact ⟨_, _, _, rfl, rfl, Rl_0 h 0⟩
theorem st_place : St_place Rl := by
  intro a1 a2 S T h
  obtain ⟨J, P, en, ga, ou, mk, sh, b, hn, hx, hm⟩ := h.2.2.2.1
  unfold m_X9_place f_X9_place_0 m_X0_placeOf f_X0_placeOf_0 m_X10_place f_X10_place_0
  simp only [lt]
  by_cases c : a1 < 0
  · simp only [neg_all c, bI_some, if_true]; exact ⟨_, _, _, rfl, rfl, Rl_0 h 0⟩
  · obtain ⟨j, hj, rfl⟩ := nI_of c
    have hJ : J ≤ 8 := hn.1
    have e1 : rd (up T 0 2 0) 0 8 = nI J := by rw [rd_ne (by omega)]; exact hm.1
    rw [hasJ_eq hx.1 (by omega) hj, isJ_eq e1 (by omega) hj]
    simp only [bI_some, b2_d]
    by_cases q : j < J
    · simp only [q, not_true, if_false]
      by_cases c2 : a2 < 0
      · simp only [if_pos c2, bI_some]; exact ⟨_, _, _, rfl, rfl, Rl_0 h 0⟩
      · have r1 := hx.2.2.2.2.2.2.2.2.1 j q
        have r2 := (hm.2.2.2.2.1 j q).2.2
        simp (disch := omega) only [if_neg c2, ck_nI, nI_clamp, rd_ne, r1, r2]
        by_cases d : a2 < nI (ctj en j (2 * P))
        · simp only [if_pos d, bI_some]; exact ⟨_, _, _, rfl, rfl, Rl_0 h 0⟩
        · simp only [if_neg d, bI_some]; exact ⟨_, _, _, rfl, rfl, Rl_0 h 0⟩
    · simp only [q, not_false_iff, if_true, bI_some]; exact ⟨_, _, _, rfl, rfl, Rl_0 h 0⟩
theorem cnt_loop {T : St} {J mk : Nat} (hJ : J ≤ 8) (h8 : rd T 0 8 = nI J) (h4 : ∀ j, j < J → rd T 4 j = b2 (mk.testBit j)) :
    ∀ n j, J - j < n → j ≤ J → g_X10_count_65 n (nI (fb_ct (fun k => mk.testBit k) j)) (nI j) T = some (nI (fb_ct (fun k => mk.testBit k) J), T) := by
  intro n
  induction n with
  | zero => intro j q; omega
  | succ n ih =>
    intro j h1 h2
    show f_X10_count_65 (g_X10_count_65 n) _ _ T = _
    unfold f_X10_count_65
    have hc := fb_ct_le (fun k => mk.testBit k) j
    simp (disch := omega) only [h8, nI_leI]
    by_cases q : j = J
    · subst q; rw [if_pos (by omega)]
    · rw [if_neg (by omega)]
      simp (disch := omega) only [ck_nI, nI_clamp, h4 j (by omega), b2_n0, lt, l_1, l_0, nI_add]
      have e := ih (j + 1) (by omega) (by omega)
      rw [fb_ct_succ] at e
      by_cases w : mk.testBit j = false
      · rw [if_pos w]; simp only [w] at e; exact e
      · have w : mk.testBit j = true := by simpa using w
        rw [if_neg (by simp [w])]; simp only [w, if_true] at e; exact e
theorem ct_cut {mk J : Nat} (hm : mk < 2 ^ J) {K : Nat} (hJ : J ≤ K) : fb_ct (fun k => mk.testBit k) K = fb_ct (fun k => mk.testBit k) J := by
  obtain ⟨d, rfl⟩ : ∃ d, K = J + d := ⟨K - J, by omega⟩
  rw [fb_ct_split]
  have : fb_ct (fun k => mk.testBit (J + k)) d = 0 := fb_ct_zero.mpr (fun k _ => tb_hi hm (by omega))
  omega
theorem st_count : St_count Rl := by
  intro a1 S T h
  obtain ⟨J, P, en, ga, ou, mk, sh, b, hn, hx, hm⟩ := h.2.2.2.1
  obtain ⟨r, L, f, fk, to, nu, de, nx, hr1, hr2, hr3, hr4⟩ := h.2.2.1
  have hJ : J ≤ 8 := hn.1
  unfold m_X9_count f_X9_count_0 m_X10_count f_X10_count_0
  simp (disch := omega) only [lt, rd_ne, (usR_rs hr1).1]
  by_cases c0 : a1 = 0
  · simp only [if_pos c0, hx.1, hm.1]; exact ⟨_, _, _, rfl, rfl, Rl_0 h 0⟩
  by_cases c1 : a1 = 1
  · simp only [if_neg c0, if_pos c1, hx.2.1, hm.2.1]; exact ⟨_, _, _, rfl, rfl, Rl_0 h 0⟩
  by_cases c2 : a1 = 2
  · simp only [if_neg c0, if_neg c1, if_pos c2, hx.2.2.1, hm.2.2.2.1]; exact ⟨_, _, _, rfl, rfl, Rl_0 h 0⟩
  by_cases c3 : a1 = 3
  · have hm8 : mk < 256 := Nat.lt_of_lt_of_le hn.2.2.2.2.2.2.2.1 (Nat.pow_le_pow_right (by decide) hJ)
    have e8 : rd (up T 0 2 0) 0 8 = nI J := by rw [rd_ne (by omega)]; exact hm.1
    have e := cnt_loop (T := up T 0 2 0) hJ e8 (fun j hj => by rw [rd_ne (by omega)]; exact (hm.2.2.2.2.1 j hj).2.1) fuel 0 (by unfold fuel; omega) (by omega)
    simp only [if_neg c0, if_neg c1, if_neg c2, if_pos c3, hx.2.2.2.2.1, pop_eq S hm8, bI_some]
    refine ⟨_, _, _, rfl, ?_, Rl_0 h 0⟩
    rw [ct_cut hn.2.2.2.2.2.2.2.1 hJ]
    exact e
  by_cases c4 : a1 = 4
  · simp only [if_neg c0, if_neg c1, if_neg c2, if_neg c3, if_pos c4]
    refine ⟨_, _, _, rfl, ?_, Rl_0 h 0⟩
    rcases Rl_U h with ⟨u1, u2⟩ | ⟨t, w, u1, u2, u3, u4⟩
    · rw [u1, u2]
    · rw [u2, u3]
  by_cases c5 : a1 = 5
  · simp only [if_neg c0, if_neg c1, if_neg c2, if_neg c3, if_neg c4, if_pos c5, hr3.1, hr4.1]; exact ⟨_, _, _, rfl, rfl, Rl_0 h 0⟩
  · simp only [if_neg c0, if_neg c1, if_neg c2, if_neg c3, if_neg c4, if_neg c5]; exact ⟨_, _, _, rfl, rfl, Rl_0 h 0⟩
