/-! ===== look, anew, junction, path ===== -/
theorem st_look : St_look Rl := by
  intro a1 a2 S T h
  obtain ⟨J, P, en, ga, ou, mk, sh, b, hn, hx, hm⟩ := h.2.2.2.1
  have hP : P ≤ 12 := hn.2.1
  unfold m_X9_look m_X10_look f_X10_look_0 m_X10_thrown f_X10_thrown_0
  simp only [lt]
  by_cases c : a1 < 0
  · simp only [neg_all c, bI_some, if_true]
    unfold m_X10_fails f_X10_fails_0
    simp only [lt, bI_some]
    exact ⟨_, _, _, _, _, rfl, rfl, by rw [rd_same], fun q => absurd q (by decide), Rl_0 (Rl_0 h 0) 1⟩
  · obtain ⟨p, hp, rfl⟩ := nI_of c
    have e1 : rd (up T 0 2 0) 0 16 = nI (2 * P) := by rw [rd_ne (by omega)]; exact hm.2.2.2.1
    rw [hasL_eq hx.2.2.1 (by omega) hp, isL_eq e1 (by omega) hp]
    simp only [bI_some, b2_d]
    by_cases q : p < 2 * P
    · simp only [q, not_true, if_false]
      obtain ⟨s1, s2⟩ := sdp_lt hn.2.2.1 q
      obtain ⟨x1, x2, x3⟩ := hx.2.2.2.2.2.2.2.2.2 _ s1
      obtain ⟨y1, y2⟩ := hm.2.2.2.2.2.2 _ s1
      obtain ⟨j1, j2, j3, j4⟩ := jnp_in hn.2.2.1 q
      have y3 := (hm.2.2.2.2.1 _ j1).2.2.2
      have hs := x1_lt s1
      have y4 := (hm.2.2.2.2.2.2 _ hs).2.2.2
      unfold nuxR at x1
      unfold numR at y2
      rw [s2] at x1 x2 y2
      have s3 := plc_lt hn.2.2.1 hs
      have hJ : J ≤ 8 := hn.1
      have y5 : rd T 8 p = nI (jnp en (2 * P) p) := y2.1
      have x5 : rd S 10 p = nI (jnp en (2 * P) p) := x1.1
      have x6 : rd S 11 p = nI (p - baj en (2 * P) (jnp en (2 * P) p)) := by rw [j4]; exact x1.2.1
      by_cases c0 : a2 = 0
      · simp (disch := omega) only [if_pos c0, ck_nI, nI_clamp, x5, rd_ne, y5]
        exact ⟨(0, _), S, _, up T 0 2 0, up T 0 2 0, rfl, rfl, by rw [rd_same], fun _ => rfl, Rl_0 h 0⟩
      by_cases c1 : a2 = 1
      · simp (disch := omega) only [if_neg c0, if_pos c1, ck_nI, nI_clamp, x6, rd_ne, y5, y3, pk_sub]
        exact ⟨(0, _), S, _, up T 0 2 0, up T 0 2 0, rfl, rfl, by rw [rd_same], fun _ => rfl, Rl_0 h 0⟩
      by_cases c2 : a2 = 2
      · simp only [if_neg c0, if_neg c1, if_pos c2]
        simp (disch := omega) only [ck_nI, nI_clamp, x1.2.2.1, rd_ne, y2.2.1, l_2, pk_div]
        exact ⟨(0, _), S, _, up T 0 2 0, up T 0 2 0, rfl, rfl, by rw [rd_same], fun _ => rfl, Rl_0 h 0⟩
      by_cases c3 : a2 = 3
      · simp only [if_neg c0, if_neg c1, if_neg c2, if_pos c3]
        simp (disch := omega) only [ck_nI, nI_clamp, x2, rd_ne, y2.2.1, l_1, fb_xorI, y4]
        exact ⟨(0, _), S, _, up T 0 2 0, up T 0 2 0, rfl, rfl, by rw [rd_same], fun _ => rfl, Rl_0 h 0⟩
      · simp (disch := omega) only [if_neg c0, if_neg c1, if_neg c2, if_neg c3]
        unfold m_X10_fails f_X10_fails_0
        simp only [lt, bI_some]
        exact ⟨_, _, _, _, _, rfl, rfl, by rw [rd_same], fun q => absurd q (by decide), Rl_0 (Rl_0 h 0) 2⟩
    · simp only [q, not_false_iff, if_true]
      unfold m_X10_fails f_X10_fails_0
      simp only [lt, bI_some]
      exact ⟨_, _, _, _, _, rfl, rfl, by rw [rd_same], fun q => absurd q (by decide), Rl_0 (Rl_0 h 0) 1⟩
theorem st_anew : St_anew Rl := by
  intro S T h
  unfold m_X9_anew f_X9_anew_0 m_X10_anew f_X10_anew_0 m_X0_clear f_X0_clear_0 m_X6_forget f_X6_forget_0
  simp only [lt, bV_some]
  obtain ⟨T1, e1, k1, k2, k3, k4, k5⟩ := numM (en := fun _ => 0) (P := 0) (J := 0) (by omega) (by omega) (fun e he => by omega) (T0 := up (up (up (up (up T 0 2 0) 0 8 0) 0 11 0) 0 15 1) 0 48 (-1)) (by simp (disch := omega) only [rd_ne, rd_same]; rfl) (by simp (disch := omega) only [rd_ne, rd_same]; rfl) (fun e he => by omega)
  rw [e1]
  simp only [bV_some]
  refine ⟨_, _, rfl, rfl, ?_⟩
  have fr : ∀ c i, c ≠ 8 → c ≠ 9 → c ≠ 10 → c ≠ 11 → c ≠ 12 → (c ≠ 0 ∨ i ≠ 16) → rd T1 c i = rd (up (up (up (up (up T 0 2 0) 0 8 0) 0 11 0) 0 15 1) 0 48 (-1)) c i := k5
  refine Rl_GU h ⟨0, 0, fun _ => 0, fun _ => 0, 0, 0, 0, 1, ?_, ?_, ?_⟩ (Or.inl ⟨?_, ?_⟩) (fun c i q1 q2 => by simp (disch := omega) only [rd_ne]) (fun c i q1 q2 => by rw [fr c i (by omega) (by omega) (by omega) (by omega) (by omega) (by omega)]; simp (disch := omega) only [rd_ne])
  · exact ⟨by omega, by omega, fun e he => by omega, fun j hj => by omega, ⟨by omega, by omega⟩, fun p hp => by omega, by omega, by omega, by omega⟩
  · unfold gaX
    simp (disch := omega) only [rd_ne, rd_same]
    exact ⟨rfl, rfl, rfl, rfl, rfl, rfl, rfl, fun p hp => by omega, fun p hp => by omega, fun p hp => by omega⟩
  · refine ⟨?_, ?_, ?_, ?_, fun p hp => by omega, fun p hp => by omega, fun p hp => by omega⟩
    · rw [fr 0 8 (by omega) (by omega) (by omega) (by omega) (by omega) (by omega)]; simp (disch := omega) only [rd_ne, rd_same]; rfl
    · rw [fr 0 11 (by omega) (by omega) (by omega) (by omega) (by omega) (by omega)]; simp (disch := omega) only [rd_ne, rd_same]; rfl
    · rw [fr 0 15 (by omega) (by omega) (by omega) (by omega) (by omega) (by omega)]; simp (disch := omega) only [rd_ne, rd_same]; rfl
    · rw [k1]; rfl
  · rw [rd_same]
  · rw [fr 0 48 (by omega) (by omega) (by omega) (by omega) (by omega) (by omega)]; simp (disch := omega) only [rd_ne, rd_same]
theorem nuxR_fr {en : Nat → Nat} {N e : Nat} {S S' : St} (h : nuxR en N S e) (hS : ∀ c i, (10 ≤ c ∧ c ≤ 15) → rd S' c i = rd S c i) : nuxR en N S' e := by
  unfold nuxR at *
  rw [hS 10 _ (by omega), hS 11 _ (by omega), hS 12 _ (by omega), hS 15 _ (by omega)]; exact h
theorem ctj_out {en : Nat → Nat} {J N : Nat} (h : ∀ e, e < N → en e < J) : ctj en J N = 0 := by
  have h1 := baj_all h
  have h2 := baj_all (J := J + 1) (fun e he => Nat.lt_succ_of_lt (h e he))
  rw [baj_succ] at h2
  omega
theorem st_junction : St_junction Rl := by
  intro a1 S T h01 h
  obtain ⟨on, rfl⟩ := of_01 h01
  obtain ⟨J, P, en, ga, ou, mk, sh, b, hn, hx, hm⟩ := h.2.2.2.1
  obtain ⟨n1, n2, n3, n4, n5, n6, n7, n8, n9⟩ := hn
  obtain ⟨x1, x2, x3, x4, x5, x6, x7, x8, x9, x10⟩ := hx
  obtain ⟨y1, y2, y3, y4, y5, y6, y7⟩ := hm
  unfold m_X9_junction f_X9_junction_0 m_X0_addJunction f_X0_addJunction_0 m_X10_junction f_X10_junction_0
  simp (disch := omega) only [lt, x1, y1, rd_ne, l_8, nI_ltI, nI_eq]
  by_cases c : J = 8
  · rw [if_neg (by omega), if_pos c]
    exact ⟨_, _, _, rfl, rfl, Rl_0 h 0⟩
  · have hJ : J < 8 := by omega
    rw [if_pos hJ, if_neg c]
    simp (disch := omega) only [x4, with_eq, bI_some, ck_nI, nI_clamp, rd_ne, x3, l_1, l_0, nI_add, y1, zb_b2]
    have z0 : zb (nI 0) = b2 false := by decide +kernel
    obtain ⟨T1, e1, k1, k2, k3, k4, k5⟩ := numM (en := en) (P := P) (J := J + 1) n2 (by omega) (fun e he => Nat.lt_succ_of_lt (n3 e he)) (T0 := up (up (up (up T 0 2 (nI 0)) 3 J (b2 on)) 4 J (zb (nI 0))) 0 8 (nI (J + 1))) (by simp (disch := omega) only [rd_ne]; exact y2) (by simp (disch := omega) only [rd_same]) (fun e he => by simp (disch := omega) only [rd_ne]; exact (y7 e he).1)
    rw [e1]
    simp only [bV_some]
    have fr : ∀ c i, c ≠ 8 → c ≠ 9 → c ≠ 10 → c ≠ 11 → c ≠ 12 → (c ≠ 0 ∨ i ≠ 16) → rd T1 c i = rd (up (up (up (up T 0 2 (nI 0)) 3 J (b2 on)) 4 J (zb (nI 0))) 0 8 (nI (J + 1))) c i := k5
    have f8 : rd T1 0 8 = nI (J + 1) := by rw [fr 0 8 (by omega) (by omega) (by omega) (by omega) (by omega) (by omega), rd_same]
    rw [f8]
    refine ⟨_, _, T1, rfl, ?_, ?_⟩
    · rw [pk_sub (by omega)]; rfl
    · have hc0 := ctj_out n3
      have hb0 := baj_all n3
      refine Rl_GU h ⟨J + 1, P, en, ga, wb ou J on, mk, sh, b, ?_, ?_, ?_⟩ (relU_fr (Rl_U h) (fun c i q => by simp (disch := omega) only [rd_ne]) (fun c i q => by rw [fr c i (by omega) (by omega) (by omega) (by omega) (by omega) (by omega)]; simp (disch := omega) only [rd_ne]) k4) (fun c i q1 q2 => by simp (disch := omega) only [rd_ne]) (fun c i q1 q2 => by rw [fr c i (by omega) (by omega) (by omega) (by omega) (by omega) (by omega)]; simp (disch := omega) only [rd_ne])
      · refine ⟨by omega, n2, fun e he => Nat.lt_succ_of_lt (n3 e he), fun j hj => ?_, n5, n6, wb_lt on n7 (by omega), Nat.lt_of_lt_of_le n8 (Nat.pow_le_pow_right (by decide) (by omega)), n9⟩
        rcases Nat.lt_or_ge j J with q | q
        · exact n4 j q
        · have : j = J := by omega
          subst this; omega
      · refine ⟨?_, ?_, ?_, ?_, ?_, ?_, ?_, fun p hp => ?_, fun j hj => ?_, fun e he => ?_⟩
        · simp (disch := omega) only [rd_ne, rd_same]
        · simp (disch := omega) only [rd_ne]; exact x2
        · simp (disch := omega) only [rd_ne]; exact x3
        · simp (disch := omega) only [rd_ne, rd_same]
        · simp (disch := omega) only [rd_ne]; exact x5
        · simp (disch := omega) only [rd_ne]; exact x6
        · simp (disch := omega) only [rd_ne]; exact x7
        · simp (disch := omega) only [rd_ne]; exact x8 p hp
        · by_cases q : j = J
          · subst q
            simp (disch := omega) only [rd_ne, rd_same, hc0, hb0]
            exact ⟨trivial, trivial⟩
          · simp (disch := omega) only [rd_ne]; exact x9 j (by omega)
        · obtain ⟨w1, w2, w3⟩ := x10 e he
          refine ⟨nuxR_fr w1 (fun c i q => by simp (disch := omega) only [rd_ne]), ?_, ?_⟩
          · simp (disch := omega) only [rd_ne]; exact w2
          · simp (disch := omega) only [rd_ne]; exact w3
      · refine ⟨f8, ?_, ?_, ?_, fun j hj => ⟨?_, ?_, (k2 j hj).1, (k2 j hj).2⟩, fun p hp => ?_, fun e he => ⟨?_, k3 e he (Nat.lt_succ_of_lt (n3 e he))⟩⟩
        · rw [fr 0 11 (by omega) (by omega) (by omega) (by omega) (by omega) (by omega)]; simp (disch := omega) only [rd_ne]; exact y2
        · rw [fr 0 15 (by omega) (by omega) (by omega) (by omega) (by omega) (by omega)]; simp (disch := omega) only [rd_ne]; exact y3
        · rw [k1, baj_succ, hc0, hb0]; rfl
        · rw [fr 3 j (by omega) (by omega) (by omega) (by omega) (by omega) (by omega), wb_tbit]
          by_cases q : j = J
          · subst q; simp (disch := omega) only [rd_ne, rd_same, if_true]
          · simp (disch := omega) only [rd_ne, q, if_false]; exact (y5 j (by omega)).1
        · rw [fr 4 j (by omega) (by omega) (by omega) (by omega) (by omega) (by omega)]
          by_cases q : j = J
          · subst q; simp (disch := omega) only [rd_ne, rd_same, tb_hi n8 (Nat.le_refl _), z0]
          · simp (disch := omega) only [rd_ne]; exact (y5 j (by omega)).2.1
        · rw [fr 6 p (by omega) (by omega) (by omega) (by omega) (by omega) (by omega), fr 7 p (by omega) (by omega) (by omega) (by omega) (by omega) (by omega)]; simp (disch := omega) only [rd_ne]; exact y6 p hp
        · rw [fr 5 e (by omega) (by omega) (by omega) (by omega) (by omega) (by omega)]; simp (disch := omega) only [rd_ne]; exact (y7 e he).1
theorem Rl_start : Rl S0 T0 := by
  refine ⟨⟨0, fun _ => 0, by omega, rfl, rfl, fun i hi => by omega⟩, ⟨rfl, rfl⟩, ⟨16, 0, 0, 0, fun _ => false, fun _ => 0, fun _ => 0, fun _ => 0, Or.inl ⟨rfl, rfl, rfl⟩, ⟨by omega, by omega, fun q => by omega, fun s _ q => by cases q⟩, ⟨rfl, fun q => by omega, rfl, fun s _ q => by cases q⟩, ⟨rfl, fun q => by omega, fun s _ q => by cases q⟩⟩, ⟨0, 0, fun _ => 0, fun _ => 0, 0, 0, 0, 1, ?_, ?_, ?_⟩, Or.inl ⟨rfl, fun i hi => ?_⟩, ⟨0, by omega, rfl, rfl, fun i hi => by omega⟩, Or.inl ⟨rfl, rfl⟩, ⟨0, by omega, rfl, rfl, fun i hi => by omega⟩, ⟨fun v => rfl, fun i hi => ?_⟩⟩
  · exact ⟨by omega, by omega, fun e he => by omega, fun j hj => by omega, ⟨by omega, by omega⟩, fun p hp => by omega, by omega, by omega, by omega⟩
  · exact ⟨rfl, rfl, rfl, rfl, rfl, rfl, rfl, fun p hp => by omega, fun p hp => by omega, fun p hp => by omega⟩
  · exact ⟨rfl, rfl, rfl, rfl, fun p hp => by omega, fun p hp => by omega, fun p hp => by omega⟩
  · revert i; decide +kernel
  · revert i; decide +kernel
