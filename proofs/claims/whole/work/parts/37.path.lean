/-! ===== path ===== -/
def enP (en : Nat → Nat) (P a b : Nat) : Nat → Nat := fun e => if e = 2 * P then a else if e = 2 * P + 1 then b else en e
theorem enP_a (en : Nat → Nat) (P a b : Nat) : enP en P a b (2 * P) = a := if_pos rfl
theorem enP_b (en : Nat → Nat) (P a b : Nat) : enP en P a b (2 * P + 1) = b := by unfold enP; rw [if_neg (by omega), if_pos rfl]
theorem enP_o {en : Nat → Nat} {P a b e : Nat} (h : e < 2 * P) : enP en P a b e = en e := by unfold enP; rw [if_neg (by omega), if_neg (by omega)]
theorem ctP_o {en : Nat → Nat} {P a b j n : Nat} (h : n ≤ 2 * P) : ctj (enP en P a b) j n = ctj en j n :=
  fb_ct_cong (fun k hk => by show (enP en P a b k == j) = (en k == j); rw [enP_o (by omega)])
theorem ctP_1 (en : Nat → Nat) (P a b j : Nat) : ctj (enP en P a b) j (2 * P + 1) = ctj en j (2 * P) + (if a = j then 1 else 0) := by
  rw [ctj_succ, ctP_o (Nat.le_refl _), enP_a]
theorem ctP_2 (en : Nat → Nat) (P a b j : Nat) : ctj (enP en P a b) j (2 * (P + 1)) = ctj en j (2 * P) + (if a = j then 1 else 0) + (if b = j then 1 else 0) := by
  show ctj (enP en P a b) j (2 * P + 1 + 1) = _
  rw [ctj_succ, ctP_1, enP_b]
theorem addEnd_eq {S : St} {j s c : Nat} (h : rd S 8 j = nI c) (hj : j < 8) (hc : c < 6) : m_X0_addEnd (nI j) (nI s) S = some (up (up S 14 (j * 6 + c) (nI s)) 8 j (nI (c + 1))) := by
  unfold m_X0_addEnd f_X0_addEnd_0
  simp (disch := omega) only [ck_nI, nI_clamp, h, l_6, l_1, pk_mul, nI_add, lt, rd_ne]
theorem path_X {S : St} {J P : Nat} {en ga : Nat → Nat} {ou mk sh b : Nat} (hn : gaN J P en ga ou mk sh b) (hx : gaX S J P en ga ou mk sh b) {a d : Nat} (ha : a < J) (hd : d < J) (hP : P < 12) (h6a : ctj en a (2 * P) + (if a = d then 2 else 1) ≤ 6) (h6d : ctj en d (2 * P) + (if a = d then 2 else 1) ≤ 6) (m : Nat) (hmm : m = if a = d then 2 else 1) :
    ∃ S1, f_X0_addPath_37 (nI a) (nI d) (nI m) S = some (nI P, S1) ∧ gaX S1 J (P + 1) (enP en P a d) (fun p => if p = P then 255 else ga p) ou mk sh b ∧ (∀ c i, (c < 6 ∨ 15 < c) → rd S1 c i = rd S c i) := by
  obtain ⟨n1, n2, n3, n4, n5, n6, n7, n8, n9⟩ := hn
  obtain ⟨x1, x2, x3, x4, x5, x6, x7, x8, x9, x10⟩ := hx
  have xa := (x9 a ha).1
  have xd := (x9 d hd).1
  have hm1 : 1 ≤ m ∧ m ≤ 2 := by rw [hmm]; by_cases q : a = d <;> simp [q]
  rw [← hmm] at h6a h6d
  unfold f_X0_addPath_37
  simp (disch := omega) only [ck_nI, nI_clamp, xa, xd, l_6, l_1, l_2, l_255, nI_add, nI_ltI, nI_leI, lt, x2, pk_mul]
  rw [if_neg (by omega), if_pos (by omega)]
  have e1 : rd (up (up S 6 1 (nI (P + 1))) 7 P (nI 255)) 8 a = nI (ctj en a (2 * P)) := by simp (disch := omega) only [rd_ne]; exact xa
  rw [addEnd_eq e1 (by omega) (by omega)]
  simp only [bV_some]
  have c1 := ctP_1 en P a d d
  have hc1 : ctj (enP en P a d) d (2 * P + 1) < 6 := by
    rw [c1]
    by_cases q : a = d
    · rw [if_pos q] at hmm; rw [if_pos q]; omega
    · rw [if_neg q] at hmm; rw [if_neg q]; omega
  have e2 : rd (up (up (up (up S 6 1 (nI (P + 1))) 7 P (nI 255)) 14 (a * 6 + ctj en a (2 * P)) (nI (2 * P))) 8 a (nI (ctj en a (2 * P) + 1))) 8 d = nI (ctj (enP en P a d) d (2 * P + 1)) := by
    rw [c1]
    by_cases q : a = d
    · subst q; rw [rd_same, if_pos rfl]
    · rw [rd_ix (by omega), if_neg q]; simp (disch := omega) only [rd_ne]; exact xd
  rw [addEnd_eq e2 (by omega) hc1]
  simp only [bV_some]
  generalize hSS : up (up (up (up (up (up S 6 1 (nI (P + 1))) 7 P (nI 255)) 14 (a * 6 + ctj en a (2 * P)) (nI (2 * P))) 8 a (nI (ctj en a (2 * P) + 1))) 14 (d * 6 + ctj (enP en P a d) d (2 * P + 1)) (nI (2 * P + 1))) 8 d (nI (ctj (enP en P a d) d (2 * P + 1) + 1)) = S2
  have hen : ∀ e, e < 2 * (P + 1) → enP en P a d e < J := by
    intro e he
    by_cases q1 : e = 2 * P
    · subst q1; rw [enP_a]; exact ha
    · by_cases q2 : e = 2 * P + 1
      · subst q2; rw [enP_b]; exact hd
      · rw [enP_o (by omega)]; exact n3 e (by omega)
  have hct : ∀ j, j < J → ctj (enP en P a d) j (2 * (P + 1)) ≤ 6 := by
    intro j hj
    rw [ctP_2]
    have := n4 j hj
    by_cases q1 : a = j
    · by_cases q2 : d = j
      · rw [if_pos q1, if_pos q2]; subst q1; rw [if_pos q2.symm] at hmm; omega
      · rw [if_pos q1, if_neg q2]; subst q1; omega
    · by_cases q2 : d = j
      · rw [if_neg q1, if_pos q2]; subst q2; omega
      · rw [if_neg q1, if_neg q2]; omega
  have fr : ∀ c i, c ≠ 7 → c ≠ 8 → c ≠ 14 → (c ≠ 6 ∨ i ≠ 1) → rd S2 c i = rd S c i := by
    intro c i w1 w2 w3 w4
    rw [← hSS]; simp (disch := omega) only [rd_ne]
  have g8 : ∀ j, j < J → rd S2 8 j = nI (ctj (enP en P a d) j (2 * (P + 1))) := by
    intro j hj
    rw [ctP_2, ← hSS]
    by_cases q2 : j = d
    · subst q2; rw [rd_same, c1, if_pos (rfl : j = j)]
    · rw [rd_ix q2, rd_cell (by omega)]
      have q3 : ¬ d = j := fun w => q2 w.symm
      rw [if_neg q3]
      by_cases q1 : a = j
      · subst q1; rw [rd_same, if_pos rfl]
      · rw [rd_ix (by omega), if_neg q1]; simp (disch := omega) only [rd_ne]; exact (x9 j hj).1
  have g14 : ∀ e, e < 2 * (P + 1) → rd S2 14 (6 * enP en P a d e + ctj (enP en P a d) (enP en P a d e) e) = nI e := by
    intro e he
    rw [← hSS, rd_cell (by omega)]
    by_cases q2 : e = 2 * P + 1
    · subst q2
      rw [enP_b, show 6 * d + ctj (enP en P a d) d (2 * P + 1) = d * 6 + ctj (enP en P a d) d (2 * P + 1) by omega, rd_same]
    · by_cases q1 : e = 2 * P
      · subst q1
        rw [enP_a, ctP_o (Nat.le_refl _)]
        have : 6 * a + ctj en a (2 * P) ≠ d * 6 + ctj (enP en P a d) d (2 * P + 1) := by
          rw [c1] at hc1 ⊢
          by_cases q : a = d
          · subst q; rw [if_pos rfl]; omega
          · rw [if_neg q] at hc1 ⊢; omega
        rw [rd_ix this, rd_cell (by omega), show 6 * a + ctj en a (2 * P) = a * 6 + ctj en a (2 * P) by omega, rd_same]
      · have he2 : e < 2 * P := by omega
        rw [enP_o he2, ctP_o (n := e) (by omega)]
        have k1 := ctj_lt (en := en) he2
        have k2 := n4 _ (n3 e he2)
        have w1 : 6 * en e + ctj en (en e) e ≠ d * 6 + ctj (enP en P a d) d (2 * P + 1) := by
          intro w
          have : en e = d := by omega
          rw [this] at w k1
          rw [c1] at w
          by_cases q : a = d
          · rw [if_pos q] at w; omega
          · rw [if_neg q] at w; omega
        have w2 : 6 * en e + ctj en (en e) e ≠ a * 6 + ctj en a (2 * P) := by
          intro w
          have : en e = a := by omega
          rw [this] at w k1
          omega
        rw [rd_ix w1, rd_cell (by omega), rd_ix w2, rd_cell (by omega), rd_cell (by omega)]
        exact (x10 e he2).2.2
  obtain ⟨S3, e3, k1, k2, k3, k4, k5, k6⟩ := numX (en := enP en P a d) (P := P + 1) (J := J) (by omega) n1 hen (T0 := S2) (by rw [fr 6 0 (by omega) (by omega) (by omega) (by omega)]; exact x1) g8 hct g14
  rw [e3]
  have fr2 : ∀ c i, c ≠ 9 → c ≠ 10 → c ≠ 11 → c ≠ 12 → c ≠ 13 → c ≠ 15 → (c ≠ 6 ∨ i ≠ 2) → rd S3 c i = rd S2 c i := k6
  simp only [bV_some]
  refine ⟨_, rfl, ⟨?_, ?_, k1, ?_, ?_, ?_, ?_, fun p hp => ?_, fun j hj => ⟨?_, k2 j hj⟩, fun e he => ⟨k3 e he, k4 e he, ?_⟩⟩, fun c i q => ?_⟩
  · rw [fr2 6 0 (by omega) (by omega) (by omega) (by omega) (by omega) (by omega) (by omega), fr 6 0 (by omega) (by omega) (by omega) (by omega)]; exact x1
  · rw [fr2 6 1 (by omega) (by omega) (by omega) (by omega) (by omega) (by omega) (by omega), ← hSS]; simp (disch := omega) only [rd_ne, rd_same]
  · rw [fr2 6 3 (by omega) (by omega) (by omega) (by omega) (by omega) (by omega) (by omega), fr 6 3 (by omega) (by omega) (by omega) (by omega)]; exact x4
  · rw [fr2 6 4 (by omega) (by omega) (by omega) (by omega) (by omega) (by omega) (by omega), fr 6 4 (by omega) (by omega) (by omega) (by omega)]; exact x5
  · rw [fr2 6 5 (by omega) (by omega) (by omega) (by omega) (by omega) (by omega) (by omega), fr 6 5 (by omega) (by omega) (by omega) (by omega)]; exact x6
  · rw [fr2 6 6 (by omega) (by omega) (by omega) (by omega) (by omega) (by omega) (by omega), fr 6 6 (by omega) (by omega) (by omega) (by omega)]; exact x7
  · rw [fr2 7 p (by omega) (by omega) (by omega) (by omega) (by omega) (by omega) (by omega), ← hSS]
    by_cases q : p = P
    · subst q; simp (disch := omega) only [rd_ne, rd_same, if_true]
    · simp (disch := omega) only [rd_ne, q, if_false]; exact x8 p (by omega)
  · rw [fr2 8 j (by omega) (by omega) (by omega) (by omega) (by omega) (by omega) (by omega)]; exact g8 j hj
  · rw [fr2 14 _ (by omega) (by omega) (by omega) (by omega) (by omega) (by omega) (by omega)]; exact g14 e he
  · rw [fr2 c i (by omega) (by omega) (by omega) (by omega) (by omega) (by omega) (by omega), fr c i (by omega) (by omega) (by omega) (by omega)]
theorem path_M {T : St} {J P : Nat} {en ga : Nat → Nat} {ou mk sh b : Nat} (hn : gaN J P en ga ou mk sh b) (hm : gaM T J P en ga ou mk sh b) {a d : Nat} (ha : a < J) (hd : d < J) (hP : P < 12) (m : Nat) (s : Nat) (hs : s + m ≤ 6) :
    ∃ T1, f_X10_path_68 (nI a) (nI d) (nI m) (nI s) T = some (nI P, T1) ∧ gaM T1 J (P + 1) (enP en P a d) (fun p => if p = P then 255 else ga p) ou mk sh b ∧ rd T1 0 48 = -1 ∧ (∀ c i, (c ≠ 0 ∨ (i ≠ 2 ∧ i ≠ 8 ∧ i ≠ 11 ∧ i ≠ 15 ∧ i ≠ 16 ∧ i ≠ 48)) → (c < 3 ∨ 12 < c) → rd T1 c i = rd T c i) := by
  obtain ⟨n1, n2, n3, n4, n5, n6, n7, n8, n9⟩ := hn
  obtain ⟨y1, y2, y3, y4, y5, y6, y7⟩ := hm
  unfold f_X10_path_68
  simp (disch := omega) only [ck_nI, nI_clamp, y2, rd_ne, l_6, nI_1, l_2, l_255, nI_add, nI_leI, lt, pk_mul]
  rw [if_pos (by omega)]
  have z0 : zb 0 = b2 false := by decide +kernel
  generalize hTT : up (up (up (up (up (up T 5 (2 * P) (nI a)) 5 (2 * P + 1) (nI d)) 6 P (nI 255)) 7 P (zb 0)) 0 11 (nI (P + 1))) 0 48 (-1) = T2
  have hen : ∀ e, e < 2 * (P + 1) → enP en P a d e < J := by
    intro e he
    by_cases q1 : e = 2 * P
    · subst q1; rw [enP_a]; exact ha
    · by_cases q2 : e = 2 * P + 1
      · subst q2; rw [enP_b]; exact hd
      · rw [enP_o (by omega)]; exact n3 e (by omega)
  have g5 : ∀ e, e < 2 * (P + 1) → rd T2 5 e = nI (enP en P a d e) := by
    intro e he
    rw [← hTT]
    by_cases q1 : e = 2 * P
    · subst q1; rw [enP_a]; simp (disch := omega) only [rd_ne, rd_same]
    · by_cases q2 : e = 2 * P + 1
      · subst q2; rw [enP_b]; simp (disch := omega) only [rd_ne, rd_same]
      · rw [enP_o (by omega)]; simp (disch := omega) only [rd_ne]; exact (y7 e (by omega)).1
  obtain ⟨T1, e1, k1, k2, k3, k4, k5⟩ := numM (en := enP en P a d) (P := P + 1) (J := J) (by omega) n1 hen (T0 := T2) (by rw [← hTT]; simp (disch := omega) only [rd_ne, rd_same]) (by rw [← hTT]; simp (disch := omega) only [rd_ne]; exact y1) g5
  have fr : ∀ c i, c ≠ 8 → c ≠ 9 → c ≠ 10 → c ≠ 11 → c ≠ 12 → (c ≠ 0 ∨ i ≠ 16) → rd T1 c i = rd T2 c i := k5
  have f11 : rd T1 0 11 = nI (P + 1) := by rw [fr 0 11 (by omega) (by omega) (by omega) (by omega) (by omega) (by omega), ← hTT]; simp (disch := omega) only [rd_ne, rd_same]
  rw [e1]
  simp only [bV_some, f11]
  refine ⟨T1, by rw [nI_pred], ⟨?_, f11, ?_, ?_, fun j hj => ⟨?_, ?_, k2 j hj⟩, fun p hp => ⟨?_, ?_⟩, fun e he => ⟨?_, k3 e he (hen e he)⟩⟩, ?_, fun c i q1 q2 => ?_⟩
  · rw [fr 0 8 (by omega) (by omega) (by omega) (by omega) (by omega) (by omega), ← hTT]; simp (disch := omega) only [rd_ne]; exact y1
  · rw [fr 0 15 (by omega) (by omega) (by omega) (by omega) (by omega) (by omega), ← hTT]; simp (disch := omega) only [rd_ne]; exact y3
  · rw [k1, baj_all hen]
  · rw [fr 3 j (by omega) (by omega) (by omega) (by omega) (by omega) (by omega), ← hTT]; simp (disch := omega) only [rd_ne]; exact (y5 j hj).1
  · rw [fr 4 j (by omega) (by omega) (by omega) (by omega) (by omega) (by omega), ← hTT]; simp (disch := omega) only [rd_ne]; exact (y5 j hj).2.1
  · rw [fr 6 p (by omega) (by omega) (by omega) (by omega) (by omega) (by omega), ← hTT]
    by_cases q : p = P
    · subst q; simp (disch := omega) only [rd_ne, rd_same, if_true]
    · simp (disch := omega) only [rd_ne, q, if_false]; exact (y6 p (by omega)).1
  · rw [fr 7 p (by omega) (by omega) (by omega) (by omega) (by omega) (by omega), ← hTT]
    by_cases q : p = P
    · subst q; simp (disch := omega) only [rd_ne, rd_same, tb_hi n9 (Nat.le_refl _), z0]
    · simp (disch := omega) only [rd_ne]; exact (y6 p (by omega)).2
  · rw [fr 5 e (by omega) (by omega) (by omega) (by omega) (by omega) (by omega)]; exact g5 e he
  · rw [fr 0 48 (by omega) (by omega) (by omega) (by omega) (by omega) (by omega), ← hTT]; simp (disch := omega) only [rd_same]
  · rw [fr c i (by omega) (by omega) (by omega) (by omega) (by omega) (by omega), ← hTT]; simp (disch := omega) only [rd_ne]
theorem gaN_path {J P : Nat} {en ga : Nat → Nat} {ou mk sh b : Nat} (hn : gaN J P en ga ou mk sh b) {a d : Nat} (ha : a < J) (hd : d < J) (hP : P < 12) (h6a : ctj en a (2 * P) + (if a = d then 2 else 1) ≤ 6) (h6d : ctj en d (2 * P) + (if a = d then 2 else 1) ≤ 6) : gaN J (P + 1) (enP en P a d) (fun p => if p = P then 255 else ga p) ou mk sh b := by
  obtain ⟨n1, n2, n3, n4, n5, n6, n7, n8, n9⟩ := hn
  refine ⟨n1, by omega, fun e he => ?_, fun j hj => ?_, n5, fun p hp => ?_, n7, n8, Nat.lt_of_lt_of_le n9 (Nat.pow_le_pow_right (by decide) (by omega))⟩
  · by_cases q1 : e = 2 * P
    · subst q1; rw [enP_a]; exact ha
    · by_cases q2 : e = 2 * P + 1
      · subst q2; rw [enP_b]; exact hd
      · rw [enP_o (by omega)]; exact n3 e (by omega)
  · rw [ctP_2]
    have := n4 j hj
    by_cases q1 : a = j
    · by_cases q2 : d = j
      · rw [if_pos q1, if_pos q2]; subst q1; rw [if_pos q2.symm] at h6a; omega
      · rw [if_pos q1, if_neg q2]; subst q1; by_cases q : a = d
        · rw [if_pos q] at h6a; omega
        · rw [if_neg q] at h6a; omega
    · by_cases q2 : d = j
      · rw [if_neg q1, if_pos q2]; subst q2; by_cases q : a = d
        · rw [if_pos q] at h6d; omega
        · rw [if_neg q] at h6d; omega
      · rw [if_neg q1, if_neg q2]; omega
  · by_cases q : p = P
    · simp only [q, if_true]; omega
    · simp only [q, if_false]; exact n6 p (by omega)
theorem st_path : St_path Rl := by
  intro a1 a2 S T h
  obtain ⟨J, P, en, ga, ou, mk, sh, b, hn, hx, hm⟩ := h.2.2.2.1
  have hJ : J ≤ 8 := hn.1
  have hP : P ≤ 12 := hn.2.1
  have hm0 : gaM (up T 0 2 0) J P en ga ou mk sh b := gaM_fr hm (fun c i q => rd_ne (by omega))
  have e1 : rd (up T 0 2 0) 0 8 = nI J := hm0.1
  have e2 : rd (up T 0 2 0) 0 11 = nI P := hm0.2.1
  unfold m_X9_path f_X9_path_0 m_X0_addPath f_X0_addPath_0 m_X10_path f_X10_path_0
  simp (disch := omega) only [lt, e2, hx.2.1, l_12, nI_eq, nI_ltI]
  have out : ∀ x : Option (Int32 × St), x = some (-1, up T 0 2 0) → ∃ (r : Int32) (S1 T1 : St), (bI (some (-1, S)) fun r2 S1 => if r2 = -1 then some (r2, S1) else bV (m_X6_forget S1) fun S4 => some (r2, S4)) = some (r, S1) ∧ x = some (r, T1) ∧ Rl S1 T1 := by
    intro x ex
    exact ⟨-1, S, up T 0 2 0, rfl, ex, Rl_0 h 0⟩
  have m10 : ∀ x y : Option (Int32 × St), x = some (-1, up T 0 2 0) → y = some (-1, up T 0 2 0) → (if P = 12 then x else y) = some (-1, up T 0 2 0) := by
    intro x y hx hy
    by_cases q : P = 12
    · rw [if_pos q]; exact hx
    · rw [if_neg q]; exact hy
  by_cases c : a1 < 0
  · simp only [neg_all c, bI_some, if_true]
    exact out _ (m10 _ _ rfl rfl)
  by_cases c' : a2 < 0
  · obtain ⟨a, hla, rfl⟩ := nI_of c
    rw [hasJ_eq hx.1 (by omega) hla, isJ_eq e1 (by omega) hla]
    simp only [neg_all c', bI_some, if_true, b2_d]
    by_cases q : a < J
    · simp only [q, not_true, if_false]; exact out _ (m10 _ _ rfl rfl)
    · simp only [q, not_false_iff, if_true]; exact out _ (m10 _ _ rfl rfl)
  obtain ⟨a, hla, rfl⟩ := nI_of c
  obtain ⟨d, hld, rfl⟩ := nI_of c'
  rw [hasJ_eq hx.1 (by omega) hla, isJ_eq e1 (by omega) hla]
  simp only [bI_some, b2_d, hasJ_eq hx.1 (show J < 2 ^ 31 by omega) hld, isJ_eq e1 (show J < 2 ^ 31 by omega) hld]
  by_cases q : a < J
  · simp only [q, not_true, if_false]
    by_cases q' : d < J
    · simp only [q', not_true, if_false]
      by_cases hp : P = 12
      · simp (disch := omega) only [hx.2.1, l_12, nI_ltI]
        rw [if_pos hp, if_neg (show ¬ P < 12 by omega)]; exact out _ rfl
      · have hp2 : P < 12 := by omega
        simp (disch := omega) only [hx.2.1, l_12, nI_ltI]
        rw [if_neg hp, if_pos hp2]
        have ya := (hm0.2.2.2.2.1 a q).2.2.1
        have yd := (hm0.2.2.2.2.1 d q').2.2.1
        have xa := (hx.2.2.2.2.2.2.2.2.1 a q).1
        have xd := (hx.2.2.2.2.2.2.2.2.1 d q').1
        have na := hn.2.2.2.1 a q
        have nd := hn.2.2.2.1 d q'
        simp (disch := omega) only [ck_nI, nI_clamp, ya, nI_eq]
        unfold f_X10_path_46
        simp (disch := omega) only [ck_nI, nI_clamp, yd, nI_eq, l_6, l_2, nI_1, nI_add, nI_ltI]
        obtain ⟨m, hmm⟩ : ∃ m, m = if a = d then 2 else 1 := ⟨_, rfl⟩
        have eX : (if a = d then f_X0_addPath_37 (nI a) (nI d) (nI 2) S else f_X0_addPath_37 (nI a) (nI d) 1 S) = f_X0_addPath_37 (nI a) (nI d) (nI m) S := by
          by_cases w : a = d
          · rw [hmm, if_pos w, if_pos w]
          · rw [hmm, if_neg w, if_neg w]; rfl
        have eT : (if a = d then (if 6 < ctj en a (2 * P) + 2 then some (-1, up T 0 2 0) else if a = d then f_X10_path_68 (nI a) (nI d) (nI 2) (nI (ctj en d (2 * P))) (up T 0 2 0) else f_X10_path_68 (nI a) (nI d) 1 (nI (ctj en d (2 * P))) (up T 0 2 0)) else (if 6 < ctj en a (2 * P) + 1 then some (-1, up T 0 2 0) else if a = d then f_X10_path_68 (nI a) (nI d) (nI 2) (nI (ctj en d (2 * P))) (up T 0 2 0) else f_X10_path_68 (nI a) (nI d) 1 (nI (ctj en d (2 * P))) (up T 0 2 0))) = if 6 < ctj en a (2 * P) + m then some (-1, up T 0 2 0) else f_X10_path_68 (nI a) (nI d) (nI m) (nI (ctj en d (2 * P))) (up T 0 2 0) := by
          by_cases w : a = d
          · rw [hmm, if_pos w, if_pos w, if_pos w]
          · rw [hmm, if_neg w, if_neg w, if_neg w]; rfl
        rw [eX, eT]
        have hm1 : 1 ≤ m ∧ m ≤ 2 := by rw [hmm]; by_cases w : a = d <;> simp [w]
        by_cases k1 : 6 < ctj en a (2 * P) + m
        · rw [if_pos k1]
          have : f_X0_addPath_37 (nI a) (nI d) (nI m) S = some (-1, S) := by
            unfold f_X0_addPath_37
            simp (disch := omega) only [ck_nI, nI_clamp, xa, l_6, nI_add, nI_ltI]
            rw [if_pos k1]
          rw [this]; exact out _ rfl
        · rw [if_neg k1]
          by_cases k2 : ctj en d (2 * P) + m ≤ 6
          · rw [hmm] at k1 k2
            obtain ⟨S1, s1, s2, s3⟩ := path_X hn hx q q' hp2 (by omega) k2 m hmm
            obtain ⟨T1, t1, t2, t3, t4⟩ := path_M hn hm0 q q' hp2 m (ctj en d (2 * P)) (by rw [hmm]; exact k2)
            rw [s1, t1]
            unfold m_X6_forget f_X6_forget_0
            simp (disch := omega) only [bI_some, nI_ne_m1, if_false, lt, bV_some]
            refine ⟨_, _, T1, rfl, rfl, ?_⟩
            refine Rl_GU h ⟨J, P + 1, _, _, ou, mk, sh, b, gaN_path hn q q' hp2 (by omega) k2, gaX_fr s2 (fun c i w => rd_ne (by omega)), t2⟩ (Or.inl ⟨rd_same _ _ _ _, t3⟩) (fun c i w1 w2 => by rw [rd_ne (by omega), s3 c i (by omega)]) (fun c i w1 w2 => by rw [t4 c i w1 w2, rd_ne (by omega)])
          · have e3 : f_X0_addPath_37 (nI a) (nI d) (nI m) S = some (-1, S) := by
              unfold f_X0_addPath_37
              simp (disch := omega) only [ck_nI, nI_clamp, xa, xd, l_6, nI_add, nI_ltI, nI_leI]
              rw [if_neg k1, if_neg k2]
            have e4 : f_X10_path_68 (nI a) (nI d) (nI m) (nI (ctj en d (2 * P))) (up T 0 2 0) = some (-1, up T 0 2 0) := by
              unfold f_X10_path_68
              simp (disch := omega) only [l_6, nI_add, nI_leI]
              rw [if_neg k2]
            rw [e3, e4]; exact out _ rfl
    · simp only [q', not_false_iff, if_true]; exact out _ (m10 _ _ rfl rfl)
  · simp only [q, not_false_iff, if_true]; exact out _ (m10 _ _ rfl rfl)
