/-! ===== the reference takes a token ===== -/
def txM (T : St) (w : Nat → Nat) (n : Nat) : Prop := n ≤ 300 ∧ rd T 0 23 = nI n ∧ (∀ i, i < n → w i < 256 ∧ rd T 1 i = nI (w i)) ∧ ∀ i, i < 15 → rd T 13 i = nI (wrd i)
theorem txM_fr {S S' : St} {w : Nat → Nat} {n : Nat} (h : txM S w n) (hS : ∀ c i, (c = 1 ∨ c = 13 ∨ (c = 0 ∧ i = 23)) → rd S' c i = rd S c i) : txM S' w n := ⟨h.1, by rw [hS 0 23 (by omega)]; exact h.2.1, fun i hi => by rw [hS 1 i (by omega)]; exact h.2.2.1 i hi, fun i hi => by rw [hS 13 i (by omega)]; exact h.2.2.2 i hi⟩
theorem skipM {w : Nat → Nat} {n : Nat} : ∀ (m p : Nat) (S : St), n - p < m → p ≤ n → txM S w n → rd S 0 24 = nI p → g_X10_take_0 m S = f_X10_take_52 (up S 0 24 (nI (rnn isB w n p))) := by
  intro m
  induction m with
  | zero => intro p S h; omega
  | succ m ih =>
    intro p S h1 h2 hx hp
    have hx' := hx
    obtain ⟨t1, t2, t3, t4⟩ := hx
    show f_X10_take_0 (g_X10_take_0 m) S = _
    unfold f_X10_take_0
    simp (disch := omega) only [t2, hp, nI_leI]
    by_cases q : p = n
    · rw [if_pos (by omega), rnn_stop h2 (fun u => by omega), up_self hp]
    · rw [if_neg (by omega)]
      obtain ⟨u1, u2⟩ := t3 p (by omega)
      simp (disch := omega) only [ck_nI, nI_clamp, u2, l_10, l_32, nI_eq, lt, hp, nI_1]
      have nxt : isB (w p) = true → g_X10_take_0 m (up S 0 24 (nI (p + 1))) = f_X10_take_52 (up S 0 24 (nI (rnn isB w n p))) := by
        intro v
        rw [rnn_step (by omega) v]
        have e := ih (p + 1) (up S 0 24 (nI (p + 1))) (by omega) (by omega) (txM_fr hx' (fun c i z => rd_ne (by omega))) (rd_same _ _ _ _)
        rw [e, up_up]
      by_cases v1 : w p = 10
      · rw [if_pos v1]; exact nxt (by unfold isB; simp [v1])
      · rw [if_neg v1]
        by_cases v2 : w p = 32
        · rw [if_pos v2]; exact nxt (by unfold isB; simp [v2])
        · rw [if_neg v2, rnn_stop h2 (fun _ => by unfold isB; simp [v1, v2]), up_self hp]
theorem small_eq {w : Nat → Nat} {n i : Nat} {T : St} (hx : txM T w n) (hi : i ≤ n) : m_X10_isSmall (nI i) T = some (b2 (decide (i < n) && isL (w i)), T) := by
  obtain ⟨t1, t2, t3, t4⟩ := hx
  unfold m_X10_isSmall f_X10_isSmall_0
  simp (disch := omega) only [t2, nI_leI]
  by_cases q : i = n
  · rw [if_pos (by omega), show decide (i < n) = false by simp; omega]; rfl
  · rw [if_neg (by omega), show decide (i < n) = true by simp; omega]
    obtain ⟨u1, u2⟩ := t3 i (by omega)
    simp (disch := omega) only [ck_nI, nI_clamp, u2, l_97, l_122, nI_ltI]
    unfold isL
    by_cases v : w i < 97
    · rw [if_pos v, show decide (97 ≤ w i) = false by simp; omega]; rfl
    · rw [if_neg v, show decide (97 ≤ w i) = true by simp; omega]
      by_cases u : 122 < w i
      · rw [if_pos u, show decide (w i ≤ 122) = false by simp; omega]; rfl
      · rw [if_neg u, show decide (w i ≤ 122) = true by simp; omega]; rfl
theorem digM_eq {w : Nat → Nat} {n i : Nat} {T : St} (hx : txM T w n) (hi : i ≤ n) : m_X10_isDigit (nI i) T = some (b2 (decide (i < n) && isD (w i)), T) := by
  obtain ⟨t1, t2, t3, t4⟩ := hx
  unfold m_X10_isDigit f_X10_isDigit_0
  simp (disch := omega) only [t2, nI_leI]
  by_cases q : i = n
  · rw [if_pos (by omega), show decide (i < n) = false by simp; omega]; rfl
  · rw [if_neg (by omega), show decide (i < n) = true by simp; omega]
    obtain ⟨u1, u2⟩ := t3 i (by omega)
    simp (disch := omega) only [ck_nI, nI_clamp, u2, l_57, show (48 : Int32) = nI 48 from rfl, nI_ltI]
    unfold isD
    by_cases v : w i < 48
    · rw [if_pos v, show decide (48 ≤ w i) = false by simp; omega]; rfl
    · rw [if_neg v, show decide (48 ≤ w i) = true by simp; omega]
      by_cases u : 57 < w i
      · rw [if_pos u, show decide (w i ≤ 57) = false by simp; omega]; rfl
      · rw [if_neg u, show decide (w i ≤ 57) = true by simp; omega]; rfl
/-! words -/
theorem wrd_lt : ∀ i, i < 15 → wrd i < 256 := by decide
section Word
variable {T : St} {w : Nat → Nat} {n a b i : Nat} {x3 : Int32} {k5 : Int32 → Int32 → Int32 → Int32 → St → Option (Int32 × St)}
theorem w18_s (hw : ∀ j, j < 15 → rd T 13 j = nI (wrd j)) {m j : Nat} {x1 x2 : Int32} (hj : i + j < 15) (h : wrd (i + j) ≠ 32) : g_X10_wordAt_18 k5 (m + 1) x1 x2 x3 (nI i) (nI j) T = g_X10_wordAt_18 k5 m x1 x2 x3 (nI i) (nI (j + 1)) T := by
  have hl := wrd_lt _ hj
  show f_X10_wordAt_18 k5 (g_X10_wordAt_18 k5 m) _ _ _ _ _ T = _
  unfold f_X10_wordAt_18
  simp (disch := omega) only [nI_add, ck_nI, nI_clamp, hw (i + j) hj, l_32, nI_eq, lt, nI_1]
  rw [if_neg h]
theorem w18 (hw : ∀ j, j < 15 → rd T 13 j = nI (wrd j)) (hi : i = 0 ∨ i = 5 ∨ i = 10) (ha : a ≤ b) (hb : b ≤ 300) : g_X10_wordAt_18 k5 fuel (nI a) (nI b) x3 (nI i) 0 T = if b = a + 4 then g_X10_wordAt_57 k5 fuel (nI a) (nI b) x3 (nI i) (nI 4) 1 0 T else g_X10_wordAt_57 k5 fuel (nI a) (nI b) x3 (nI i) (nI 4) 0 0 T := by
  obtain ⟨m, hm⟩ : ∃ m, fuel = m + 1 + 1 + 1 + 1 + 1 := ⟨99995, rfl⟩
  have e0 : (0 : Int32) = nI 0 := rfl
  have key : ∀ j, j < 4 → wrd (i + j) ≠ 32 := by rcases hi with rfl | rfl | rfl <;> decide
  have k4 : wrd (i + 4) = 32 := by rcases hi with rfl | rfl | rfl <;> decide
  have hl := wrd_lt (i + 4) (by omega)
  have st : g_X10_wordAt_18 k5 fuel (nI a) (nI b) x3 (nI i) 0 T = g_X10_wordAt_18 k5 (m + 1) (nI a) (nI b) x3 (nI i) (nI 4) T := by
    rw [hm, e0, w18_s hw (by omega) (key 0 (by omega)), w18_s hw (by omega) (key 1 (by omega)), w18_s hw (by omega) (key 2 (by omega)), w18_s hw (by omega) (key 3 (by omega))]
  rw [st]
  show f_X10_wordAt_18 k5 (g_X10_wordAt_18 k5 m) _ _ _ _ _ T = _
  unfold f_X10_wordAt_18
  simp (disch := omega) only [nI_add, ck_nI, nI_clamp, hw (i + 4) (by omega), l_32, nI_eq, pk_sub]
  rw [if_pos k4]
  by_cases q : b = a + 4
  · rw [if_pos q, if_pos (by omega)]
  · rw [if_neg q, if_neg (by omega)]
theorem w57_0 {m : Nat} {x1 x2 x4 x7 : Int32} : g_X10_wordAt_57 k5 (m + 1) x1 x2 x3 x4 (nI 4) 0 x7 T = k5 x1 x2 (x3 + 1) (x4 + nI 5) T := by
  show f_X10_wordAt_57 k5 (g_X10_wordAt_57 k5 m) _ _ _ _ _ _ _ T = _
  unfold f_X10_wordAt_57 f_X10_wordAt_104
  simp only [if_true, lt, ite_self]
  rfl
theorem w57_s (hw : ∀ j, j < 15 → rd T 13 j = nI (wrd j)) (h1 : ∀ j, j < 4 → w (a + j) < 256 ∧ rd T 1 (a + j) = nI (w (a + j))) (ha : a + 4 ≤ 300) (hi : i + 4 < 15) {m j : Nat} {x2 : Int32} (hj : j < 4) : g_X10_wordAt_57 k5 (m + 1) (nI a) x2 x3 (nI i) (nI 4) 1 (nI j) T = if wrd (i + j) = w (a + j) then g_X10_wordAt_57 k5 m (nI a) x2 x3 (nI i) (nI 4) 1 (nI (j + 1)) T else g_X10_wordAt_57 k5 m (nI a) x2 x3 (nI i) (nI 4) 0 (nI (j + 1)) T := by
  have hl := wrd_lt (i + j) (by omega)
  obtain ⟨u1, u2⟩ := h1 j hj
  show f_X10_wordAt_57 k5 (g_X10_wordAt_57 k5 m) _ _ _ _ _ _ _ T = _
  unfold f_X10_wordAt_57
  simp (disch := omega) only [nI_leI, nI_add, ck_nI, nI_clamp, hw (i + j) (by omega), u2, nI_eq, lt, nI_1]
  rw [if_neg (by omega), if_neg (by decide)]
theorem w57_1 (hw : ∀ j, j < 15 → rd T 13 j = nI (wrd j)) (h1 : ∀ j, j < 4 → w (a + j) < 256 ∧ rd T 1 (a + j) = nI (w (a + j))) (ha : a + 4 ≤ 300) (hi : i + 4 < 15) {x2 : Int32} : g_X10_wordAt_57 k5 fuel (nI a) x2 x3 (nI i) (nI 4) 1 0 T = if wrd i = w a ∧ wrd (i + 1) = w (a + 1) ∧ wrd (i + 2) = w (a + 2) ∧ wrd (i + 3) = w (a + 3) then some (x3, T) else k5 (nI a) x2 (x3 + 1) (nI i + nI 5) T := by
  obtain ⟨m, hm⟩ : ∃ m, fuel = m + 1 + 1 + 1 + 1 + 1 := ⟨99995, rfl⟩
  have e0 : (0 : Int32) = nI 0 := rfl
  rw [hm, e0, w57_s hw h1 ha hi (by omega)]
  by_cases c0 : wrd (i + 0) = w (a + 0)
  · rw [if_pos c0, w57_s hw h1 ha hi (by omega)]
    by_cases c1 : wrd (i + (0 + 1)) = w (a + (0 + 1))
    · rw [if_pos c1, w57_s hw h1 ha hi (by omega)]
      by_cases c2 : wrd (i + (0 + 1 + 1)) = w (a + (0 + 1 + 1))
      · rw [if_pos c2, w57_s hw h1 ha hi (by omega)]
        by_cases c3 : wrd (i + (0 + 1 + 1 + 1)) = w (a + (0 + 1 + 1 + 1))
        · rw [if_pos c3, if_pos ⟨c0, c1, c2, c3⟩]
          show f_X10_wordAt_57 k5 (g_X10_wordAt_57 k5 m) _ _ _ _ _ _ _ T = _
          unfold f_X10_wordAt_57 f_X10_wordAt_104
          rw [if_pos (by decide), if_neg (by decide)]
        · rw [if_neg c3, if_neg (fun z => c3 z.2.2.2), w57_0]
      · rw [if_neg c2, if_neg (fun z => c2 z.2.2.1), w57_0]
    · rw [if_neg c1, if_neg (fun z => c1 z.2.1), w57_0]
  · rw [if_neg c0, if_neg (fun z => c0 z.1), w57_0]
end Word
theorem word_eq {w : Nat → Nat} {n q e : Nat} {T : St} (hx : txM T w n) (hq : q ≤ e) (he : e ≤ n) : m_X10_wordAt (nI q) (nI e) T = some (if wdx w q e < 3 then nI (wdx w q e) else -1, T) := by
  obtain ⟨t1, t2, t3, t4⟩ := hx
  obtain ⟨m, hm⟩ : ∃ m, fuel = m + 1 + 1 + 1 + 1 := ⟨99996, rfl⟩
  obtain ⟨m', hm'⟩ : ∃ m', fuel = m' + 1 := ⟨99999, rfl⟩
  have e0 : (0 : Int32) = nI 0 := rfl
  have st : ∀ (m k i : Nat), (i = 0 ∨ i = 5 ∨ i = 10) → g_X10_wordAt_5 (m + 1) (nI q) (nI e) (nI k) (nI i) T = if e = q + 4 then (if wrd i = w q ∧ wrd (i + 1) = w (q + 1) ∧ wrd (i + 2) = w (q + 2) ∧ wrd (i + 3) = w (q + 3) then some (nI k, T) else g_X10_wordAt_5 m (nI q) (nI e) (nI (k + 1)) (nI (i + 5)) T) else g_X10_wordAt_5 m (nI q) (nI e) (nI (k + 1)) (nI (i + 5)) T := by
    intro m k i hi
    show f_X10_wordAt_5 (g_X10_wordAt_5 m) _ _ _ _ T = _
    unfold f_X10_wordAt_5
    rw [if_neg (by rw [show (15 : Int32) = nI 15 from rfl, nI_leI (by omega) (by omega)]; omega), w18 t4 hi hq (by omega)]
    by_cases u : e = q + 4
    · rw [if_pos u, if_pos u, w57_1 t4 (fun j hj => t3 (q + j) (by omega)) (by omega) (by omega), nI_1, nI_add]
    · rw [if_neg u, if_neg u, hm', w57_0, nI_1, nI_add]
  have fin : ∀ m k, g_X10_wordAt_5 (m + 1) (nI q) (nI e) (nI k) (nI 15) T = some (-1, T) := by
    intro m k
    show f_X10_wordAt_5 (g_X10_wordAt_5 m) _ _ _ _ T = _
    unfold f_X10_wordAt_5
    rw [if_pos (by decide)]
  unfold m_X10_wordAt f_X10_wordAt_0
  rw [hm, e0, st _ 0 0 (by omega), st _ 1 5 (by omega), st _ 2 10 (by omega), fin]
  unfold wdx
  by_cases u : e = q + 4
  · simp only [if_pos u]
    by_cases c0 : w q = 115 ∧ w (q + 1) = 116 ∧ w (q + 2) = 97 ∧ w (q + 3) = 121
    · rw [if_pos (show wrd 0 = w q ∧ wrd (0 + 1) = w (q + 1) ∧ wrd (0 + 2) = w (q + 2) ∧ wrd (0 + 3) = w (q + 3) from ⟨c0.1.symm, c0.2.1.symm, c0.2.2.1.symm, c0.2.2.2.symm⟩), if_pos c0, if_pos (by omega)]
    · rw [if_neg (show ¬ (wrd 0 = w q ∧ wrd (0 + 1) = w (q + 1) ∧ wrd (0 + 2) = w (q + 2) ∧ wrd (0 + 3) = w (q + 3)) from fun z => c0 ⟨z.1.symm, z.2.1.symm, z.2.2.1.symm, z.2.2.2.symm⟩), if_neg c0]
      by_cases c1 : w q = 116 ∧ w (q + 1) = 97 ∧ w (q + 2) = 107 ∧ w (q + 3) = 101
      · rw [if_pos (show wrd 5 = w q ∧ wrd (5 + 1) = w (q + 1) ∧ wrd (5 + 2) = w (q + 2) ∧ wrd (5 + 3) = w (q + 3) from ⟨c1.1.symm, c1.2.1.symm, c1.2.2.1.symm, c1.2.2.2.symm⟩), if_pos c1, if_pos (by omega)]
      · rw [if_neg (show ¬ (wrd 5 = w q ∧ wrd (5 + 1) = w (q + 1) ∧ wrd (5 + 2) = w (q + 2) ∧ wrd (5 + 3) = w (q + 3)) from fun z => c1 ⟨z.1.symm, z.2.1.symm, z.2.2.1.symm, z.2.2.2.symm⟩), if_neg c1]
        by_cases c2 : w q = 100 ∧ w (q + 1) = 114 ∧ w (q + 2) = 111 ∧ w (q + 3) = 112
        · rw [if_pos (show wrd 10 = w q ∧ wrd (10 + 1) = w (q + 1) ∧ wrd (10 + 2) = w (q + 2) ∧ wrd (10 + 3) = w (q + 3) from ⟨c2.1.symm, c2.2.1.symm, c2.2.2.1.symm, c2.2.2.2.symm⟩), if_pos c2, if_pos (by omega)]
        · rw [if_neg (show ¬ (wrd 10 = w q ∧ wrd (10 + 1) = w (q + 1) ∧ wrd (10 + 2) = w (q + 2) ∧ wrd (10 + 3) = w (q + 3)) from fun z => c2 ⟨z.1.symm, z.2.1.symm, z.2.2.1.symm, z.2.2.2.symm⟩), if_neg c2, if_neg (by omega)]
  · simp only [if_neg u]
    rw [if_neg (by omega)]
