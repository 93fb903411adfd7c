/-! ===== the reference's help ===== -/
def gooT (T0 T : St) : Prop := rdL T = rdL T0 ∧ (∀ c i, c ≠ 17 → c ≠ 18 → c ≠ 19 → c ≠ 21 → (c ≠ 0 ∨ (i < 37 ∨ 42 < i)) → rd T c i = rd T0 c i) ∧ ∀ v, rd T 18 v = 0
section HelpM
variable {J P : Nat} {en ga : Nat → Nat} {ou mk sh b : Nat} {L f fk : Nat} {to : Nat → Bool} {nu de nx : Nat → Nat}
theorem all_loop (hn : gaN J P en ga ou mk sh b) {T0 : St} (hm : gaM T0 J P en ga ou mk sh b) (hr : ruN L f fk to nu de nx) (hrm : ruM T0 L f fk to nu de nx) (hL : 0 < L) :
    ∀ (n p : Nat) (T : St), 2 * P - p < n → p ≤ 2 * P → goF T0 T → (∀ v, rd T 18 v = 0) → (∀ q, q < p → oB en ga (2 * P) ou b f fk nu de nx mk sh q = true) → Wp (g_X10_allOut_2 n (nI p) T) (fun q => q.1 = b2 (aB en ga (2 * P) ou b f fk nu de nx mk sh) ∧ goF T0 q.2 ∧ ∀ v, rd q.2 18 v = 0) := by
  have hJ : J ≤ 8 := hn.1
  have hP : P ≤ 12 := hn.2.1
  have hmk : mk < 2 ^ 8 := Nat.lt_of_lt_of_le hn.2.2.2.2.2.2.2.1 (Nat.pow_le_pow_right (by decide) hJ)
  intro n
  induction n with
  | zero => intro p S h; omega
  | succ n ih =>
    intro p T h1 h2 i1 i2 i3
    have hmT : gaM T J P en ga ou mk sh b := gaM_fr hm (fun c i q => i1.2 c i (by omega) (by omega) (by omega) (by omega))
    have hrT : ruM T L f fk to nu de nx := ruM_fr hrm (fun c i q => i1.2 c i (by omega) (by omega) (by omega) (by omega))
    show Wp (f_X10_allOut_2 (g_X10_allOut_2 n) _ T) _
    unfold f_X10_allOut_2
    simp (disch := omega) only [hmT.2.2.2.1, nI_leI]
    by_cases q : p = 2 * P
    · rw [if_pos (by omega), Wp_some]; subst q
      exact ⟨by rw [aB_yes i3]; rfl, i1, i2⟩
    · rw [if_neg (by omega), Wp_bI]
      have h0 : okW P to (p, f, mk) := ⟨by show p < 2 * P; omega, (hr.2.2.1 hL).1, (hr.2.2.1 hL).2, hmk⟩
      refine Wp_mono (wks_eq hn hmT hr hrT hL i2 (show p < 2 * P by omega)) (fun w hw => ?_)
      obtain ⟨w1, w2, w3⟩ := hw
      have hv := go_B hn hr h0 w1
      have i1' : goF T0 w.2 := ⟨by rw [w3.1]; exact i1.1, fun c i a1 a2 a3 a4 => by rw [w3.2 c i a1 a2 a3 a4]; exact i1.2 c i a1 a2 a3 a4⟩
      simp (disch := omega) only [hv, lt, nI_1]
      cases u : oB en ga (2 * P) ou b f fk nu de nx mk sh p
      · rw [if_neg (by decide), Wp_some]
        exact ⟨by rw [aB_no (show p < 2 * P by omega) u]; rfl, i1', w2⟩
      · rw [if_pos rfl]
        refine ih (p + 1) w.2 (by omega) (by omega) i1' w2 (fun x hx => ?_)
        by_cases v : x = p
        · subst v; exact u
        · exact i3 x (by omega)
theorem all_eq (hn : gaN J P en ga ou mk sh b) {T : St} (hm : gaM T J P en ga ou mk sh b) (hr : ruN L f fk to nu de nx) (hrm : ruM T L f fk to nu de nx) (hL : 0 < L) (h18 : ∀ v, rd T 18 v = 0) : Wp (m_X10_allOut T) (fun q => q.1 = b2 (aB en ga (2 * P) ou b f fk nu de nx mk sh) ∧ goF T q.2 ∧ ∀ v, rd q.2 18 v = 0) := by
  have hP : P ≤ 12 := hn.2.1
  exact all_loop hn hm hr hrm hL fuel 0 T (by unfold fuel; omega) (by omega) ⟨rfl, fun _ _ _ _ _ _ => rfl⟩ h18 (fun q hq => by omega)
theorem gaM_mk {T T' : St} {a : Nat} (hm : gaM T J P en ga ou mk sh b) (ha : rd T' 4 a = 1) (hT : ∀ c i, (c = 0 ∧ (i = 8 ∨ i = 11 ∨ i = 15 ∨ i = 16) ∨ 3 ≤ c ∧ c ≤ 12) → (c ≠ 4 ∨ i ≠ a) → rd T' c i = rd T c i) : gaM T' J P en ga ou (sb mk a) sh b := by
  obtain ⟨y1, y2, y3, y4, y5, y6, y7⟩ := hm
  refine ⟨?_, ?_, ?_, ?_, fun j hj => ⟨?_, ?_, ?_, ?_⟩, fun p hp => ?_, fun e he => ⟨?_, ?_⟩⟩
  · rw [hT 0 8 (by omega) (by omega)]; exact y1
  · rw [hT 0 11 (by omega) (by omega)]; exact y2
  · rw [hT 0 15 (by omega) (by omega)]; exact y3
  · rw [hT 0 16 (by omega) (by omega)]; exact y4
  · rw [hT 3 j (by omega) (by omega)]; exact (y5 j hj).1
  · rw [sb_tb]
    by_cases q : j = a
    · subst q; rw [ha]; simp [b2]
    · rw [hT 4 j (by omega) (by omega), (y5 j hj).2.1]; simp [q]
  · rw [hT 11 j (by omega) (by omega)]; exact (y5 j hj).2.2.1
  · rw [hT 12 j (by omega) (by omega)]; exact (y5 j hj).2.2.2
  · rw [hT 6 p (by omega) (by omega), hT 7 p (by omega) (by omega)]; exact y6 p hp
  · rw [hT 5 e (by omega) (by omega)]; exact (y7 e he).1
  · have := (y7 e he).2
    unfold numR at *
    rw [hT 8 _ (by omega) (by omega), hT 9 _ (by omega) (by omega), hT 10 _ (by omega) (by omega)]; exact this
theorem gaM_sh {T T' : St} {a : Nat} (hm : gaM T J P en ga ou mk sh b) (ha : rd T' 7 a = 1) (hT : ∀ c i, (c = 0 ∧ (i = 8 ∨ i = 11 ∨ i = 15 ∨ i = 16) ∨ 3 ≤ c ∧ c ≤ 12) → (c ≠ 7 ∨ i ≠ a) → rd T' c i = rd T c i) : gaM T' J P en ga ou mk (sb sh a) b := by
  obtain ⟨y1, y2, y3, y4, y5, y6, y7⟩ := hm
  refine ⟨?_, ?_, ?_, ?_, fun j hj => ⟨?_, ?_, ?_, ?_⟩, fun p hp => ⟨?_, ?_⟩, fun e he => ⟨?_, ?_⟩⟩
  · rw [hT 0 8 (by omega) (by omega)]; exact y1
  · rw [hT 0 11 (by omega) (by omega)]; exact y2
  · rw [hT 0 15 (by omega) (by omega)]; exact y3
  · rw [hT 0 16 (by omega) (by omega)]; exact y4
  · rw [hT 3 j (by omega) (by omega)]; exact (y5 j hj).1
  · rw [hT 4 j (by omega) (by omega)]; exact (y5 j hj).2.1
  · rw [hT 11 j (by omega) (by omega)]; exact (y5 j hj).2.2.1
  · rw [hT 12 j (by omega) (by omega)]; exact (y5 j hj).2.2.2
  · rw [hT 6 p (by omega) (by omega)]; exact (y6 p hp).1
  · rw [sb_tb]
    by_cases q : p = a
    · subst q; rw [ha]; simp [b2]
    · rw [hT 7 p (by omega) (by omega), (y6 p hp).2]; simp [q]
  · rw [hT 5 e (by omega) (by omega)]; exact (y7 e he).1
  · have := (y7 e he).2
    unfold numR at *
    rw [hT 8 _ (by omega) (by omega), hT 9 _ (by omega) (by omega), hT 10 _ (by omega) (by omega)]; exact this
theorem gaN_mk {a : Nat} (hn : gaN J P en ga ou mk sh b) (ha : a < J) : gaN J P en ga ou (sb mk a) sh b := by
  obtain ⟨n1, n2, n3, n4, n5, n6, n7, n8, n9⟩ := hn
  exact ⟨n1, n2, n3, n4, n5, n6, n7, sb_lt n8 ha, n9⟩
theorem gaN_sh {a : Nat} (hn : gaN J P en ga ou mk sh b) (ha : a < P) : gaN J P en ga ou mk (sb sh a) b := by
  obtain ⟨n1, n2, n3, n4, n5, n6, n7, n8, n9⟩ := hn
  exact ⟨n1, n2, n3, n4, n5, n6, n7, n8, sb_lt n9 ha⟩
def frB (J P mk sh w : Nat) (a : Nat) : Bool := if w = 0 then decide (a < J) && !mk.testBit a else decide (a < P) && !sh.testBit a
theorem put_eq {w a : Nat} {v : Int32} {T : St} (hw : w = 0 ∨ w = 1) (ha : a < if w = 0 then 8 else 12) : m_X10_put (nI w) (nI a) v T = some (up T (if w = 0 then 4 else 7) a (zb v)) := by
  unfold m_X10_put f_X10_put_0
  rcases hw with rfl | rfl
  · rw [if_pos nI_0]
    rw [if_pos rfl] at ha
    simp (disch := omega) only [ck_nI, nI_clamp, lt, if_true]
  · rw [if_neg (by decide)]
    rw [if_neg (by decide)] at ha
    simp (disch := omega) only [ck_nI, nI_clamp, lt]
    rfl
theorem fre_eq (hn : gaN J P en ga ou mk sh b) {T : St} (hm : gaM T J P en ga ou mk sh b) {w a : Nat} (hw : w = 0 ∨ w = 1) (ha : a < 2 ^ 31) : m_X10_isFree (nI w) (nI a) T = some (b2 (frB J P mk sh w a), T) := by
  have hJ : J ≤ 8 := hn.1
  have hP : P ≤ 12 := hn.2.1
  unfold m_X10_isFree f_X10_isFree_0 frB
  rcases hw with rfl | rfl
  · rw [if_pos nI_0, if_pos rfl]
    simp (disch := omega) only [hm.1, nI_leI]
    by_cases q : J ≤ a
    · rw [if_pos q]; simp [b2]; omega
    · rw [if_neg q]
      simp (disch := omega) only [ck_nI, nI_clamp, (hm.2.2.2.2.1 a (by omega)).2.1, b2_0]
      cases mk.testBit a <;> simp [b2] <;> omega
  · rw [if_neg (show ¬ (nI 1 = 0) by decide)]
    simp (disch := omega) only [hm.2.1, nI_leI, show ((1 : Nat) = 0) = False by simp, if_false]
    by_cases q : P ≤ a
    · rw [if_pos q]; simp [b2]; omega
    · rw [if_neg q]
      simp (disch := omega) only [ck_nI, nI_clamp, (hm.2.2.2.2.2.1 a (by omega)).2, b2_0]
      cases sh.testBit a <;> simp [b2] <;> omega
def tryH1 (fr G : Nat → Bool) (w : Nat) (T0 : St) : Prop := ∀ T a, gooT T0 T → fr a = true → ∃ T5, m_X10_put (nI w) (nI a) 1 T = some T5 ∧ Wp (m_X10_allOut T5) (fun q => q.1 = b2 (G (2 ^ a)) ∧ ∃ T8, m_X10_put (nI w) (nI a) 0 q.2 = some T8 ∧ gooT T0 T8)
def tryH2 (fr G : Nat → Bool) (w : Nat) (T0 : St) : Prop := ∀ T a c, gooT T0 T → a < c → fr a = true → fr c = true → ∃ T5 T6, m_X10_put (nI w) (nI a) 1 T = some T5 ∧ m_X10_put (nI w) (nI c) 1 T5 = some T6 ∧ Wp (m_X10_allOut T6) (fun q => q.1 = b2 (G (2 ^ a ||| 2 ^ c)) ∧ ∃ T8 T9, m_X10_put (nI w) (nI a) 0 q.2 = some T8 ∧ m_X10_put (nI w) (nI c) 0 T8 = some T9 ∧ gooT T0 T9)
theorem gooT_M {T0 T : St} (hm : gaM T0 J P en ga ou mk sh b) (h : gooT T0 T) : gaM T J P en ga ou mk sh b := gaM_fr hm (fun c i q => h.2.1 c i (by omega) (by omega) (by omega) (by omega) (by omega))
theorem gooT_R {T0 T : St} (hm : ruM T0 L f fk to nu de nx) (h : gooT T0 T) : ruM T L f fk to nu de nx := ruM_fr hm (fun c i q => h.2.1 c i (by omega) (by omega) (by omega) (by omega) (by omega))
theorem frB_lt {w a : Nat} (hn : gaN J P en ga ou mk sh b) (h : frB J P mk sh w a = true) : (w = 0 → a < J ∧ mk.testBit a = false) ∧ (w ≠ 0 → a < P ∧ sh.testBit a = false) ∧ a < (if w = 0 then 8 else 12) ∧ a < 12 := by
  have hJ : J ≤ 8 := hn.1
  have hP : P ≤ 12 := hn.2.1
  unfold frB at h
  by_cases q : w = 0
  · rw [if_pos q] at h ⊢
    simp at h
    exact ⟨fun _ => h, fun u => absurd q u, by omega, by omega⟩
  · rw [if_neg q] at h ⊢
    simp at h
    exact ⟨fun u => absurd u q, fun _ => h, by omega, by omega⟩
theorem try_1 (hn : gaN J P en ga ou mk sh b) {T0 : St} (hm : gaM T0 J P en ga ou mk sh b) (hr : ruN L f fk to nu de nx) (hrm : ruM T0 L f fk to nu de nx) (hL : 0 < L) {w : Nat} (hw : w = 0 ∨ w = 1) : tryH1 (frB J P mk sh w) (gB en ga (2 * P) ou mk sh b f fk nu de nx w) w T0 := by
  intro T a hT ha
  obtain ⟨k1, k2, k3, k4⟩ := frB_lt hn ha
  have hmT := gooT_M hm hT
  have hrT := gooT_R hrm hT
  refine ⟨_, put_eq hw k3, ?_⟩
  rw [zb_1]
  have fin : ∀ (cw : Nat) (q : Int32 × St), (cw = 4 ∨ cw = 7) → rd T cw a = 0 → goF (up T cw a 1) q.2 → (∀ v, rd q.2 18 v = 0) → gooT T0 (up q.2 cw a (zb 0)) := by
    intro cw q hcw h0 hg h18
    refine ⟨by rw [rdL_up, hg.1, rdL_up]; exact hT.1, fun c i q1 q2 q3 q4 q5 => ?_, fun v => by rw [rd_ne (by omega)]; exact h18 v⟩
    by_cases u : c = cw ∧ i = a
    · obtain ⟨rfl, rfl⟩ := u
      rw [rd_same, zb_0, ← h0]; exact hT.2.1 _ _ q1 q2 q3 q4 q5
    · rw [rd_ne (by omega), hg.2 c i q1 q2 q3 q5, rd_ne (by omega)]; exact hT.2.1 c i q1 q2 q3 q4 q5
  rcases hw with rfl | rfl
  · obtain ⟨j1, j2⟩ := k1 rfl
    simp only [if_true]
    refine Wp_mono (all_eq (gaN_mk hn j1) (gaM_mk hmT (rd_same _ _ _ _) (fun c i q1 q2 => rd_ne (by omega))) hr (ruM_fr hrT (fun c i q => rd_ne (by omega))) hL (fun v => by rw [rd_ne (by omega)]; exact hT.2.2 v)) (fun q hq => ?_)
    refine ⟨hq.1, _, put_eq (Or.inl rfl) k3, ?_⟩
    simp only [if_true]
    exact fin 4 q (Or.inl rfl) (by rw [(hmT.2.2.2.2.1 a j1).2.1, j2]; rfl) hq.2.1 hq.2.2
  · obtain ⟨j1, j2⟩ := k2 (by decide)
    simp only [show ((1 : Nat) = 0) = False by simp, if_false]
    refine Wp_mono (all_eq (gaN_sh hn j1) (gaM_sh hmT (rd_same _ _ _ _) (fun c i q1 q2 => rd_ne (by omega))) hr (ruM_fr hrT (fun c i q => rd_ne (by omega))) hL (fun v => by rw [rd_ne (by omega)]; exact hT.2.2 v)) (fun q hq => ?_)
    refine ⟨hq.1, _, put_eq (Or.inr rfl) k3, ?_⟩
    simp only [show ((1 : Nat) = 0) = False by simp, if_false]
    exact fin 7 q (Or.inr rfl) (by rw [(hmT.2.2.2.2.2.1 a j1).2, j2]; rfl) hq.2.1 hq.2.2
theorem try_2 (hn : gaN J P en ga ou mk sh b) {T0 : St} (hm : gaM T0 J P en ga ou mk sh b) (hr : ruN L f fk to nu de nx) (hrm : ruM T0 L f fk to nu de nx) (hL : 0 < L) {w : Nat} (hw : w = 0 ∨ w = 1) : tryH2 (frB J P mk sh w) (gB en ga (2 * P) ou mk sh b f fk nu de nx w) w T0 := by
  intro T a c hT hac ha hc
  obtain ⟨k1, k2, k3, k4⟩ := frB_lt hn ha
  obtain ⟨l1, l2, l3, l4⟩ := frB_lt hn hc
  have hmT := gooT_M hm hT
  have hrT := gooT_R hrm hT
  refine ⟨_, _, put_eq hw k3, put_eq hw l3, ?_⟩
  rw [zb_1]
  have fin : ∀ (cw : Nat) (q : Int32 × St), (cw = 4 ∨ cw = 7) → rd T cw a = 0 → rd T cw c = 0 → goF (up (up T cw a 1) cw c 1) q.2 → (∀ v, rd q.2 18 v = 0) → gooT T0 (up (up q.2 cw a (zb 0)) cw c (zb 0)) := by
    intro cw q hcw h0 h1 hg h18
    refine ⟨by rw [rdL_up, rdL_up, hg.1, rdL_up, rdL_up]; exact hT.1, fun x i q1 q2 q3 q4 q5 => ?_, fun v => by rw [rd_ne (by omega), rd_ne (by omega)]; exact h18 v⟩
    by_cases u : x = cw ∧ i = c
    · obtain ⟨rfl, rfl⟩ := u
      rw [rd_same, zb_0, ← h1]; exact hT.2.1 _ _ q1 q2 q3 q4 q5
    · by_cases v : x = cw ∧ i = a
      · obtain ⟨rfl, rfl⟩ := v
        rw [rd_ne (by omega), rd_same, zb_0, ← h0]; exact hT.2.1 _ _ q1 q2 q3 q4 q5
      · rw [rd_ne (by omega), rd_ne (by omega), hg.2 x i q1 q2 q3 q5, rd_ne (by omega), rd_ne (by omega)]; exact hT.2.1 x i q1 q2 q3 q4 q5
  rcases hw with rfl | rfl
  · obtain ⟨j1, j2⟩ := k1 rfl
    obtain ⟨i1, i2⟩ := l1 rfl
    simp only [if_true]
    have g1 := gaM_mk (T' := up T 4 a 1) hmT (rd_same _ _ _ _) (fun c i q1 q2 => rd_ne (by omega))
    have g2 := gaM_mk (T' := up (up T 4 a 1) 4 c 1) g1 (rd_same _ _ _ _) (fun c i q1 q2 => rd_ne (by omega))
    refine Wp_mono (all_eq (gaN_mk (gaN_mk hn j1) i1) g2 hr (ruM_fr hrT (fun c i q => by rw [rd_ne (by omega), rd_ne (by omega)])) hL (fun v => by rw [rd_ne (by omega), rd_ne (by omega)]; exact hT.2.2 v)) (fun q hq => ?_)
    refine ⟨?_, _, _, put_eq (Or.inl rfl) k3, put_eq (Or.inl rfl) l3, ?_⟩
    · rw [hq.1]
      unfold gB sb
      rw [if_pos rfl, Nat.or_assoc]
    · simp only [if_true]
      exact fin 4 q (Or.inl rfl) (by rw [(hmT.2.2.2.2.1 a j1).2.1, j2]; rfl) (by rw [(hmT.2.2.2.2.1 c i1).2.1, i2]; rfl) hq.2.1 hq.2.2
  · obtain ⟨j1, j2⟩ := k2 (by decide)
    obtain ⟨i1, i2⟩ := l2 (by decide)
    simp only [show ((1 : Nat) = 0) = False by simp, if_false]
    have g1 := gaM_sh (T' := up T 7 a 1) hmT (rd_same _ _ _ _) (fun c i q1 q2 => rd_ne (by omega))
    have g2 := gaM_sh (T' := up (up T 7 a 1) 7 c 1) g1 (rd_same _ _ _ _) (fun c i q1 q2 => rd_ne (by omega))
    refine Wp_mono (all_eq (gaN_sh (gaN_sh hn j1) i1) g2 hr (ruM_fr hrT (fun c i q => by rw [rd_ne (by omega), rd_ne (by omega)])) hL (fun v => by rw [rd_ne (by omega), rd_ne (by omega)]; exact hT.2.2 v)) (fun q hq => ?_)
    refine ⟨?_, _, _, put_eq (Or.inr rfl) k3, put_eq (Or.inr rfl) l3, ?_⟩
    · rw [hq.1]
      unfold gB sb
      rw [if_neg (by decide), Nat.or_assoc]
    · simp only [show ((1 : Nat) = 0) = False by simp, if_false]
      exact fin 7 q (Or.inr rfl) (by rw [(hmT.2.2.2.2.2.1 a j1).2, j2]; rfl) (by rw [(hmT.2.2.2.2.2.1 c i1).2, i2]; rfl) hq.2.1 hq.2.2
end HelpM
