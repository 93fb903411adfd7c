/-! ===== help, both ===== -/
def hlQ (fr G : Nat → Bool) (T0 : St) (q : Int32 × St) : Prop := ∃ k0 k1, resP fr G q.1 k0 k1 ∧ gooT T0 q.2 ∧ (q.1 = nI 1 → rd q.2 21 0 = k0) ∧ (q.1 = nI 2 → rd q.2 21 0 = k0 ∧ rd q.2 21 1 = k1)
theorem goo_21 {T0 T : St} (h : gooT T0 T) (i : Nat) (v : Int32) : gooT T0 (up T 21 i v) := ⟨by rw [rdL_up]; exact h.1, fun c j q1 q2 q3 q4 q5 => by rw [rd_ne (by omega)]; exact h.2.1 c j q1 q2 q3 q4 q5, fun v => by rw [rd_ne (by omega)]; exact h.2.2 v⟩
section HelpS
variable {fr G : Nat → Bool} {w : Nat} {T0 : St}
theorem hl_2in (hf : ∀ T a, gooT T0 T → a < 12 → m_X10_isFree (nI w) (nI a) T = some (b2 (fr a), T)) (h2 : tryH2 fr G w T0) (h12 : ∀ a, fr a = true → a < 12) (hno : ∀ x, ¬ (fr x = true ∧ G (2 ^ x) = true)) {a : Nat} (ha : a < 12) {k69 : Int32 → Int32 → St → Option (Int32 × St)}
    (hk : ∀ T, gooT T0 T → (∀ x y, x < y → x < a + 1 → ¬ (fr x = true ∧ fr y = true ∧ G (2 ^ x ||| 2 ^ y) = true)) → Wp (k69 (nI w) (nI (a + 1)) T) (hlQ fr G T0)) :
    ∀ (n c : Nat) (T : St), 12 - c < n → a < c → c ≤ 12 → gooT T0 T → (∀ x y, x < y → (x < a ∨ (x = a ∧ y < c)) → ¬ (fr x = true ∧ fr y = true ∧ G (2 ^ x ||| 2 ^ y) = true)) → Wp (g_X10_helping_79 k69 n (nI w) (nI a) (nI c) T) (hlQ fr G T0) := by
  intro n
  induction n with
  | zero => intro c S h; omega
  | succ n ih =>
    intro c T q1 q2 q3 i1 i3
    show Wp (f_X10_helping_79 k69 (g_X10_helping_79 k69 n) _ _ _ T) _
    unfold f_X10_helping_79
    simp (disch := omega) only [l_12, nI_leI, lt, nI_1]
    by_cases q : c = 12
    · rw [if_pos (by omega)]
      refine hk T i1 (fun x y hxy hx hh => ?_)
      have hy := h12 y hh.2.1
      exact i3 x y hxy (by omega) hh
    · rw [if_neg (by omega), hf T a i1 ha]
      simp only [bI_some, b2_0]
      have skip : ∀ T, gooT T0 T → ¬ (fr a = true ∧ fr c = true ∧ G (2 ^ a ||| 2 ^ c) = true) → Wp (g_X10_helping_79 k69 n (nI w) (nI a) (nI (c + 1)) T) (hlQ fr G T0) := by
        intro T j1 hne
        refine ih (c + 1) T (by omega) (by omega) (by omega) j1 (fun x y hxy hx => ?_)
        by_cases u : x = a ∧ y = c
        · obtain ⟨rfl, rfl⟩ := u; exact hne
        · exact i3 x y hxy (by omega)
      cases u1 : fr a
      · rw [if_pos rfl]; exact skip T i1 (fun hh => by rw [u1] at hh; cases hh.1)
      · rw [if_neg (by decide), hf T c i1 (by omega)]
        simp only [bI_some, b2_0]
        cases u2 : fr c
        · rw [if_pos rfl]; exact skip T i1 (fun hh => by rw [u2] at hh; cases hh.2.1)
        · rw [if_neg (by decide)]
          obtain ⟨T5, T6, e5, e6, hw⟩ := h2 T a c i1 q2 u1 u2
          rw [e5]; simp only [bV_some]
          rw [e6]; simp only [bV_some, Wp_bI]
          refine Wp_mono hw (fun v hv => ?_)
          obtain ⟨v1, T8, T9, v2, v3, v4⟩ := hv
          rw [v2]; simp only [bV_some]
          rw [v3]; simp only [bV_some, lt, tc_0, tc_1, v1, b2_0]
          have g9 := goo_21 (goo_21 v4 0 (nI a)) 1 (nI c)
          cases u3 : G (2 ^ a ||| 2 ^ c)
          · rw [if_pos rfl]; exact skip _ g9 (fun hh => by rw [u3] at hh; cases hh.2.2)
          · rw [if_neg (by decide), Wp_some]
            refine ⟨nI a, nI c, Or.inr (Or.inl ⟨rfl, hno, a, c, q2, by omega, u1, u2, u3, i3, rfl, rfl⟩), g9, fun e => absurd (show (2 : Int32) = nI 1 from e) (by decide), fun _ => ⟨?_, ?_⟩⟩
            · rw [rd_ne (by omega), rd_same]
            · rw [rd_same]
theorem hl_2 (hf : ∀ T a, gooT T0 T → a < 12 → m_X10_isFree (nI w) (nI a) T = some (b2 (fr a), T)) (h2 : tryH2 fr G w T0) (h12 : ∀ a, fr a = true → a < 12) (hno : ∀ x, ¬ (fr x = true ∧ G (2 ^ x) = true)) :
    ∀ (n a : Nat) (T : St), 12 - a < n → a ≤ 12 → gooT T0 T → (∀ x y, x < y → x < a → ¬ (fr x = true ∧ fr y = true ∧ G (2 ^ x ||| 2 ^ y) = true)) → Wp (g_X10_helping_69 n (nI w) (nI a) T) (hlQ fr G T0) := by
  intro n
  induction n with
  | zero => intro c S h; omega
  | succ n ih =>
    intro a T q1 q2 i1 i3
    show Wp (f_X10_helping_69 (g_X10_helping_69 n) _ _ T) _
    unfold f_X10_helping_69
    simp (disch := omega) only [l_12, nI_leI, lt, nI_1]
    by_cases q : a = 12
    · rw [if_pos (by omega), Wp_some]
      refine ⟨0, 0, Or.inr (Or.inr ⟨rfl, hno, fun x y hxy hh => i3 x y hxy (by have := h12 x hh.1; omega) hh⟩), i1, fun e => absurd (show (-1 : Int32) = nI 1 from e) (by decide), fun e => absurd (show (-1 : Int32) = nI 2 from e) (by decide)⟩
    · rw [if_neg (by omega)]
      exact hl_2in hf h2 h12 hno (show a < 12 by omega) (fun T j1 j2 => ih (a + 1) T (by omega) (by omega) j1 j2) fuel (a + 1) T (by unfold fuel; omega) (by omega) (by omega) i1 (fun x y hxy hx => i3 x y hxy (by omega))
theorem hl_1 (hf : ∀ T a, gooT T0 T → a < 12 → m_X10_isFree (nI w) (nI a) T = some (b2 (fr a), T)) (h1 : tryH1 fr G w T0) (h2 : tryH2 fr G w T0) (h12 : ∀ a, fr a = true → a < 12) :
    ∀ (n a : Nat) (T : St), 12 - a < n → a ≤ 12 → gooT T0 T → (∀ x, x < a → ¬ (fr x = true ∧ G (2 ^ x) = true)) → Wp (g_X10_helping_11 n (nI w) (nI a) T) (hlQ fr G T0) := by
  intro n
  induction n with
  | zero => intro c S h; omega
  | succ n ih =>
    intro a T q1 q2 i1 i3
    show Wp (f_X10_helping_11 (g_X10_helping_11 n) _ _ T) _
    unfold f_X10_helping_11
    simp (disch := omega) only [l_12, nI_leI, lt, nI_1]
    by_cases q : a = 12
    · rw [if_pos (by omega)]
      exact hl_2 hf h2 h12 (fun x hh => i3 x (by have := h12 x hh.1; omega) hh) fuel 0 T (by unfold fuel; omega) (by omega) i1 (fun x y _ hx => by omega)
    · rw [if_neg (by omega), hf T a i1 (by omega)]
      simp only [bI_some, b2_0]
      have skip : ∀ T, gooT T0 T → ¬ (fr a = true ∧ G (2 ^ a) = true) → Wp (g_X10_helping_11 n (nI w) (nI (a + 1)) T) (hlQ fr G T0) := by
        intro T j1 hne
        refine ih (a + 1) T (by omega) (by omega) j1 (fun x hx => ?_)
        by_cases u : x = a
        · subst u; exact hne
        · exact i3 x (by omega)
      cases u1 : fr a
      · rw [if_pos rfl]; exact skip T i1 (fun hh => by rw [u1] at hh; cases hh.1)
      · rw [if_neg (by decide)]
        obtain ⟨T5, e5, hw⟩ := h1 T a i1 u1
        rw [e5]; simp only [bV_some, Wp_bI]
        refine Wp_mono hw (fun v hv => ?_)
        obtain ⟨v1, T8, v2, v4⟩ := hv
        rw [v2]; simp only [bV_some, lt, tc_0, v1, b2_0]
        have g9 := goo_21 v4 0 (nI a)
        cases u3 : G (2 ^ a)
        · rw [if_pos rfl]; exact skip _ g9 (fun hh => by rw [u3] at hh; cases hh.2)
        · rw [if_neg (by decide), Wp_some]
          exact ⟨nI a, -1, Or.inl ⟨rfl, a, by omega, u1, u3, i3, rfl⟩, g9, fun _ => rd_same _ _ _ _, fun e => absurd (show (1 : Int32) = nI 2 from e) (by decide)⟩
end HelpS
theorem cp_loop {r : Int32} {T0 : St} : ∀ (n k : Nat) (T : St), 2 - k < n → k ≤ 2 → rdL T = rdL T0 → (∀ c i, c ≠ 22 → rd T c i = rd T0 c i) → (∀ i, i < k → rd T 22 i = rd T0 21 i) → Wp (g_X10_help_42 n r (nI k) T) (fun q => q.1 = r ∧ rdL q.2 = rdL T0 ∧ (∀ c i, c ≠ 22 → rd q.2 c i = rd T0 c i) ∧ ∀ i, i < 2 → rd q.2 22 i = rd T0 21 i) := by
  intro n
  induction n with
  | zero => intro c S h; omega
  | succ n ih =>
    intro k T q1 q2 i1 i2 i3
    show Wp (f_X10_help_42 (g_X10_help_42 n) r (nI k) T) _
    unfold f_X10_help_42
    simp (disch := omega) only [l_2, nI_leI, lt, nI_1]
    by_cases q : k = 2
    · rw [if_pos (by omega), Wp_some]; subst q; exact ⟨rfl, i1, i2, i3⟩
    · rw [if_neg (by omega)]
      simp (disch := omega) only [ck_nI, nI_clamp]
      refine ih (k + 1) _ (by omega) (by omega) i1 (fun c i w => by rw [rd_ne (by omega)]; exact i2 c i w) (fun i hi => ?_)
      by_cases u : i = k
      · subst u; rw [rd_same, i2 21 i (by omega)]
      · rw [rd_ne (by omega)]; exact i3 i (by omega)
theorem Rl_H {S T S' T' : St} (h : Rl S T) (hH : relH S' T') (hS : ∀ c i, c ≠ 24 → c ≠ 25 → c ≠ 26 → c ≠ 29 → c ≠ 30 → rd S' c i = rd S c i) (hT : ∀ c i, c ≠ 17 → c ≠ 18 → c ≠ 19 → c ≠ 21 → c ≠ 22 → (c ≠ 0 ∨ (i ≠ 2 ∧ i ≠ 45 ∧ (i < 37 ∨ 42 < i))) → rd T' c i = rd T c i) (h18 : ∀ v, rd T' 18 v = 0) (hL : rdL T' = rdL T) : Rl S' T' := by
  obtain ⟨h1, h2, h3, h4, h5, h6, h7, h8, h9⟩ := h
  exact ⟨relT_fr h1 (fun c i q => hS c i (by omega) (by omega) (by omega) (by omega) (by omega)) (fun c i q => hT c i (by omega) (by omega) (by omega) (by omega) (by omega) (by omega)), relF_fr h2 (fun c i q => hS c i (by omega) (by omega) (by omega) (by omega) (by omega)) (fun c i q => hT c i (by omega) (by omega) (by omega) (by omega) (by omega) (by omega)), relR_fr h3 (fun c i q => hS c i (by omega) (by omega) (by omega) (by omega) (by omega)) (fun c i q => hT c i (by omega) (by omega) (by omega) (by omega) (by omega) (by omega)), relG_fr h4 (fun c i q => hS c i (by omega) (by omega) (by omega) (by omega) (by omega)) (fun c i q => hT c i (by omega) (by omega) (by omega) (by omega) (by omega) (by omega)), relW_fr h5 (fun c i q => hS c i (by omega) (by omega) (by omega) (by omega) (by omega)) (fun c i q => hT c i (by omega) (by omega) (by omega) (by omega) (by omega) (by omega)), hH, relU_fr h7 (fun c i q => hS c i (by omega) (by omega) (by omega) (by omega) (by omega)) (fun c i q => hT c i (by omega) (by omega) (by omega) (by omega) (by omega) (by omega)) hL, relM_fr h8 (fun c i q => hS c i (by omega) (by omega) (by omega) (by omega) (by omega)) (fun c i q => hT c i (by omega) (by omega) (by omega) (by omega) (by omega) (by omega)), ⟨h18, fun i hi => by rw [hT 13 i (by omega) (by omega) (by omega) (by omega) (by omega) (by omega)]; exact h9.2 i hi⟩⟩
theorem help_w {S T : St} (h : Rl S T) {w : Nat} (hw : w = 0 ∨ w = 1) {J P : Nat} {en ga : Nat → Nat} {ou mk sh b : Nat} (hn : gaN J P en ga ou mk sh b) (hx : gaX S J P en ga ou mk sh b) (hm : gaM T J P en ga ou mk sh b) {r L f fk : Nat} {to : Nat → Bool} {nu de nx : Nat → Nat} (hr1 : usR S r) (hr : ruN L f fk to nu de nx) (hrx : ruX S r L f fk to nu de nx) (hrm : ruM T L f fk to nu de nx) (hL : 0 < L) :
    ∃ (v : Int32) (S1 T1 : St), f_X9_help_21 (nI w) S = some (v, S1) ∧ (bI (m_X10_helping (nI w) (up T 0 2 0)) fun r6 S5 => if 0 ≤ r6 then lt (up S5 0 45 r6) fun S8 => g_X10_help_42 fuel r6 0 S8 else some (-1, S5)) = some (v, T1) ∧ Rl S1 T1 := by
  have hJ : J ≤ 8 := hn.1
  have hP : P ≤ 12 := hn.2.1
  have hr16 := (usR_rs hr1).2
  unfold f_X9_help_21
  rw [(usR_rs hr1).1]
  obtain ⟨S5, s1, s2, s3, s4⟩ := pre_eq hn hx hr16
  rw [s1]
  simp only [bV_some]
  have frS6 : ∀ c i, c ≠ 26 → (c ≠ 24 ∨ i ≠ 4) → (c ≠ 29 ∨ i ≠ 4) → rd (up S5 29 4 0) c i = rd S c i := fun c i q1 q2 q3 => by rw [rd_ne (by omega), s2 c i q1 q2]
  have hx6 : gaX (up S5 29 4 0) J P en ga ou mk sh b := gaX_fr hx (fun c i q => frS6 c i (by omega) (by omega) (by omega))
  have hrx6 : ruX (up S5 29 4 0) r L f fk to nu de nx := ruX_fr hrx (fun c i q => frS6 c i (by omega) (by omega) (by omega))
  have hy6 : rdyX (up S5 29 4 0) en ga P sh b r := ⟨by rw [rd_ne (by omega)]; exact s3, fun σ hσ => by rw [rd_ne (by omega)]; exact s4 σ hσ⟩
  have hl6 : heL (2 * P) (up S5 29 4 0) := ⟨0, by rw [rd_same]; rfl, by omega⟩
  have hm1 : gaM (up T 0 2 0) J P en ga ou mk sh b := gaM_fr hm (fun c i q => rd_ne (by omega))
  have hrm1 : ruM (up T 0 2 0) L f fk to nu de nx := ruM_fr hrm (fun c i q => rd_ne (by omega))
  have h18 : ∀ v, rd (up T 0 2 0) 18 v = 0 := fun v => by rw [rd_ne (by omega)]; exact h.2.2.2.2.2.2.2.2.1 v
  have hsav : savH (gB en ga (2 * P) ou mk sh b f fk nu de nx w) (2 * P) w (if w = 0 then J else P) (up S5 29 4 0) := by
    intro st S' hst f1 f2
    refine Wp_mono (sav_eq hn (gaX_fr hx6 (fun c i q => f1 c i (by omega) (by omega) (by omega))) hr (ruX_fr hrx6 (fun c i q => f1 c i (by omega) (by omega) (by omega))) hL hr16 ⟨by rw [f1 24 4 (by omega) (by omega) (by omega)]; exact hy6.1, fun σ hσ => by rw [f1 26 σ (by omega) (by omega) (by omega)]; exact hy6.2 σ hσ⟩ f2 hw hst) (fun q hq => ⟨hq.1, fun c i a1 a2 a3 => by rw [hq.2.1 c i a1 a2 a3]; exact f1 c i a1 a2 a3, hq.2.2⟩)
  have hg0 : gB en ga (2 * P) ou mk sh b f fk nu de nx w 0 = aB en ga (2 * P) ou b f fk nu de nx mk sh := by
    unfold gB; rw [Nat.or_zero, Nat.or_zero]; split <;> rfl
  obtain ⟨⟨v0, S7⟩, z1, z2, z3, z4⟩ := hsav 0 (up S5 29 4 0) (Nat.two_pow_pos _) (fun _ _ _ _ _ => rfl) hl6
  obtain ⟨⟨u0, T7⟩, y1, y2, y3, y4⟩ := all_eq hn hm1 hr hrm1 hL h18
  have z1 : m_X1_saves (nI w) 0 (up S5 29 4 0) = some (v0, S7) := z1
  have z2 : v0 = b2 (aB en ga (2 * P) ou b f fk nu de nx mk sh) := by rw [← hg0]; exact z2
  have y2 : u0 = b2 (aB en ga (2 * P) ou b f fk nu de nx mk sh) := y2
  have frS7 : ∀ c i, c ≠ 24 → c ≠ 25 → c ≠ 26 → (c ≠ 29 ∨ i ≠ 4) → rd S7 c i = rd S c i := fun c i q1 q2 q3 q4 => by
    have : rd S7 c i = _ := z3 c i q2 (by omega) q4
    rw [this]; exact frS6 c i q3 (by omega) q4
  have gT7 : gooT (up T 0 2 0) T7 := ⟨y3.1, fun c i q1 q2 q3 q4 q5 => y3.2 c i q1 q2 q3 q5, y4⟩
  unfold m_X1_seek f_X1_seek_0 m_X10_helping f_X10_helping_0
  simp only [lt]
  rw [z1, y1]
  simp only [bI_some, z2, y2, b2_0]
  have cpy : ∀ (rr : Nat) (T6 : St), rr ≤ 2 → gooT (up T 0 2 0) T6 → ∃ T9, g_X10_help_42 fuel (nI rr) 0 (up T6 0 45 (nI rr)) = some (nI rr, T9) ∧ rdL T9 = rdL T ∧ (∀ c i, c ≠ 17 → c ≠ 18 → c ≠ 19 → c ≠ 21 → c ≠ 22 → (c ≠ 0 ∨ (i ≠ 2 ∧ i ≠ 45 ∧ (i < 37 ∨ 42 < i))) → rd T9 c i = rd T c i) ∧ (∀ v, rd T9 18 v = 0) ∧ rd T9 0 45 = nI rr ∧ ∀ i, i < 2 → rd T9 22 i = rd T6 21 i := by
    intro rr T6 hrr hT6
    obtain ⟨⟨q, T9⟩, e1, e2, e3, e4, e5⟩ := cp_loop (r := nI rr) (T0 := up T6 0 45 (nI rr)) fuel 0 _ (by unfold fuel; omega) (by omega) rfl (fun _ _ _ => rfl) (fun i hi => by omega)
    have e2 : q = nI rr := e2
    subst e2
    refine ⟨T9, e1, ?_, fun c i q1 q2 q3 q4 q5 q6 => ?_, fun v => ?_, ?_, fun i hi => ?_⟩
    · have e3 : rdL T9 = _ := e3
      rw [e3, rdL_up, hT6.1, rdL_up]
    · have e4 : rd T9 c i = _ := e4 c i q5
      rw [e4, rd_ne (by omega), hT6.2.1 c i q1 q2 q3 q4 (by omega), rd_ne (by omega)]
    · have e4 : rd T9 18 v = _ := e4 18 v (by omega)
      rw [e4, rd_ne (by omega)]; exact hT6.2.2 v
    · have e4 : rd T9 0 45 = _ := e4 0 45 (by omega)
      rw [e4, rd_same]
    · have e5 : rd T9 22 i = _ := e5 i hi
      rw [e5, rd_ne (by omega)]
  cases ha : aB en ga (2 * P) ou b f fk nu de nx mk sh
  · -- somebody is lost
    simp only [if_true]
    have e43 : (if nI w = 0 then f_X1_seek_43 (nI w) (rd S7 6 0) S7 else f_X1_seek_43 (nI w) (rd S7 6 1) S7) = g_X1_seek_69 fuel (nI w) (nI (if w = 0 then J else P)) (nI (if w = 0 then mk else sh)) (nI 0) S7 := by
      unfold f_X1_seek_43
      rcases hw with rfl | rfl
      · rw [if_pos nI_0, if_pos nI_0, frS7 6 0 (by omega) (by omega) (by omega) (by omega), hx.1, frS7 6 4 (by omega) (by omega) (by omega) (by omega), hx.2.2.2.2.1]; rfl
      · rw [if_neg (show ¬ (nI 1 = 0) by decide), if_neg (show ¬ (nI 1 = 0) by decide), frS7 6 1 (by omega) (by omega) (by omega) (by omega), hx.2.1, frS7 6 5 (by omega) (by omega) (by omega) (by omega), hx.2.2.2.2.2.1]; rfl
    rw [e43]
    have hfr : ∀ a, frB J P mk sh w a = (decide (a < if w = 0 then J else P) && !(if w = 0 then mk else sh).testBit a) := by
      intro a; unfold frB; rcases hw with rfl | rfl <;> rfl
    have htk : (if w = 0 then mk else sh) < 2 ^ 32 := by
      rcases hw with rfl | rfl
      · exact Nat.lt_of_lt_of_le hn.2.2.2.2.2.2.2.1 (Nat.pow_le_pow_right (by decide) (by omega))
      · exact Nat.lt_of_lt_of_le hn.2.2.2.2.2.2.2.2 (Nat.pow_le_pow_right (by decide) (by omega))
    obtain ⟨⟨v1, S8⟩, a1, k0, k1, a2, a3, a4⟩ := sk_1 hsav (by split <;> omega) hfr htk fuel 0 S7 (by unfold fuel; split <;> omega) (by omega) z3 z4 (fun x hx => by omega)
    obtain ⟨⟨u1, T8⟩, c1, l0, l1, c2, c3, c4, c5⟩ := hl_1 (T0 := up T 0 2 0) (fun T' a hT' ha => fre_eq hn (gooT_M hm1 hT') hw (by omega)) (try_1 hn hm1 hr hrm1 hL hw) (try_2 hn hm1 hr hrm1 hL hw) (fun a ha => (frB_lt hn ha).2.2.2) fuel 0 T7 (by unfold fuel; omega) (by omega) gT7 (fun x hx => by omega)
    have c1 : g_X10_helping_11 fuel (nI w) 0 T7 = some (u1, T8) := c1
    rw [a1, c1]
    simp only [bI_some]
    have a2 : resP _ _ v1 k0 k1 := a2
    have c2 : resP _ _ u1 l0 l1 := c2
    have c3 : gooT _ T8 := c3
    have c4 : u1 = nI 1 → rd T8 21 0 = l0 := c4
    have c5 : u1 = nI 2 → rd T8 21 0 = l0 ∧ rd T8 21 1 = l1 := c5
    have a4 : (v1 = -1 ∧ rd S8 29 1 = rd (up S5 29 4 0) 29 1 ∧ ∀ i, rd S8 30 i = rd (up S5 29 4 0) 30 i) ∨ (v1 ≠ -1 ∧ rd S8 29 1 = v1 ∧ rd S8 30 0 = k0 ∧ rd S8 30 1 = k1) := a4
    have frS8 : ∀ c i, c ≠ 24 → c ≠ 25 → c ≠ 26 → c ≠ 29 → c ≠ 30 → rd S8 c i = rd S c i := fun c i q1 q2 q3 q4 q5 => by
      have : rd S8 c i = _ := a3 c i q2 (by omega) q4 q5
      rw [this]; exact frS6 c i q3 (by omega) (by omega)
    obtain ⟨o1, o2, o3⟩ := resP_one a2 c2
    subst o1
    have pos : ∀ rr : Nat, 1 ≤ rr → rr ≤ 2 → v1 = nI rr → (∀ i, i < rr → rd S8 30 i = rd T8 21 i) → ∃ (v : Int32) (S1 T1 : St), some (v1, S8) = some (v, S1) ∧ (if 0 ≤ v1 then g_X10_help_42 fuel v1 0 (up T8 0 45 v1) else some (-1, T8)) = some (v, T1) ∧ Rl S1 T1 := by
      intro rr g1 g2 g3 g4
      obtain ⟨T9, t1, t2, t3, t4, t5, t6⟩ := cpy rr T8 g2 c3
      rw [g3, if_pos (nI_pos' (by omega))]
      refine ⟨_, _, _, rfl, t1, Rl_H h ⟨rr, g2, ?_, t5, fun i hi => ?_⟩ frS8 t3 t4 t2⟩
      · rcases a4 with ⟨q, _⟩ | ⟨_, q, _⟩
        · rw [g3] at q; exact absurd q (fun w => (nI_ne_m1 (by omega)).mp w)
        · rw [q, g3]
      · rw [t6 i (by omega)]; exact g4 i hi
    rcases a2 with ⟨e, _⟩ | ⟨e, _⟩ | ⟨e, _⟩
    · refine pos 1 (by omega) (by omega) e (fun i hi => ?_)
      have : i = 0 := by omega
      subst this
      rcases a4 with ⟨q, _⟩ | ⟨_, _, q, _⟩
      · rw [e] at q; exact absurd q (by decide)
      · rw [q, c4 e, o2 e]
    · refine pos 2 (by omega) (by omega) e (fun i hi => ?_)
      rcases a4 with ⟨q, _⟩ | ⟨_, _, q1, q2⟩
      · rw [e] at q; exact absurd q (by decide)
      · have : i = 0 ∨ i = 1 := by omega
        rcases this with rfl | rfl
        · rw [q1, (c5 e).1, (o3 e).1]
        · rw [q2, (c5 e).2, (o3 e).2]
    · rcases a4 with ⟨_, q1, q2⟩ | ⟨q1, _⟩
      · rw [e, if_neg (by decide)]
        obtain ⟨k, kk1, kk2, kk3, kk4⟩ := h.2.2.2.2.2.1
        refine ⟨_, _, _, rfl, rfl, Rl_H h ⟨k, kk1, ?_, ?_, fun i hi => ?_⟩ frS8 (fun c i w1 w2 w3 w4 w5 w6 => by rw [c3.2.1 c i w1 w2 w3 w4 (by omega), rd_ne (by omega)]) c3.2.2 (by rw [c3.1, rdL_up])⟩
        · rw [q1, frS6 29 1 (by omega) (by omega) (by omega)]; exact kk2
        · rw [c3.2.1 0 45 (by omega) (by omega) (by omega) (by omega) (by omega), rd_ne (by omega)]; exact kk3
        · rw [q2, frS6 30 i (by omega) (by omega) (by omega), c3.2.1 22 i (by omega) (by omega) (by omega) (by omega) (by omega), rd_ne (by omega)]; exact kk4 i hi
      · exact absurd e q1
  · -- nobody is lost
    rw [if_neg (by decide)]
    unfold m_X1_keep f_X1_keep_0
    simp only [lt, tc_0, tc_1, bI_some]
    obtain ⟨T9, t1, t2, t3, t4, t5, t6⟩ := cpy 0 T7 (by omega) gT7
    rw [if_neg (by decide)]
    simp only [bI_some]
    rw [if_pos (by decide)]
    refine ⟨_, _, _, rfl, t1, Rl_H h ⟨0, by omega, ?_, t5, fun i hi => by omega⟩ (fun c i q1 q2 q3 q4 q5 => ?_) t3 t4 t2⟩
    · simp (disch := omega) only [rd_ne, rd_same]; rfl
    · simp (disch := omega) only [rd_ne]; exact frS7 c i q1 q2 q3 (by omega)
theorem st_help : St_help Rl := by
  intro a1 S T h
  obtain ⟨J, P, en, ga, ou, mk, sh, b, hn, hx, hm⟩ := h.2.2.2.1
  obtain ⟨r, L, f, fk, to, nu, de, nx, hr1, hr, hrx, hrm⟩ := h.2.2.1
  have hL4 : L ≤ 4 := hr.1
  unfold m_X9_help f_X9_help_0 m_X10_help f_X10_help_0
  simp (disch := omega) only [lt, rd_ne, (usR_rs hr1).1, hrx.1, hrm.1, nI_eq0]
  by_cases c0 : L = 0
  · simp only [if_pos c0]; exact ⟨_, _, _, rfl, rfl, Rl_0 h 0⟩
  · simp only [if_neg c0]
    by_cases c : a1 < 0
    · rw [if_neg (fun q => by rw [q] at c; exact absurd c (by decide)), if_neg (fun q => by rw [q] at c; exact absurd c (by decide)), if_pos c]
      exact ⟨_, _, _, rfl, rfl, Rl_0 h 0⟩
    · obtain ⟨w, hw, rfl⟩ := nI_of c
      rw [if_neg c]
      simp (disch := omega) only [nI_eq0, show (1 : Int32) = nI 1 from rfl, nI_eq, nI_leI]
      by_cases q : w ≤ 1
      · have hw2 : w = 0 ∨ w = 1 := by omega
        obtain ⟨v, S1, T1, e1, e2, e3⟩ := help_w h hw2 hn hx hm hr1 hr hrx hrm (by omega)
        rw [if_pos q]
        refine ⟨v, S1, T1, ?_, e2, e3⟩
        rcases hw2 with rfl | rfl
        · rw [if_pos rfl]; exact e1
        · rw [if_neg (by decide), if_pos rfl]; exact e1
      · rw [if_neg (by omega), if_neg (by omega), if_neg q]
        exact ⟨_, _, _, rfl, rfl, Rl_0 h 0⟩
