/-! ===== rules: the lines, the call ===== -/
theorem f77_no {r k : Nat} {S : St} (h : rd S 3 0 = nI k) (hk : 1 ≤ k ∧ k ≤ 4) : f_X3_read_77 r S = some S := by
  unfold f_X3_read_77
  rw [h, if_neg (fun u => by have := (nI_eq0 (a := k) (by omega)).mp u; omega)]
theorem badF_77 {r : Nat} {S T : St} (h : badF S T) : f_X3_read_77 r S = some S := by
  obtain ⟨k, q, h1, h2, h3, _⟩ := h
  exact f77_no h3 ⟨h1, h2⟩
theorem lines_both {w : Nat → Nat} {n r : Nat} (hr : r = 16 ∨ r = 20) : ∀ m L p f tb fk (nu de nx : Nat → Nat) M (me mp : Nat → Nat) (S T : St), 5 - L < m → syn w n p S T → rdN L f tb fk nu de nx M me → rdX S r L f tb fk nu de nx M me mp → rdM T L f tb fk nu de nx M me mp → ∃ S' a T', g_X3_read_39 m r (nI L) S = some S' ∧ g_X10_rules_79 m T = some (a, T') ∧ rlQ r S T a S' T' := by
  intro m
  induction m with
  | zero => intro L p f tb fk nu de nx M me mp S T h; omega
  | succ m ih =>
    intro L p f tb fk nu de nx M me mp S T hm h hN hX hM
    show ∃ S' a T', f_X3_read_39 (g_X3_read_39 m) r (nI L) S = _ ∧ f_X10_rules_79 (g_X10_rules_79 m) T = _ ∧ _
    have hr' : 16 ≤ r ∧ r ≤ 20 := by omega
    have hL4 : L ≤ 4 := by rw [hN.1]; exact ct4 tb
    obtain ⟨z, e, hz, g⟩ := syn_go (kd := 3) h (by omega)
    have hq1 := (rnn_ok (f := isB) (w := w) h.2.2.1).2.1
    have hF := h.2.2.2.2
    have hb := bk_dec _ (tkK_lt w n (rnn isB w n p))
    have lb := fun hK => line_both h hr hN hX hM hK hz g
    generalize hQ : rnn isB w n p = Q at *
    obtain ⟨m1, m2, m3, m4, m5, m6⟩ := hF
    clear m4 m5 m6 g
    obtain ⟨⟨x1, x2, x3, x4, x5⟩, zz⟩ := hz
    clear x4
    unfold f_X3_read_39 f_X10_rules_79
    have e : m_X3_takes 3 S = some z := e
    rw [if_neg (fun u => by rw [show (4 : Int32) = nI 4 from rfl, nI_ltI (by omega) (by omega)] at u; omega), e, m3]
    obtain ⟨zr, zs⟩ := z
    simp only [bI_some, lt_v]
    by_cases k0 : tkK w n Q = 0
    · have y : zr = 1 ∧ rd zs 3 0 = rd S 3 0 ∧ rd zs 3 1 = rd S 3 1 := by
        rcases zz with ⟨_, b⟩ | ⟨b, _⟩
        · exact b
        · exact absurd b (by rw [k0]; decide)
      have x3 : rd zs 3 5 = 1 := by rw [show rd zs 3 5 = _ from x3, k0]; rfl
      rw [if_neg (by rw [y.1]; decide), if_pos x3, k0, if_pos (show nI (knM 0) = 0 from rfl)]
      exact end_both (w := w) (n := n) (p := p) hr hN hX hM y.2.1 y.2.2 x5
    · have kn : ¬ nI (knM (tkK w n Q)) = 0 := fun u => k0 (hb.2.2.2.2.2.2.2.2.2.2.1.mp ((nI_eq0 (Nat.lt_trans hb.2.2.2.2.2.2.2.2.2.2.2.2.1 (by decide))).mp u))
      rw [if_neg kn]
      by_cases k1 : tkK w n Q = 1
      · have y : zr = 1 := by
          rcases zz with ⟨_, b⟩ | ⟨b, _⟩
          · exact b.1
          · exact absurd b (by rw [k1]; decide)
        have x3 : ¬ rd zs 3 5 = 1 := by rw [show rd zs 3 5 = _ from x3, k1]; decide
        rw [if_neg (by rw [y]; decide), if_neg x3]
        obtain ⟨rb, S', T', l1, l2, l3, l4, l5⟩ := lb k1
        have l1 : m_X3_readLine r zs = some (b2 rb, S') := l1
        rw [l1, l2]
        simp only [bI_some]
        have g4 := rfM_rg l4
        rcases l5 with ⟨rfl, b⟩ | ⟨rfl, ⟨p', s'⟩, f', tb', fk', nu', de', nx', M', me', mp', N', X', M''⟩
        · rw [if_pos b2_f, if_pos b2_f]
          exact ⟨S', -1, T', badF_77 b, rfl, l3, g4.1, Or.inl ⟨rfl, b, g4.2⟩⟩
        · rw [if_neg (by decide), if_neg (by decide), nI_1]
          have hL5 : L + 1 ≤ 4 := by rw [N'.1]; exact ct4 tb'
          obtain ⟨S2, a, T2, a1, a2, a3, a4, a5⟩ := ih (L + 1) p' f' tb' fk' nu' de' nx' M' me' mp' S' T' (by omega) s' N' X' M''
          refine ⟨S2, a, T2, a1, a2, rfX_tr l3 a3, rgM_tr g4.1 a4, ?_⟩
          rcases a5 with ⟨b1, b2', b3⟩ | b
          · exact Or.inl ⟨b1, b2', keM_tr g4.2 b3⟩
          · exact Or.inr b
      · have y : zr = 0 ∧ rd zs 3 0 = nI 1 ∧ rd zs 3 1 = nI Q := by
          rcases zz with ⟨b, _⟩ | ⟨_, b⟩
          · rcases hb.2.2.2.2.2.2.1.mp b with u | u
            · exact absurd u k0
            · exact absurd u k1
          · exact b
        have kn1 : ¬ rd T 0 25 = 1 := fun u => k1 (hb.2.2.2.2.2.2.2.2.2.1.mp ((nI_eq (b := 1) (Nat.lt_trans hb.2.2.2.2.2.2.2.2.2.2.2.2.1 (by decide)) (by decide)).mp (m3.symm.trans u)))
        have el : m_X10_line T = some (0, up (up T 0 3 (nI 1)) 0 4 (nI Q)) := by
          unfold m_X10_line f_X10_line_0
          rw [if_neg kn1]
          exact wr_z (k := 1) m2
        clear hb zz kn kn1
        rw [if_pos y.1, el, f77_no y.2.1 (by decide)]
        simp only [bI_some]
        rw [if_pos trivial]
        refine ⟨zs, _, _, rfl, rfl, fun c i u1 u2 u3 u4 => x5 c i (Or.inl u1), ⟨rfl, fun c i u1 u2 u3 u4 u5 => ?_⟩, Or.inl ⟨rfl, ⟨1, Q, by decide, by decide, y.2.1, ?_, y.2.2, ?_⟩, ?_, ?_, fun i hi => ?_⟩⟩
        · rw [rd_ne (by omega), rd_ne (by omega)]
        · rw [rd_ne (by omega), rd_same]
        · rw [rd_same]
        · rw [rd_ne (by omega), rd_ne (by omega)]
        · rw [rd_ne (by omega), rd_ne (by omega)]
        · rw [rd_ne (by omega), rd_ne (by omega)]
theorem rdN_0 : rdN 0 0 0 0 (fun _ => 0) (fun _ => 0) (fun _ => 0) 0 (fun _ => 0) := by
  refine ⟨by decide, by decide, by decide, fun u => absurd u (by decide), fun s _ h => ?_, by decide, fun i hi => absurd hi (by omega), fun s _ h => ?_, fun s h => ?_⟩
  · rw [Nat.zero_testBit] at h; cases h
  · rw [Nat.zero_testBit] at h; cases h
  · rw [Nat.zero_testBit] at h; cases h
/-- the reference's told are wiped -/
theorem clr52 : ∀ m i (T : St), 4 - i < m → i ≤ 4 → ∃ T', (∀ j, i ≤ j → j < 4 → rd T' 16 j = 0) ∧ (∀ c j, (c ≠ 16 ∨ j < i) → rd T' c j = rd T c j) ∧ rdL T' = rdL T ∧ ∀ T2, m_X10_take (up T' 0 24 0) = some T2 → g_X10_rules_52 m (nI i) T = g_X10_rules_79 fuel T2 := by
  intro m
  induction m with
  | zero => intro i T h; omega
  | succ m ih =>
    intro i T h1 h2
    show ∃ T', _ ∧ _ ∧ _ ∧ ∀ T2, _ → f_X10_rules_52 (g_X10_rules_52 m) (nI i) T = _
    unfold f_X10_rules_52
    simp (disch := omega) only [l_4, nI_leI, nI_add, lt_v, nI_1]
    by_cases c : 4 ≤ i
    · rw [if_pos c]
      exact ⟨T, fun j _ _ => by omega, fun _ _ _ => rfl, rfl, fun T2 ht => by rw [ht]; simp only [bV_some]⟩
    · rw [if_neg c]
      obtain ⟨T', t1, t2, t3, t4⟩ := ih (i + 1) (up T 16 i (zb 0)) (by omega) (by omega)
      refine ⟨T', fun j u1 u2 => ?_, fun c j u => ?_, t3, fun T2 ht => ?_⟩
      · by_cases v : j = i
        · subst v; rw [t2 16 j (by omega), rd_same, zb_0]
        · exact t1 j (by omega) u2
      · rw [t2 c j (by omega), rd_ne (by omega)]
      · rw [ck_nI (by omega) (by omega), nI_clamp (by omega)]
        exact t4 T2 ht
/-- the frame of rules: all but tape's size, fault, rules -/
theorem Rl_R {S T S' T' : St} (h : Rl S T) (h1' : relT S' T') (h2' : relF S' T') (h3' : relR S' T') (hS : ∀ c i, (6 ≤ c ∧ c ≤ 15 ∨ 24 ≤ c) → rd S' c i = rd S c i) (hT : ∀ c i, c ≠ 2 → c ≠ 14 → c ≠ 15 → c ≠ 16 → (c ≠ 0 ∨ (7 ≤ i ∧ (i < 23 ∨ 28 < i) ∧ i ≠ 32 ∧ i ≠ 33)) → rd T' c i = rd T c i) (hL : rdL T' = rdL T) : Rl S' T' := by
  obtain ⟨h1, h2, h3, h4, h5, h6, h7, h8, h9⟩ := h
  exact ⟨h1', h2', h3', relG_fr h4 (fun c i q => hS c i (by omega)) (fun c i q => hT c i (by omega) (by omega) (by omega) (by omega) (by omega)), relW_fr h5 (fun c i q => hS c i (by omega)) (fun c i q => hT c i (by omega) (by omega) (by omega) (by omega) (by omega)), relH_fr h6 (fun c i q => hS c i (by omega)) (fun c i q => hT c i (by omega) (by omega) (by omega) (by omega) (by omega)), relU_fr h7 (fun c i q => hS c i (by omega)) (fun c i q => hT c i (by omega) (by omega) (by omega) (by omega) (by omega)) hL, relM_fr h8 (fun c i q => hS c i (by omega)) (fun c i q => hT c i (by omega) (by omega) (by omega) (by omega) (by omega)), relC_fr h9 (fun c i q => hT c i (by omega) (by omega) (by omega) (by omega) (by omega))⟩
theorem readX_eq {S : St} {r n : Nat} (hr : r = 16 ∨ r = 20) (hn : n ≤ 300) : ∃ S', m_X3_read (nI n) r S = g_X3_read_39 fuel r (nI 0) S' ∧ rd S' 3 3 = nI n ∧ rd S' 3 4 = nI 0 ∧ rd S' 3 0 = 0 ∧ rd S' 3 1 = -1 ∧ rd S' 3 10 = nI 0 ∧ rd S' r 3 = nI 0 ∧ rd S' r 5 = nI 0 ∧ rd S' r 6 = nI 0 ∧ ∀ c i, c ≠ 3 → c ≠ r → rd S' c i = rd S c i := by
  have em : imin (nI n) 300 = nI n := by
    unfold imin
    rw [if_neg (fun u => by rw [show (300 : Int32) = nI 300 from rfl, nI_ltI (by omega) (by omega)] at u; omega)]
  unfold m_X3_read f_X3_read_0 m_X5_clear f_X5_clear_0 ckr
  simp only [lt, em, if_pos hr, bV_some]
  have hr' : 16 ≤ r ∧ r ≤ 20 := by omega
  clear hr
  refine ⟨_, rfl, ?_, ?_, ?_, ?_, ?_, ?_, ?_, ?_, fun c i u1 u2 => ?_⟩
  · simp (disch := omega) only [rd_ne, rd_same]
  · simp (disch := omega) only [rd_ne, rd_same]; rfl
  · simp (disch := omega) only [rd_ne, rd_same]
  · simp (disch := omega) only [rd_ne, rd_same]
  · simp (disch := omega) only [rd_ne, rd_same]; rfl
  · simp (disch := omega) only [rd_ne, rd_same]; rfl
  · simp (disch := omega) only [rd_ne, rd_same]; rfl
  · simp (disch := omega) only [rd_ne, rd_same]; rfl
  · simp (disch := omega) only [rd_ne]
theorem ruM_24 {T T' : St} {L f fk : Nat} {to : Nat → Bool} {nu de nx : Nat → Nat} (h : ruM T L f fk to nu de nx) (h5 : rd T' 0 5 = rd T 0 5) (h6 : rd T' 0 6 = rd T 0 6) (h2 : ∀ i, i < 24 → rd T' 2 i = rd T 2 i) : ruM T' L f fk to nu de nx := by
  obtain ⟨a1, a2, a3⟩ := h
  refine ⟨by rw [h5]; exact a1, fun u => by rw [h6]; exact a2 u, fun s hs ht => ?_⟩
  have a := a3 s hs ht
  unfold acM at *
  rw [h2 (6 * s) (by omega), h2 (6 * s + 1) (by omega), h2 (6 * s + 2) (by omega), h2 (6 * s + 3) (by omega), h2 (6 * s + 3 + 1) (by omega), h2 (6 * s + 3 + 2) (by omega)]
  exact a
set_option maxHeartbeats 2000000 in
theorem st_rules : St_rules Rl := by
  intro a1 S T h
  unfold m_X9_rules f_X9_rules_0 m_X10_rules f_X10_rules_0
  simp only [lt_v]
  by_cases c : a1 < 0
  · rw [if_pos c, if_pos c]; exact ⟨-2, S, _, rfl, rfl, Rl_0 h 0⟩
  · obtain ⟨n, hn, rfl⟩ := nI_of c
    obtain ⟨z, w, h1, h2, h3, h4⟩ := h.1
    rw [if_neg c, if_neg c, h2, rd_ne (by omega), h3]
    simp (disch := omega) only [nI_leI]
    by_cases c2 : n ≤ z
    · rw [if_pos c2, if_pos c2]
      obtain ⟨r, L, f, fk, to, nu, de, nx, u1, u2, u3, u4⟩ := h.2.2.1
      obtain ⟨v2, v3⟩ := usR_r2 u1
      have hrr : r = 16 ∨ r = 20 := (usR_rs u1).2
      rw [v2]
      obtain ⟨S1, s0, s1, s2, s3, s4, s5, s6, s7, s8, s9⟩ := readX_eq (S := S) v3 (show n ≤ 300 by omega)
      rw [s0]
      generalize hT9 : up (up (up (up (up (up (up T 0 2 0) 0 23 (nI n)) 0 1 0) 0 3 0) 0 4 (-1)) 0 28 0) 0 32 0 = T9
      have f9 : ∀ c i, (c ≠ 0 ∨ (i ≠ 1 ∧ i ≠ 2 ∧ i ≠ 3 ∧ i ≠ 4 ∧ i ≠ 23 ∧ i ≠ 28 ∧ i ≠ 32)) → rd T9 c i = rd T c i := fun c i u => by rw [← hT9]; simp (disch := omega) only [rd_ne]
      have L9 : rdL T9 = rdL T := by rw [← hT9]; simp only [rdL_up]
      have t23 : rd T9 0 23 = nI n := by rw [← hT9]; simp (disch := omega) only [rd_ne, rd_same]
      have t1 : rd T9 0 1 = 0 := by rw [← hT9]; simp (disch := omega) only [rd_ne, rd_same]
      have t3 : rd T9 0 3 = 0 := by rw [← hT9]; simp (disch := omega) only [rd_ne, rd_same]
      have t4 : rd T9 0 4 = -1 := by rw [← hT9]; simp (disch := omega) only [rd_ne, rd_same]
      have t28 : rd T9 0 28 = 0 := by rw [← hT9]; simp (disch := omega) only [rd_ne, rd_same]
      have t32 : rd T9 0 32 = 0 := by rw [← hT9]; simp (disch := omega) only [rd_same]
      clear hT9
      obtain ⟨T8, k1, k2, k3, k4⟩ := clr52 fuel 0 T9 (by unfold fuel; omega) (by omega)
      obtain ⟨T3, w1, w2⟩ := takeM (w := w) (n := n) (p := 0) (T := up T8 0 24 0) ⟨by omega, by rw [rd_ne (by omega), k2 0 23 (by omega)]; exact t23, fun i hi => ⟨(h4 i (by omega)).1, by rw [rd_ne (by omega), k2 1 i (by omega), f9 1 i (by omega)]; exact (h4 i (by omega)).2.2⟩, fun i hi => by rw [rd_ne (by omega), k2 13 i (by omega), f9 13 i (by omega)]; exact h.2.2.2.2.2.2.2.2.2 i hi⟩ (by omega) (rd_same _ _ _ _)
      have k4 : g_X10_rules_52 fuel 0 T9 = g_X10_rules_79 fuel T3 := k4 T3 w1
      rw [k4]
      obtain ⟨y1, y2, y3, y4, y5, y6, y7, y8⟩ := w2
      have f3 : ∀ c i, (c ≠ 0 ∨ (i < 24 ∨ 27 < i)) → c ≠ 16 → rd T3 c i = rd T9 c i := fun c i u1 u2 => by rw [y8 c i (by omega), rd_ne (by omega), k2 c i (by omega)]
      have hsyn : syn w n 0 S1 T3 := ⟨⟨by omega, s1, fun i hi => ⟨(h4 i (by omega)).1, by rw [s9 2 i (by omega) (by omega)]; exact (h4 i (by omega)).2.1⟩⟩, ⟨by omega, by rw [f3 0 23 (by omega) (by omega)]; exact t23, fun i hi => ⟨(h4 i (by omega)).1, by rw [f3 1 i (by omega) (by omega), f9 1 i (by omega)]; exact (h4 i (by omega)).2.2⟩, fun i hi => by rw [f3 13 i (by omega) (by omega), f9 13 i (by omega)]; exact h.2.2.2.2.2.2.2.2.2 i hi⟩, by omega, s2, y1, y2, y3, y4, y5, y6⟩
      have hX : rdX S1 (36 - r) 0 0 0 0 (fun _ => 0) (fun _ => 0) (fun _ => 0) 0 (fun _ => 0) (fun _ => 0) := ⟨s6, fun u => absurd u (by omega), s7, s8, (fun s _ ht => by rw [Nat.zero_testBit] at ht; cases ht), s5, fun i hi => absurd hi (by omega), s3, s4⟩
      have hM : rdM T3 0 0 0 0 (fun _ => 0) (fun _ => 0) (fun _ => 0) 0 (fun _ => 0) (fun _ => 0) := ⟨by rw [f3 0 32 (by omega) (by omega)]; exact t32, fun u => absurd u (by omega), fun s hs => by rw [Nat.zero_testBit, y8 16 s (by omega), rd_ne (by omega), k1 s (by omega) hs]; rfl, (fun s _ ht => by rw [Nat.zero_testBit] at ht; cases ht), by rw [f3 0 28 (by omega) (by omega)]; exact t28, fun i hi => absurd hi (by omega), by rw [f3 0 3 (by omega) (by omega)]; exact t3, by rw [f3 0 4 (by omega) (by omega)]; exact t4⟩
      obtain ⟨S2, a, T2, g1, g2, g3, ⟨g4, g5⟩, g6⟩ := lines_both v3 fuel 0 0 0 0 0 _ _ _ 0 _ _ S1 T3 (by unfold fuel; omega) hsyn rdN_0 hX hM
      rw [g1, g2]
      simp only [bV_some]
      have frS : ∀ c i, c ≠ 3 → c ≠ 4 → c ≠ 5 → (c < 36 - r ∨ 36 - r + 3 < c) → rd S2 c i = rd S c i := fun c i u1 u2 u3 u4 => by rw [g3 c i u1 u2 u3 u4, s9 c i u1 (by omega)]
      have frT : ∀ c i, c ≠ 2 → c ≠ 14 → c ≠ 15 → c ≠ 16 → (c ≠ 0 ∨ (7 ≤ i ∧ (i < 23 ∨ 28 < i) ∧ i ≠ 32 ∧ i ≠ 33)) → rd T2 c i = rd T c i := fun c i u1 u2 u3 u4 u5 => by rw [g5 c i u1 u2 u3 u4 (by omega), f3 c i (by omega) (by omega), f9 c i (by omega)]
      have frL : rdL T2 = rdL T := by rw [g4, y7, rdL_up, k3, L9]
      have T01 : rd T2 0 1 = nI 0 := by rw [g5 0 1 (by omega) (by omega) (by omega) (by omega) (by omega), f3 0 1 (by omega) (by omega)]; exact t1
      rw [rd_ne (by omega)]
      rcases g6 with ⟨rfl, ⟨k, q, b1, b2', b3, b4, b5, b6⟩, e1, e2, e3⟩ | ⟨L', f', fk', to', nu', de', nx', rfl, b1, b2', b3, b4, b5, b6, b7⟩
      · rw [b3, if_neg (fun u => by have := (nI_eq0 (a := k) (by omega)).mp u; omega)]
        refine ⟨_, _, T2, rfl, rfl, Rl_R h ⟨0, w, by omega, rd_same _ _ _ _, T01, fun i hi => absurd hi (by omega)⟩ ⟨by rw [rd_ne (by omega), b3, b4], by rw [rd_ne (by omega), b5, b6]⟩ ⟨r, L, f, fk, to, nu, de, nx, ?_, u2, ruX_fr u3 (fun c i y => ?_), ruM_24 u4 ?_ ?_ (fun i hi => ?_)⟩ (fun c i y => ?_) frT frL⟩
        · unfold usR at *
          rw [rd_ne (by omega), rd_ne (by omega), frS 0 8 (by omega) (by omega) (by omega) (by omega), frS 0 9 (by omega) (by omega) (by omega) (by omega)]
          exact u1
        · rw [rd_ne (by omega), frS c i (by omega) (by omega) (by omega) (by omega)]
        · rw [e1, f3 0 5 (by omega) (by omega), f9 0 5 (by omega)]
        · rw [e2, f3 0 6 (by omega) (by omega), f9 0 6 (by omega)]
        · rw [e3 i hi, f3 2 i (by omega) (by omega), f9 2 i (by omega)]
        · rw [rd_ne (by omega), frS c i (by omega) (by omega) (by omega) (by omega)]
      · rw [b1, if_pos rfl]
        have w8 : rd (up S2 1 1 0) 0 8 = rd S 0 8 := by rw [rd_ne (by omega), frS 0 8 (by omega) (by omega) (by omega) (by omega)]
        have w9 : rd (up S2 1 1 0) 0 9 = rd S 0 9 := by rw [rd_ne (by omega), frS 0 9 (by omega) (by omega) (by omega) (by omega)]
        rw [w8, w9, v2, (usR_rs u1).1]
        have hus : usR (up (up (up S2 1 1 0) 0 8 (sr (36 - r))) 0 9 (sr r)) (36 - r) := by
          unfold usR
          rw [rd_ne (by omega), rd_same, rd_same]
          rcases hrr with rfl | rfl
          · exact Or.inr ⟨rfl, rfl, rfl⟩
          · exact Or.inl ⟨rfl, rfl, rfl⟩
        rw [(usR_rs hus).1]
        refine ⟨nI L', _, T2, ?_, rfl, Rl_R h ⟨0, w, by omega, ?_, T01, fun i hi => absurd hi (by omega)⟩ ⟨?_, ?_⟩ ⟨36 - r, L', f', fk', to', nu', de', nx', hus, b5, ruX_fr b6 (fun c i y => ?_), b7⟩ (fun c i y => ?_) frT frL⟩
        · rw [rd_ne (by omega), rd_ne (by omega), rd_ne (by omega), b6.1]
        · rw [rd_ne (by omega), rd_ne (by omega), rd_same]; rfl
        · rw [rd_ne (by omega), rd_ne (by omega), rd_ne (by omega), b1, b3]
        · rw [rd_ne (by omega), rd_ne (by omega), rd_ne (by omega), b2', b4]
        · rw [rd_ne (by omega), rd_ne (by omega), rd_ne (by omega)]
        · rw [rd_ne (by omega), rd_ne (by omega), rd_ne (by omega), frS c i (by omega) (by omega) (by omega) (by omega)]
    · rw [if_neg c2, if_neg c2]
      exact ⟨-2, S, _, rfl, rfl, Rl_0 h 0⟩
