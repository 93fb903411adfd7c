/-! ===== an act, both ===== -/
theorem tkK_lt (w : Nat → Nat) (n q : Nat) : tkK w n q < 8 := by
  unfold tkK
  repeat' split
  all_goals omega
theorem isD_in {c : Nat} (h : isD c = true) : 48 ≤ c ∧ c ≤ 57 := by unfold isD at h; simp at h; exact h
theorem tkE_le {w : Nat → Nat} {n q : Nat} (h : q ≤ n) : tkE w n q ≤ n := by
  unfold tkE
  split
  · omega
  · split
    · exact (rnn_ok h).2.1
    · split
      · exact (rnn_ok h).2.1
      · omega
theorem tk_1 {w : Nat → Nat} {n q : Nat} (h : tkK w n q = 1) : tkV w n q < 4 := by
  unfold tkK at h
  unfold tkV
  by_cases c0 : q = n
  · rw [if_pos c0] at h; omega
  · rw [if_neg c0] at h
    by_cases c1 : isL (w q) = true
    · rw [if_pos c1] at h ⊢
      have := isL_in c1
      by_cases c2 : rnn isL w n q = q + 1
      · rw [if_pos c2] at h ⊢
        by_cases c3 : w q < 101
        · omega
        · rw [if_neg c3] at h; omega
      · rw [if_neg c2] at h
        split at h <;> omega
    · rw [if_neg c1] at h
      repeat' split at h
      all_goals omega
theorem tk_2 {w : Nat → Nat} {n q : Nat} (h : tkK w n q = 2) : tkV w n q < 3 := by
  unfold tkK at h
  unfold tkV
  by_cases c0 : q = n
  · rw [if_pos c0] at h; omega
  · rw [if_neg c0] at h
    by_cases c1 : isL (w q) = true
    · rw [if_pos c1] at h ⊢
      by_cases c2 : rnn isL w n q = q + 1
      · rw [if_pos c2] at h
        split at h <;> omega
      · rw [if_neg c2] at h ⊢
        by_cases c3 : wdx w q (rnn isL w n q) < 3
        · exact c3
        · rw [if_neg c3] at h; omega
    · rw [if_neg c1] at h
      repeat' split at h
      all_goals omega
theorem tk_3 {w : Nat → Nat} {n q : Nat} (hq : q ≤ n) (h : tkK w n q = 3) : tkV w n q ≤ 99 ∧ capv 999 w q (rnn isD w n q - q) ≤ 9999 ∧ ((tkV w n q ≤ 9 ∧ capv 999 w q (rnn isD w n q - q) = tkV w n q) ∨ (9 < tkV w n q ∧ 9 < capv 999 w q (rnn isD w n q - q))) := by
  unfold tkK at h
  unfold tkV
  by_cases c0 : q = n
  · rw [if_pos c0] at h; omega
  · rw [if_neg c0] at h
    by_cases c1 : isL (w q) = true
    · rw [if_pos c1] at h
      repeat' split at h
      all_goals omega
    · rw [if_neg c1]
      obtain ⟨r1, r2, r3, r4⟩ := rnn_ok (f := isD) (w := w) hq
      have hd : ∀ i, i < rnn isD w n q - q → w (q + i) ≤ 57 := fun i hi => (isD_in (r3 (q + i) (by omega) (by omega))).2
      exact ⟨capv_le (c := 9) _ hd, capv_le (c := 999) _ hd, capv_both _⟩
def tkF (w : Nat → Nat) (n q : Nat) (T' : St) : Prop := rd T' 0 24 = nI (tkE w n q) ∧ rd T' 0 27 = nI q ∧ rd T' 0 25 = nI (knM (tkK w n q)) ∧ ((tkK w n q = 1 ∨ tkK w n q = 2) → rd T' 0 26 = nI (tkV w n q)) ∧ (tkK w n q = 3 → rd T' 0 26 = nI (capv 999 w q (rnn isD w n q - q))) ∧ ((tkK w n q = 4 ∨ tkK w n q = 5 ∨ tkK w n q = 6) → rd T' 0 26 = nI (w q))
/-- both are ahead of the token from p on; the reference has it already -/
def syn (w : Nat → Nat) (n p : Nat) (S T : St) : Prop := txX S w n ∧ txM T w n ∧ p ≤ n ∧ rd S 3 4 = nI p ∧ tkF w n (rnn isB w n p) T
theorem tkF_fr {w : Nat → Nat} {n q : Nat} {T T' : St} (h : tkF w n q T) (hT : ∀ c i, (c = 0 ∧ 24 ≤ i ∧ i ≤ 27) → rd T' c i = rd T c i) : tkF w n q T' := by
  unfold tkF at *
  rw [hT 0 24 (by omega), hT 0 25 (by omega), hT 0 26 (by omega), hT 0 27 (by omega)]; exact h
/-- the class takes it, being one of kd; the reference takes the next -/
theorem syn_go {w : Nat → Nat} {n p kd : Nat} {S T : St} (h : syn w n p S T) (hk : kd < 128) : ∃ z, m_X3_takes (nI kd) S = some z ∧ tkQ w n (rnn isB w n p) kd S z ∧ ∀ T1, (∀ c i, (c = 1 ∨ c = 13 ∨ (c = 0 ∧ 23 ≤ i ∧ i ≤ 24)) → rd T1 c i = rd T c i) → ∃ T2, m_X10_take T1 = some T2 ∧ rdL T2 = rdL T1 ∧ (∀ c i, (c ≠ 0 ∨ (i ≠ 24 ∧ i ≠ 25 ∧ i ≠ 26 ∧ i ≠ 27)) → rd T2 c i = rd T1 c i) ∧ ∀ S2, (∀ c i, (c = 2 ∨ (c = 3 ∧ 3 ≤ i ∧ i ≤ 4)) → rd S2 c i = rd z.2 c i) → syn w n (tkE w n (rnn isB w n p)) S2 T2 := by
  obtain ⟨h1, h2, h3, h4, h5⟩ := h
  obtain ⟨z, z1, z2⟩ := takesX h1 h3 h4 hk
  refine ⟨z, z1, z2, fun T1 f1 => ?_⟩
  have hq := (rnn_ok (f := isB) (w := w) h3).2.1
  have hT1 : txM T1 w n := txM_fr h2 (fun c i y => f1 c i (by omega))
  obtain ⟨T2, t1, t2⟩ := takeM hT1 (tkE_le hq) (by rw [f1 0 24 (by omega)]; exact h5.1)
  obtain ⟨a1, a2, a3, a4, a5, a6, a7, a8⟩ := t2
  refine ⟨T2, t1, a7, a8, fun S2 g2 => ⟨?_, txM_fr hT1 (fun c i y => a8 c i (by omega)), tkE_le hq, ?_, a1, a2, a3, a4, a5, a6⟩⟩
  · have := z2.1.2.2.2.2
    exact txX_fr h1 (fun c i y => by rw [g2 c i (by omega), this c i (by omega)])
  · rw [g2 3 4 (by omega)]; exact z2.1.1
theorem bk_dec : ∀ K, K < 8 → ((bitK K &&& 4 ≠ 0) ↔ K = 3) ∧ ((bitK K &&& 8 ≠ 0) ↔ K = 2) ∧ ((bitK K &&& 2 ≠ 0) ↔ K = 1) ∧ ((bitK K &&& 16 ≠ 0) ↔ K = 4) ∧ ((bitK K &&& 64 ≠ 0) ↔ K = 6) ∧ ((bitK K &&& 96 ≠ 0) ↔ K = 5 ∨ K = 6) ∧ ((bitK K &&& 3 ≠ 0) ↔ K = 0 ∨ K = 1) ∧ (knM K = 3 ↔ K = 3) ∧ (knM K = 2 ↔ K = 2) ∧ (knM K = 1 ↔ K = 1) ∧ (knM K = 0 ↔ K = 0) ∧ (knM K = 4 ↔ K = 4 ∨ K = 5 ∨ K = 6) ∧ knM K < 8 ∧ bitK K < 128 := by
  intro K hK
  have : K = 0 ∨ K = 1 ∨ K = 2 ∨ K = 3 ∨ K = 4 ∨ K = 5 ∨ K = 6 ∨ K = 7 := by omega
  rcases this with rfl | rfl | rfl | rfl | rfl | rfl | rfl | rfl <;> (refine ⟨?_, ?_, ?_, ?_, ?_, ?_, ?_, ?_, ?_, ?_, ?_, ?_, ?_, ?_⟩ <;> decide)
theorem tq_1 {w : Nat → Nat} {n q kd K0 c : Nat} {S : St} {z : Int32 × St} (h : tkQ w n q kd S z) (hc : c < 8) (h1 : (bitK (tkK w n q) &&& kd ≠ 0) ↔ tkK w n q = K0) (h2 : knM (tkK w n q) = c ↔ tkK w n q = K0) (h3 : knM (tkK w n q) < 8) : (tkK w n q = K0 ∧ nI (knM (tkK w n q)) = nI c ∧ z.1 = 1 ∧ rd z.2 3 0 = rd S 3 0 ∧ rd z.2 3 1 = rd S 3 1) ∨ (tkK w n q ≠ K0 ∧ ¬ nI (knM (tkK w n q)) = nI c ∧ z.1 = 0 ∧ rd z.2 3 0 = nI 1 ∧ rd z.2 3 1 = nI q) := by
  have e := nI_eq (a := knM (tkK w n q)) (b := c) (by omega) (by omega)
  rcases h.2 with ⟨b, y⟩ | ⟨b, y⟩
  · exact Or.inl ⟨h1.mp b, e.mpr (h2.mpr (h1.mp b)), y⟩
  · refine Or.inr ⟨fun u => absurd b (h1.mpr u), fun u => absurd b (h1.mpr (h2.mp (e.mp u))), y⟩
theorem wrong_eq {x y : Int32} {T : St} : m_X10_wrong x y T = some (0, up (up T 0 3 x) 0 4 y) := rfl
/-- a fault at q -/
def badW (k q : Nat) (S T S' T' : St) : Prop := rd S' 3 0 = nI k ∧ rd T' 0 3 = nI k ∧ rd S' 3 1 = nI q ∧ rd T' 0 4 = nI q
theorem wr_z {k q : Nat} {T : St} (h : rd T 0 27 = nI q) : (bI (m_X10_wrong (nI k) (rd T 0 27) T) fun r S => ckz r (some (r, S)) : Option (Int32 × St)) = some (0, up (up T 0 3 (nI k)) 0 4 (nI q)) := by
  rw [h, wrong_eq]
  simp only [bI_some]
  unfold ckz
  rw [if_pos (Or.inl rfl)]
def acFX (r a M : Nat) (S S' : St) : Prop := ∀ c i, (c ≠ 3 ∨ (i ≠ 0 ∧ i ≠ 1 ∧ i ≠ 4 ∧ i ≠ 5 ∧ i ≠ 6 ∧ i ≠ 7 ∧ i ≠ 10)) → (c ≠ 4 ∨ i ≠ M) → (c ≠ 5 ∨ i ≠ M) → (c < r + 1 ∨ r + 3 < c ∨ i ≠ a) → rd S' c i = rd S c i
def acFM (k M : Nat) (T T' : St) : Prop := rdL T' = rdL T ∧ ∀ c i, (c ≠ 0 ∨ (i ≠ 3 ∧ i ≠ 4 ∧ i ≠ 24 ∧ i ≠ 25 ∧ i ≠ 26 ∧ i ≠ 27 ∧ i ≠ 28)) → (c ≠ 14 ∨ i ≠ M) → (c ≠ 15 ∨ i ≠ M) → (c ≠ 2 ∨ (i < k ∨ k + 2 < i)) → rd T' c i = rd T c i
def actQ (w : Nat → Nat) (n r a k M : Nat) (S T : St) (rb : Bool) (S' T' : St) : Prop := acFX r a M S S' ∧ acFM k M T T' ∧
  ((rb = false ∧ ∃ kd q, 1 ≤ kd ∧ kd ≤ 4 ∧ badW kd q S T S' T') ∨
   (rb = true ∧ ∃ p' x y z pl, x < 10 ∧ y < 3 ∧ z < 4 ∧ syn w n p' S' T' ∧ rd S' (r + 1) a = nI x ∧ rd S' (r + 2) a = nI y ∧ rd S' (r + 3) a = nI z ∧ rd T' 2 k = nI x ∧ rd T' 2 (k + 1) = nI y ∧ rd T' 2 (k + 2) = nI z ∧ rd S' 3 10 = nI (M + 1) ∧ rd T' 0 28 = nI (M + 1) ∧ rd S' 4 M = nI z ∧ rd T' 14 M = nI z ∧ rd S' 5 M = nI pl ∧ rd T' 15 M = nI pl ∧ rd S' 3 0 = rd S 3 0 ∧ rd S' 3 1 = rd S 3 1 ∧ rd T' 0 3 = rd T 0 3 ∧ rd T' 0 4 = rd T 0 4))
set_option maxHeartbeats 6000000 in
theorem act_both {w : Nat → Nat} {n p r a k M : Nat} {S T : St} (h : syn w n p S T) (hr : r = 16 ∨ r = 20) (ha : a < 8) (hk : k + 2 < 48) (hk24 : 24 ≤ k) (hM : M < 8) (hmS : rd S 3 10 = nI M) (hmT : rd T 0 28 = nI M) : ∃ (rb : Bool) (S' T' : St), m_X3_readAct r (nI a) S = some (b2 rb, S') ∧ m_X10_actAt (nI k) T = some (b2 rb, T') ∧ actQ w n r a k M S T rb S' T' := by
  have hn : n ≤ 300 := h.1.1
  have hq1 := (rnn_ok (f := isB) (w := w) h.2.2.1).2.1
  obtain ⟨z1, e1, hz1, g1⟩ := syn_go (kd := 4) h (by omega)
  have q1 := tq_1 (K0 := 3) (c := 3) hz1 (by omega) (bk_dec _ (tkK_lt w n _)).1 (bk_dec _ (tkK_lt w n _)).2.2.2.2.2.2.2.1 (bk_dec _ (tkK_lt w n _)).2.2.2.2.2.2.2.2.2.2.2.2.1
  obtain ⟨⟨x1, x2, x3, x4, x5⟩, _⟩ := hz1
  obtain ⟨m1, m2, m3, m4, m5, m6⟩ := h.2.2.2.2
  generalize hQ1 : rnn isB w n p = Q1 at *
  unfold m_X3_readAct f_X3_readAct_0 m_X10_actAt f_X10_actAt_0
  have e1 : m_X3_takes 4 S = some z1 := e1
  rw [e1, m3]
  show ∃ (rb : Bool) (S' T' : St), (if z1.1 = 0 then some (0, z1.2) else if (rd z1.2 3 7) ≤ 9 then (ckr r <| ck (nI a) 8 <| _) else _) = _ ∧ _
  rcases q1 with ⟨c1, ck1, y1⟩ | ⟨c1, ck1, y1⟩
  · obtain ⟨v1, v2, v3⟩ := tk_3 hq1 c1
    rw [if_pos (show nI (knM (tkK w n Q1)) = 3 from ck1), m5 c1, if_neg (by rw [y1.1]; decide), x4 (Or.inr (Or.inr c1))]
    simp (disch := omega) only [l_9, nI_leI]
    by_cases c2 : tkV w n Q1 ≤ 9
    · have v4 : capv 999 w Q1 (rnn isD w n Q1 - Q1) = tkV w n Q1 := by rcases v3 with u | u <;> omega
      rw [if_pos c2, v4, if_pos (show tkV w n Q1 ≤ 9 from c2)]
      clear v3 v4
      unfold ckr
      rw [if_pos hr]
      have hr' : 16 ≤ r ∧ r ≤ 20 := by omega
      clear hr m4 m5 m6 x4
      simp (disch := omega) only [ck_nI, nI_clamp, lt]
      generalize hv1 : tkV w n Q1 = V1 at *
      obtain ⟨T5, t1, t2, t3, t4⟩ := g1 (up T 2 k (nI V1)) (fun c i y => rd_ne (by omega))
      have s1 := t4 (up z1.2 (r + 1) a (nI V1)) (fun c i y => rd_ne (by omega))
      rw [t1]
      simp only [bV_some]
      -- the deed
      have hq2 := (rnn_ok (f := isB) (w := w) s1.2.2.1).2.1
      obtain ⟨z2, e2, hz2, g2⟩ := syn_go (kd := 8) s1 (by omega)
      have q2 := tq_1 (K0 := 2) (c := 2) hz2 (by omega) (bk_dec _ (tkK_lt w n _)).2.1 (bk_dec _ (tkK_lt w n _)).2.2.2.2.2.2.2.2.1 (bk_dec _ (tkK_lt w n _)).2.2.2.2.2.2.2.2.2.2.2.2.1
      obtain ⟨⟨x21, x22, x23, x24, x25⟩, _⟩ := hz2
      obtain ⟨m21, m22, m23, m24, m25, m26⟩ := s1.2.2.2.2
      generalize hQ2 : rnn isB w n (tkE w n Q1) = Q2 at *
      have e2 : m_X3_takes 8 (up z1.2 (r + 1) a (nI V1)) = some z2 := e2
      rw [e2, m23]
      show ∃ (rb : Bool) (S' T' : St), (if z2.1 = 0 then some (0, z2.2) else _) = _ ∧ _
      rcases q2 with ⟨c3, ck2, y2⟩ | ⟨c3, ck2, y2⟩
      · have w2 := tk_2 c3
        rw [if_pos (show nI (knM (tkK w n Q2)) = 2 from ck2), if_neg (by rw [y2.1]; decide), x24 (Or.inr (Or.inl c3)), m24 (Or.inr c3)]
        clear m24 m25 m26 x24
        simp (disch := omega) only [nI_1, ck_nI, nI_clamp, lt]
        generalize hv2 : tkV w n Q2 = V2 at *
        obtain ⟨T9, t21, t22, t23, t24⟩ := g2 (up T5 2 (k + 1) (nI V2)) (fun c i y => rd_ne (by omega))
        have s2 := t24 (up z2.2 (r + 2) a (nI V2)) (fun c i y => rd_ne (by omega))
        rw [t21]
        simp only [bV_some]
        -- the state
        obtain ⟨z3, e3, hz3, g3⟩ := syn_go (kd := 2) s2 (by omega)
        have q3 := tq_1 (K0 := 1) (c := 1) hz3 (by omega) (bk_dec _ (tkK_lt w n _)).2.2.1 (bk_dec _ (tkK_lt w n _)).2.2.2.2.2.2.2.2.2.1 (bk_dec _ (tkK_lt w n _)).2.2.2.2.2.2.2.2.2.2.2.2.1
        obtain ⟨⟨x31, x32, x33, x34, x35⟩, _⟩ := hz3
        obtain ⟨m31, m32, m33, m34, m35, m36⟩ := s2.2.2.2.2
        have hq3 := (rnn_ok (f := isB) (w := w) s2.2.2.1).2.1
        generalize hQ3 : rnn isB w n (tkE w n Q2) = Q3 at *
        have e3 : m_X3_takes 2 (up z2.2 (r + 2) a (nI V2)) = some z3 := e3
        rw [e3, m33]
        show ∃ (rb : Bool) (S' T' : St), (if z3.1 = 0 then some (0, z3.2) else _) = _ ∧ _
        have frX : ∀ c i, (c ≠ 3 ∨ (i ≠ 0 ∧ i ≠ 1 ∧ i ≠ 4 ∧ i ≠ 5 ∧ i ≠ 6 ∧ i ≠ 7)) → (c < r + 1 ∨ r + 2 < c ∨ i ≠ a) → rd z3.2 c i = rd S c i := fun c i u1 u2 => by rw [x35 c i u1, rd_ne (by omega), x25 c i u1, rd_ne (by omega), x5 c i u1]
        have frM : ∀ c i, (c ≠ 0 ∨ (i ≠ 24 ∧ i ≠ 25 ∧ i ≠ 26 ∧ i ≠ 27)) → (c ≠ 2 ∨ (i < k ∨ k + 1 < i)) → rd T9 c i = rd T c i := fun c i u1 u2 => by rw [t23 c i u1, rd_ne (by omega), t3 c i u1, rd_ne (by omega)]
        have frL : rdL T9 = rdL T := by rw [t22, rdL_up, t2, rdL_up]
        rcases q3 with ⟨c4, ck3, y3⟩ | ⟨c4, ck3, y3⟩
        · have w3 := tk_1 c4
          have hm3 : rd z3.2 3 10 = nI M := by rw [frX 3 10 (by omega) (by omega)]; exact hmS
          have hn3 : rd T9 0 28 = nI M := by rw [frM 0 28 (by omega) (by omega)]; exact hmT
          rw [if_pos (show nI (knM (tkK w n Q3)) = 1 from ck3), if_neg (by rw [y3.1]; decide)]
          simp (disch := omega) only [lt, rd_ne, hm3, l_8, nI_leI, x34 (Or.inl c4), x32, m34 (Or.inl c4), m32, hn3, show (2 : Int32) = nI 2 from rfl, nI_add, ck_nI, nI_clamp, nI_1]
          rw [if_neg (by omega)]
          generalize hv3 : tkV w n Q3 = V3 at *
          obtain ⟨T18, t31, t32, t33, t34⟩ := g3 (up (up (up (up T9 2 (k + 2) (nI V3)) 14 M (nI V3)) 15 M (nI Q3)) 0 28 (nI (M + 1))) (fun c i y => by simp (disch := omega) only [rd_ne])
          have s3 := t34 (up (up (up (up z3.2 (r + 3) a (nI V3)) 4 M (nI V3)) 5 M (nI Q3)) 3 10 (nI (M + 1))) (fun c i y => by simp (disch := omega) only [rd_ne])
          rw [t31]
          simp only [bV_some]
          refine ⟨true, _, T18, rfl, rfl, fun c i u1 u2 u3 u4 => ?_, ⟨?_, fun c i u1 u2 u3 u4 => ?_⟩, Or.inr ⟨rfl, _, V1, V2, V3, Q3, by omega, w2, w3, s3, ?_, ?_, ?_, ?_, ?_, ?_, ?_, ?_, ?_, ?_, ?_, ?_, ?_, ?_, ?_, ?_⟩⟩
          · simp (disch := omega) only [rd_ne]; exact frX c i (by omega) (by omega)
          · rw [t32]; simp only [rdL_up]; exact frL
          · rw [t33 c i (by omega)]; simp (disch := omega) only [rd_ne]; exact frM c i (by omega) (by omega)
          · simp (disch := omega) only [rd_ne, rd_same]
            rw [x35 (r + 1) a (by omega), rd_ne (by omega), x25 (r + 1) a (by omega), rd_same]
          · simp (disch := omega) only [rd_ne, rd_same]
            rw [x35 (r + 2) a (by omega), rd_same]
          · simp (disch := omega) only [rd_ne, rd_same]
          · rw [t33 2 k (by omega)]; simp (disch := omega) only [rd_ne, rd_same]
            rw [t23 2 k (by omega), rd_ne (by omega), t3 2 k (by omega), rd_same]
          · rw [t33 2 (k + 1) (by omega)]; simp (disch := omega) only [rd_ne, rd_same]
            rw [t23 2 (k + 1) (by omega), rd_same]
          · rw [t33 2 (k + 2) (by omega)]; simp (disch := omega) only [rd_ne, rd_same]
          · simp (disch := omega) only [rd_same]
          · rw [t33 0 28 (by omega)]; simp (disch := omega) only [rd_same]
          · simp (disch := omega) only [rd_ne, rd_same]
          · rw [t33 14 M (by omega)]; simp (disch := omega) only [rd_ne, rd_same]
          · simp (disch := omega) only [rd_ne, rd_same]
          · rw [t33 15 M (by omega)]; simp (disch := omega) only [rd_ne, rd_same]
          · simp (disch := omega) only [rd_ne]; rw [y3.2.1, rd_ne (by omega), y2.2.1, rd_ne (by omega), y1.2.1]
          · simp (disch := omega) only [rd_ne]; rw [y3.2.2, rd_ne (by omega), y2.2.2, rd_ne (by omega), y1.2.2]
          · rw [t33 0 3 (by omega)]; simp (disch := omega) only [rd_ne]; exact frM 0 3 (by omega) (by omega)
          · rw [t33 0 4 (by omega)]; simp (disch := omega) only [rd_ne]; exact frM 0 4 (by omega) (by omega)
        · rw [if_neg (show ¬ nI (knM (tkK w n Q3)) = 1 from ck3), if_pos y3.1]
          refine ⟨false, _, _, rfl, wr_z (k := 1) m32, fun c i u1 u2 u3 u4 => frX c i (by omega) (by omega), ⟨?_, fun c i u1 u2 u3 u4 => ?_⟩, Or.inl ⟨rfl, 1, Q3, by omega, by omega, y3.2.1, ?_, y3.2.2, ?_⟩⟩
          · simp only [rdL_up]; exact frL
          · simp (disch := omega) only [rd_ne]; exact frM c i (by omega) (by omega)
          · simp (disch := omega) only [rd_ne, rd_same]
          · simp (disch := omega) only [rd_same]
      · rw [if_neg (show ¬ nI (knM (tkK w n Q2)) = 2 from ck2), if_pos y2.1]
        refine ⟨false, _, _, rfl, wr_z (k := 1) m22, fun c i u1 u2 u3 u4 => ?_, ⟨?_, fun c i u1 u2 u3 u4 => ?_⟩, Or.inl ⟨rfl, 1, Q2, by omega, by omega, y2.2.1, ?_, y2.2.2, ?_⟩⟩
        · rw [x25 c i (by omega), rd_ne (by omega), x5 c i (by omega)]
        · simp only [rdL_up]; rw [t2, rdL_up]
        · simp (disch := omega) only [rd_ne]; rw [t3 c i (by omega), rd_ne (by omega)]
        · simp (disch := omega) only [rd_ne, rd_same]
        · simp (disch := omega) only [rd_same]
    · rw [if_neg c2, if_neg (show ¬ capv 999 w Q1 (rnn isD w n Q1 - Q1) ≤ 9 by omega), x2]
      clear v3
      unfold m_X3_fail f_X3_fail_0
      simp only [lt, bV_some]
      refine ⟨false, _, _, rfl, wr_z (k := 2) m2, fun c i u1 u2 u3 u4 => ?_, ⟨rfl, fun c i u1 u2 u3 u4 => ?_⟩, Or.inl ⟨rfl, 2, Q1, by omega, by omega, ?_, ?_, ?_, ?_⟩⟩
      · simp (disch := omega) only [rd_ne]; exact x5 c i (by omega)
      · simp (disch := omega) only [rd_ne]
      · simp (disch := omega) only [rd_ne, rd_same]; rfl
      · simp (disch := omega) only [rd_ne, rd_same]
      · simp (disch := omega) only [rd_same]
      · simp (disch := omega) only [rd_same]
  · rw [if_neg (show ¬ nI (knM (tkK w n Q1)) = 3 from ck1), if_pos y1.1]
    refine ⟨false, _, _, rfl, wr_z (k := 1) m2, fun c i u1 u2 u3 u4 => ?_, ⟨rfl, fun c i u1 u2 u3 u4 => ?_⟩, Or.inl ⟨rfl, 1, Q1, by omega, by omega, y1.2.1, ?_, y1.2.2, ?_⟩⟩
    · exact x5 c i (by omega)
    · simp (disch := omega) only [rd_ne]
    · simp (disch := omega) only [rd_ne, rd_same]
    · simp (disch := omega) only [rd_same]
