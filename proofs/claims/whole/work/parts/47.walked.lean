/-! ===== walk and lost ===== -/
theorem nI_eq0 {a : Nat} (h : a < 2 ^ 31) : nI a = 0 ↔ a = 0 := nI_eq (b := 0) h (by omega)
theorem tc_0 : (0 : Int32).toNatClampNeg = 0 := by decide +kernel
theorem tc_1 : (1 : Int32).toNatClampNeg = 1 := by decide +kernel
theorem tc_2 : (2 : Int32).toNatClampNeg = 2 := by decide +kernel
theorem tc_3 : (3 : Int32).toNatClampNeg = 3 := by decide +kernel
theorem tc_4 : (4 : Int32).toNatClampNeg = 4 := by decide +kernel
theorem tc_5 : (5 : Int32).toNatClampNeg = 5 := by decide +kernel
/-- ready to walk: what the class has prepared -/
def rdyX (S : St) (en ga : Nat → Nat) (P sh b r : Nat) : Prop := rs (rd S 24 4) = r ∧ ∀ σ, σ < b → rd S 26 σ = nI (oaF en ga P sh σ)
theorem co_eq2 {S : St} {J P : Nat} {en ga : Nat → Nat} {ou mk sh b : Nat} (hn : gaN J P en ga ou mk sh b) (hx : gaX S J P en ga ou mk sh b) {r L f fk : Nat} {to : Nat → Bool} {nu de nx : Nat → Nat} (hr : ruN L f fk to nu de nx) (hrx : ruX S r L f fk to nu de nx) (hL : 0 < L) (hr1 : r = 16 ∨ r = 20) (hy : rdyX S en ga P sh b r) {cl cs p0 m0 : Nat} (hp0 : p0 < 2 * P) (hm0 : m0 < 2 ^ 8) (hcl : ∀ q, q < 2 * P → cl.testBit q = cs.testBit (sdp en (2 * P) q / 2)) :
    Wp (m_X8_comesOut (nI p0) (nI m0) (nI cl) S) (coQ en (2 * P) ou b (sqW en (2 * P) (opP en ga (2 * P) (sh ||| cs)) fk b nu de nx (p0, f, m0)) S) := by
  have h0 : okW P to (p0, f, m0) := ⟨hp0, (hr.2.2.1 hL).1, (hr.2.2.1 hL).2, hm0⟩
  have e := co_eq hn hx hr hrx hL hr1 hy.1 (oa := oaF en ga P sh) (fun τ hτ => ⟨oaF_lt hn τ, hy.2 τ hτ⟩) (cl := cl) hp0 hm0
  have hXX : sqW en (2 * P) (fun τ q => (oaF en ga P sh τ &&& (oaF en ga P sh τ ^^^ cl)).testBit q) fk b nu de nx (p0, f, m0) = sqW en (2 * P) (opP en ga (2 * P) (sh ||| cs)) fk b nu de nx (p0, f, m0) := by
    refine funext (sqW_cong hn hr (fun τ q _ hq => ?_) h0)
    rw [Nat.testBit_and, Nat.testBit_xor, oaF_tb hn hq, hcl q hq]
    unfold opP opM
    rw [Nat.testBit_or]
    cases (ga (sdp en (2 * P) q / 2)).testBit τ <;> cases sh.testBit (sdp en (2 * P) q / 2) <;> cases cs.testBit (sdp en (2 * P) q / 2) <;> rfl
  rw [hXX] at e
  exact e
theorem wt_loop {T0 : St} {m : Nat} {r : Int32} (hm : ∀ j, j < 8 → rd T0 19 j = b2 (m.testBit j)) :
    ∀ (n j : Nat) (T : St), 8 - j < n → j ≤ 8 → (∀ c i, (c ≠ 20 ∨ i ≠ 5) → rd T c i = rd T0 c i) → rdL T = rdL T0 → rd T 20 5 = nI (fb_ct (fun k => m.testBit k) j) → Wp (g_X10_walk_100 n r (nI j) T) (fun p => p.1 = r ∧ (∀ c i, (c ≠ 20 ∨ i ≠ 5) → rd p.2 c i = rd T0 c i) ∧ rdL p.2 = rdL T0 ∧ rd p.2 20 5 = nI (fb_ct (fun k => m.testBit k) 8)) := by
  intro n
  induction n with
  | zero => intro j T h; omega
  | succ n ih =>
    intro j T h1 h2 i1 i2 i3
    show Wp (f_X10_walk_100 (g_X10_walk_100 n) r (nI j) T) _
    unfold f_X10_walk_100
    simp (disch := omega) only [l_8, nI_leI, tc_5]
    by_cases q : j = 8
    · rw [if_pos (by omega), Wp_some]; subst q; exact ⟨rfl, i1, i2, i3⟩
    · rw [if_neg (by omega)]
      simp (disch := omega) only [ck_nI, nI_clamp, i1, hm j (by omega), i3, lt, nI_1]
      simp only [b2_0]
      have nxt : ∀ v : Int32, v = nI (fb_ct (fun k => m.testBit k) (j + 1)) → Wp (g_X10_walk_100 n r (nI (j + 1)) (up T 20 5 v)) (fun p => p.1 = r ∧ (∀ c i, (c ≠ 20 ∨ i ≠ 5) → rd p.2 c i = rd T0 c i) ∧ rdL p.2 = rdL T0 ∧ rd p.2 20 5 = nI (fb_ct (fun k => m.testBit k) 8)) := by
        intro v hv
        refine ih (j + 1) _ (by omega) (by omega) (fun c i w => by rw [rd_ne (by omega)]; exact i1 c i w) i2 (by rw [rd_same]; exact hv)
      rw [fb_ct_succ] at nxt
      cases u : m.testBit j
      · rw [if_pos rfl]
        refine nxt _ ?_
        simp only [u]; exact nI_add _ 0
      · rw [if_neg (by decide)]
        refine nxt _ ?_
        simp only [u, if_true]
theorem st_walk : St_walk Rl := by
  intro a1 S T h
  obtain ⟨J, P, en, ga, ou, mk, sh, b, hn, hx, hm⟩ := h.2.2.2.1
  obtain ⟨r, L, f, fk, to, nu, de, nx, hr1, hr, hrx, hrm⟩ := h.2.2.1
  have hJ : J ≤ 8 := hn.1
  have hP : P ≤ 12 := hn.2.1
  have hL4 : L ≤ 4 := hr.1
  have hmk : mk < 2 ^ 8 := Nat.lt_of_lt_of_le hn.2.2.2.2.2.2.2.1 (Nat.pow_le_pow_right (by decide) hJ)
  unfold m_X9_walk f_X9_walk_0 m_X10_walk f_X10_walk_0
  simp (disch := omega) only [lt, rd_ne, (usR_rs hr1).1, hrx.1, hrm.1, nI_eq0]
  by_cases c0 : L = 0
  · simp only [if_pos c0]; exact ⟨_, _, _, rfl, rfl, Rl_0 h 0⟩
  · simp only [if_neg c0]
    by_cases c : a1 < 0
    · simp only [neg_all c, bI_some, if_true]; exact ⟨_, _, _, rfl, rfl, Rl_0 h 0⟩
    · obtain ⟨p0, hp, rfl⟩ := nI_of c
      have e1 : rd (up T 0 2 0) 0 16 = nI (2 * P) := by rw [rd_ne (by omega)]; exact hm.2.2.2.1
      rw [hasL_eq hx.2.2.1 (by omega) hp, isL_eq e1 (by omega) hp]
      simp only [bI_some, b2_d]
      by_cases q : p0 < 2 * P
      · simp only [q, not_true, if_false]
        rw [(usR_rs hr1).1]
        obtain ⟨S5, s1, s2, s3, s4⟩ := pre_eq hn hx (usR_rs hr1).2
        rw [s1]
        simp only [bV_some]
        have hx5 : gaX S5 J P en ga ou mk sh b := gaX_fr hx (fun c i w => s2 c i (by omega) (by omega))
        have hrx5 : ruX S5 r L f fk to nu de nx := ruX_fr hrx (fun c i w => s2 c i (by have := (usR_rs hr1).2; omega) (by have := (usR_rs hr1).2; omega))
        rw [hx5.2.2.2.2.1]
        have hm1 : gaM (up T 0 2 0) J P en ga ou mk sh b := gaM_fr hm (fun c i w => rd_ne (by omega))
        have hrm1 : ruM (up T 0 2 0) L f fk to nu de nx := ruM_fr hrm (fun c i w => rd_ne (by omega))
        obtain ⟨pc, t1, t2⟩ := co_eq2 hn hx5 hr hrx5 (by omega) (usR_rs hr1).2 ⟨s3, s4⟩ (cl := 0) (cs := 0) q hmk (fun q _ => by simp)
        obtain ⟨pm, u1, u2, u3, u4⟩ := wks_eq hn hm1 hr hrm1 (by omega) (fun v => by rw [rd_ne (by omega)]; exact h.2.2.2.2.2.2.2.2.1 v) q
        rw [Nat.or_zero] at t2
        have h0 : okW P to (p0, f, mk) := ⟨q, (hr.2.2.1 (by omega)).1, (hr.2.2.1 (by omega)).2, hmk⟩
        obtain ⟨S1, m, v1, v2, v3, v4, v5, v6, v7, v8, v9⟩ := rep_eq hn hr h0 t2 u2
        have t1' : m_X8_comesOut (nI p0) (nI mk) 0 S5 = some pc := t1
        rw [t1', u1]
        show ∃ (r : Int32) (S1 T1 : St), (bI (m_X4_take pc.1 pc.2) fun r9 S8 => some (r9, S8)) = some (r, S1) ∧ (if pm.1 = 0 then f_X10_walk_50 pm.1 (rd (up pm.2 0 43 1) 0 39) (up pm.2 0 43 1) else f_X10_walk_50 pm.1 (-1) (up pm.2 0 43 1)) = some (r, T1) ∧ Rl S1 T1
        rw [v1]
        simp only [bI_some]
        have e50 : (if pm.1 = 0 then f_X10_walk_50 pm.1 (rd (up pm.2 0 43 1) 0 39) (up pm.2 0 43 1) else f_X10_walk_50 pm.1 (-1) (up pm.2 0 43 1)) = f_X10_walk_50 pm.1 (if pm.1 = 0 then rd pm.2 0 39 else -1) (up pm.2 0 43 1) := by
          by_cases w : pm.1 = 0
          · rw [if_pos w, if_pos w, rd_ne (by omega)]
          · rw [if_neg w, if_neg w]
        rw [e50]
        unfold f_X10_walk_50
        simp (disch := omega) only [lt, tc_0, tc_1, tc_2, tc_3, tc_4, tc_5, rd_ne]
        generalize hz : (if pm.1 = 0 then rd pm.2 0 39 else -1) = z at *
        obtain ⟨pw, w1, w2, w3, w4, w5⟩ := wt_loop (T0 := up (up (up (up (up (up (up pm.2 0 43 1) 20 0 z) 20 1 (rd pm.2 0 40)) 20 2 (rd pm.2 0 41)) 20 3 (rd pm.2 0 37)) 20 4 (rd pm.2 0 38)) 20 5 0) (m := m) (r := pm.1) (fun j hj => by simp (disch := omega) only [rd_ne]; exact v9 j hj) fuel 0 _ (by unfold fuel; omega) (by omega) (fun _ _ _ => rfl) rfl (by rw [rd_same]; rfl)
        have w1' : g_X10_walk_100 fuel pm.1 0 (up (up (up (up (up (up (up pm.2 0 43 1) 20 0 z) 20 1 (rd pm.2 0 40)) 20 2 (rd pm.2 0 41)) 20 3 (rd pm.2 0 37)) 20 4 (rd pm.2 0 38)) 20 5 0) = some pw := w1
        rw [w1']
        obtain ⟨rw', Tw⟩ := pw
        have w2 : rw' = pm.1 := w2
        subst w2
        refine ⟨_, _, _, rfl, rfl, ?_⟩
        obtain ⟨c, _, _, _, _, c5, _⟩ := t2
        have frS : ∀ c i, c ≠ 28 → c ≠ 26 → c ≠ 25 → c ≠ 24 → rd S1 c i = rd S c i := fun c i a1 a2 a3 a4 => by rw [v2 c i a1, c5 c i a3 (by omega), s2 c i a2 (by omega)]
        have frT : ∀ c i, c ≠ 17 → c ≠ 18 → c ≠ 19 → c ≠ 20 → (c ≠ 0 ∨ (i ≠ 2 ∧ (i < 37 ∨ 43 < i))) → rd Tw c i = rd T c i := fun c i a1 a2 a3 a4 a5 => by
          have w3 : rd Tw c i = _ := w3 c i (by omega)
          rw [w3]; simp (disch := omega) only [rd_ne]; rw [u4.2 c i a1 a2 a3 (by omega), rd_ne (by omega)]
        have fL : rdL Tw = rdL T := by
          have w4 : rdL Tw = _ := w4
          rw [w4]; exact u4.1
        obtain ⟨h1, h2, h3, h4, h5, h6, h7, h8, h9⟩ := h
        refine ⟨relT_fr h1 (fun c i q => frS c i (by omega) (by omega) (by omega) (by omega)) (fun c i q => frT c i (by omega) (by omega) (by omega) (by omega) (by omega)), relF_fr h2 (fun c i q => frS c i (by omega) (by omega) (by omega) (by omega)) (fun c i q => frT c i (by omega) (by omega) (by omega) (by omega) (by omega)), relR_fr h3 (fun c i q => frS c i (by omega) (by omega) (by omega) (by omega)) (fun c i q => frT c i (by omega) (by omega) (by omega) (by omega) (by omega)), relG_fr h4 (fun c i q => frS c i (by omega) (by omega) (by omega) (by omega)) (fun c i q => frT c i (by omega) (by omega) (by omega) (by omega) (by omega)), Or.inr ⟨?_, fun i hi => ?_⟩, relH_fr h6 (fun c i q => frS c i (by omega) (by omega) (by omega) (by omega)) (fun c i q => frT c i (by omega) (by omega) (by omega) (by omega) (by omega)), relU_fr h7 (fun c i q => frS c i (by omega) (by omega) (by omega) (by omega)) (fun c i q => frT c i (by omega) (by omega) (by omega) (by omega) (by omega)) fL, relM_fr h8 (fun c i q => frS c i (by omega) (by omega) (by omega) (by omega)) (fun c i q => frT c i (by omega) (by omega) (by omega) (by omega) (by omega)), ⟨fun v => ?_, fun i hi => ?_⟩⟩
        · have w3 : rd Tw 0 43 = _ := w3 0 43 (by omega)
          rw [w3]; simp (disch := omega) only [rd_ne, rd_same]
        · have hi6 : i = 0 ∨ i = 1 ∨ i = 2 ∨ i = 3 ∨ i = 4 ∨ i = 5 := by omega
          rcases hi6 with rfl | rfl | rfl | rfl | rfl | rfl
          · have w3 : rd Tw 20 0 = _ := w3 20 0 (by omega)
            rw [w3, v3]; simp (disch := omega) only [rd_ne, rd_same]
          · have w3 : rd Tw 20 1 = _ := w3 20 1 (by omega)
            rw [w3, v4]; simp (disch := omega) only [rd_ne, rd_same]
          · have w3 : rd Tw 20 2 = _ := w3 20 2 (by omega)
            rw [w3, v5]; simp (disch := omega) only [rd_ne, rd_same]
          · have w3 : rd Tw 20 3 = _ := w3 20 3 (by omega)
            rw [w3, v6]; simp (disch := omega) only [rd_ne, rd_same]
          · have w3 : rd Tw 20 4 = _ := w3 20 4 (by omega)
            rw [w3, v7]; simp (disch := omega) only [rd_ne, rd_same]
          · have w5 : rd Tw 20 5 = _ := w5
            rw [w5, v8]
        · have w3 : rd Tw 18 v = _ := w3 18 v (by omega)
          rw [w3]; simp (disch := omega) only [rd_ne]; exact u3 v
        · rw [frT 13 i (by omega) (by omega) (by omega) (by omega) (by omega)]; exact h9.2 i hi
      · simp only [q, not_false_iff, if_true]; exact ⟨_, _, _, rfl, rfl, Rl_0 h 0⟩
