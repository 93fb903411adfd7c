/-! ===== a sign, both ===== -/
theorem tk_sg {w : Nat → Nat} {n q : Nat} : (tkK w n q = 4 → w q = 58) ∧ (tkK w n q = 5 → w q = 124) ∧ (tkK w n q = 6 → w q = 59) := by
  unfold tkK
  refine ⟨fun h => ?_, fun h => ?_, fun h => ?_⟩
  all_goals
    repeat' split at h
    all_goals omega
theorem sg_iff {w : Nat → Nat} {n Q c K0 : Nat} (hkd : (c = 58 ∧ K0 = 4) ∨ (c = 59 ∧ K0 = 6)) (hk : tkK w n Q = 4 ∨ tkK w n Q = 5 ∨ tkK w n Q = 6) : (w Q = c ↔ tkK w n Q = K0) ∧ w Q < 256 := by
  have hsg := tk_sg (w := w) (n := n) (q := Q)
  rcases hkd with ⟨rfl, rfl⟩ | ⟨rfl, rfl⟩ <;> rcases hk with k | k | k
  · have := hsg.1 k; clear hsg; omega
  · have := hsg.2.1 k; clear hsg; omega
  · have := hsg.2.2 k; clear hsg; omega
  · have := hsg.1 k; clear hsg; omega
  · have := hsg.2.1 k; clear hsg; omega
  · have := hsg.2.2 k; clear hsg; omega
theorem sign_both {w : Nat → Nat} {n p kd c K0 : Nat} {S T : St} (h : syn w n p S T) (hkd : (kd = 16 ∧ c = 58 ∧ K0 = 4) ∨ (kd = 64 ∧ c = 59 ∧ K0 = 6)) : ∃ (rb : Bool) (S' T' : St), m_X3_takes (nI kd) S = some (b2 rb, S') ∧ m_X10_sign (nI c) T = some (b2 rb, T') ∧
    (∀ c i, (c ≠ 3 ∨ (i ≠ 0 ∧ i ≠ 1 ∧ i ≠ 4 ∧ i ≠ 5 ∧ i ≠ 6 ∧ i ≠ 7)) → rd S' c i = rd S c i) ∧ rdL T' = rdL T ∧ (∀ c i, (c ≠ 0 ∨ (i ≠ 3 ∧ i ≠ 4 ∧ i ≠ 24 ∧ i ≠ 25 ∧ i ≠ 26 ∧ i ≠ 27)) → rd T' c i = rd T c i) ∧
    ((rb = false ∧ ∃ q, badW 1 q S T S' T') ∨ (rb = true ∧ (∃ p', syn w n p' S' T') ∧ rd S' 3 0 = rd S 3 0 ∧ rd S' 3 1 = rd S 3 1 ∧ rd T' 0 3 = rd T 0 3 ∧ rd T' 0 4 = rd T 0 4)) := by
  have hn : n ≤ 300 := h.1.1
  have hq1 := (rnn_ok (f := isB) (w := w) h.2.2.1).2.1
  obtain ⟨z, e1, hz, g⟩ := syn_go (kd := kd) h (by rcases hkd with ⟨rfl, _, _⟩ | ⟨rfl, _, _⟩ <;> decide)
  have hb := bk_dec _ (tkK_lt w n (rnn isB w n p))
  have hbit : (bitK (tkK w n (rnn isB w n p)) &&& kd ≠ 0) ↔ tkK w n (rnn isB w n p) = K0 := by
    rcases hkd with ⟨rfl, rfl, rfl⟩ | ⟨rfl, rfl, rfl⟩
    · exact hb.2.2.2.1
    · exact hb.2.2.2.2.1
  have hkn := hb.2.2.2.2.2.2.2.2.2.2.2.1
  have hkl := hb.2.2.2.2.2.2.2.2.2.2.2.2.1
  clear hb
  obtain ⟨m1, m2, m3, m4, m5, m6⟩ := h.2.2.2.2
  have hwc := fun hk => sg_iff (w := w) (n := n) (Q := rnn isB w n p) (c := c) (K0 := K0) (by rcases hkd with ⟨_, u, v⟩ | ⟨_, u, v⟩; exact Or.inl ⟨u, v⟩; exact Or.inr ⟨u, v⟩) hk
  have hcl : c < 256 := by rcases hkd with ⟨_, rfl, _⟩ | ⟨_, rfl, _⟩ <;> decide
  have hK0 : K0 = 4 ∨ K0 = 6 := by rcases hkd with ⟨_, _, u⟩ | ⟨_, _, u⟩; exact Or.inl u; exact Or.inr u
  clear hkd m4 m5
  generalize hQ : rnn isB w n p = Q at *
  obtain ⟨⟨x1, x2, x3, x4, x5⟩, q1⟩ := hz
  clear x4
  unfold m_X10_sign f_X10_sign_0 f_X10_sign_16
  rw [m3]
  have e4 : (nI (knM (tkK w n Q)) = 4) ↔ knM (tkK w n Q) = 4 := nI_eq (b := 4) (Nat.lt_trans hkl (by decide)) (by decide)
  have wrongT : (bI (m_X10_wrong 1 (rd T 0 27) T) fun r S => ckz r (some (r, S)) : Option (Int32 × St)) = some (0, up (up T 0 3 (nI 1)) 0 4 (nI Q)) := wr_z (k := 1) m2
  by_cases ck : tkK w n Q = K0
  · have hk3 : tkK w n Q = 4 ∨ tkK w n Q = 5 ∨ tkK w n Q = 6 := by rcases hK0 with u | u; exact Or.inl (ck.trans u); exact Or.inr (Or.inr (ck.trans u))
    obtain ⟨hw1, hw2⟩ := hwc hk3
    have y : z.1 = 1 ∧ rd z.2 3 0 = rd S 3 0 ∧ rd z.2 3 1 = rd S 3 1 := by
      rcases q1 with ⟨_, b⟩ | ⟨b, _⟩
      · exact b
      · exact absurd b (hbit.mpr ck)
    rw [if_pos (e4.mpr (hkn.mpr hk3)), m6 hk3, if_pos (by rw [hw1.mpr ck])]
    obtain ⟨T2, t1, t2, t3, t4⟩ := g T (fun _ _ _ => rfl)
    rw [t1]
    simp only [bV_some]
    obtain ⟨zr, zs⟩ := z
    have y1 : zr = 1 := y.1
    subst y1
    exact ⟨true, zs, T2, e1, rfl, x5, t2, fun c i u => t3 c i (u.imp id (fun v => v.2.2)), Or.inr ⟨rfl, ⟨_, t4 zs (fun _ _ _ => rfl)⟩, y.2.1, y.2.2, t3 0 3 (by decide), t3 0 4 (by decide)⟩⟩
  · have y : z.1 = 0 ∧ rd z.2 3 0 = nI 1 ∧ rd z.2 3 1 = nI Q := by
      rcases q1 with ⟨b, _⟩ | ⟨_, b⟩
      · exact absurd (hbit.mp b) ck
      · exact b
    have eT : (if nI (knM (tkK w n Q)) = 4 then if rd T 0 26 = nI c then bV (m_X10_take T) fun S3 => some (1, S3) else bI (m_X10_wrong 1 (rd T 0 27) T) fun r2 S1 => ckz r2 (some (r2, S1)) else bI (m_X10_wrong 1 (rd T 0 27) T) fun r2 S1 => ckz r2 (some (r2, S1)) : Option (Int32 × St)) = some (0, up (up T 0 3 (nI 1)) 0 4 (nI Q)) := by
      by_cases u : knM (tkK w n Q) = 4
      · obtain ⟨hw1, hw2⟩ := hwc (hkn.mp u)
        rw [if_pos (e4.mpr u), m6 (hkn.mp u), if_neg (fun v => ck (hw1.mp ((nI_eq (Nat.lt_trans hw2 (by decide)) (Nat.lt_trans hcl (by decide))).mp v)))]; exact wrongT
      · rw [if_neg (fun v => u (e4.mp v))]; exact wrongT
    obtain ⟨zr, zs⟩ := z
    have y1 : zr = 0 := y.1
    subst y1
    clear hbit hkn hkl e4 hwc hK0 q1
    refine ⟨false, zs, _, e1, eT, x5, rfl, fun c i u => ?_, Or.inl ⟨rfl, Q, y.2.1, ?_, y.2.2, ?_⟩⟩
    · simp (disch := omega) only [rd_ne]
    · simp (disch := omega) only [rd_ne, rd_same]
    · simp (disch := omega) only [rd_same]
