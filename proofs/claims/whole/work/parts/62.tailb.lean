/-! ===== the tail of a line, both ===== -/
theorem sg_no {w : Nat → Nat} {n Q : Nat} {T : St} (h : tkF w n Q T) (h6 : tkK w n Q ≠ 6) : m_X10_sign (nI 59) T = some (0, up (up T 0 3 (nI 1)) 0 4 (nI Q)) := by
  obtain ⟨m1, m2, m3, m4, m5, m6⟩ := h
  have hkn := (bk_dec _ (tkK_lt w n Q)).2.2.2.2.2.2.2.2.2.2.2.1
  have hkl := (bk_dec _ (tkK_lt w n Q)).2.2.2.2.2.2.2.2.2.2.2.2.1
  have e4 : (nI (knM (tkK w n Q)) = 4) ↔ knM (tkK w n Q) = 4 := nI_eq (b := 4) (Nat.lt_trans hkl (by decide)) (by decide)
  have wrongT : (bI (m_X10_wrong 1 (rd T 0 27) T) fun r S => ckz r (some (r, S)) : Option (Int32 × St)) = some (0, up (up T 0 3 (nI 1)) 0 4 (nI Q)) := wr_z (k := 1) m2
  unfold m_X10_sign f_X10_sign_0 f_X10_sign_16
  rw [m3]
  by_cases u : knM (tkK w n Q) = 4
  · obtain ⟨hw1, hw2⟩ := sg_iff (w := w) (n := n) (Q := Q) (c := 59) (K0 := 6) (Or.inr ⟨rfl, rfl⟩) (hkn.mp u)
    rw [if_pos (e4.mpr u), m6 (hkn.mp u), if_neg (fun v => h6 (hw1.mp ((nI_eq (Nat.lt_trans hw2 (by decide)) (by decide)).mp v)))]; exact wrongT
  · rw [if_neg (fun v => u (e4.mp v))]; exact wrongT
/-- where no bar stands: the sign -/
theorem tail_sg {w : Nat → Nat} {n Q : Nat} {T : St} {y : Int32} (h : tkF w n Q T) (h5 : tkK w n Q ≠ 5) : tailM y T = f_X10_line_144 T := by
  obtain ⟨m1, m2, m3, m4, m5, m6⟩ := h
  have hkn := (bk_dec _ (tkK_lt w n Q)).2.2.2.2.2.2.2.2.2.2.2.1
  have hkl := (bk_dec _ (tkK_lt w n Q)).2.2.2.2.2.2.2.2.2.2.2.2.1
  have e4 : (nI (knM (tkK w n Q)) = 4) ↔ knM (tkK w n Q) = 4 := nI_eq (b := 4) (Nat.lt_trans hkl (by decide)) (by decide)
  unfold tailM
  rw [m3]
  by_cases u : knM (tkK w n Q) = 4
  · have hk := hkn.mp u
    have hsg := tk_sg (w := w) (n := n) (q := Q)
    rw [if_pos (e4.mpr u), m6 hk, if_neg]
    rcases hk with k | k | k
    · rw [hsg.1 k]; decide
    · exact absurd k h5
    · rw [hsg.2.2 k]; decide
  · rw [if_neg (fun v => u (e4.mp v))]
theorem tailX_ok {S S' : St} {r : Nat} {y : Int32} (h : m_X3_takes 96 S = some (1, S')) (h5 : rd S' 3 5 = nI 64) : tailX r y S = some (1, S') := by
  unfold tailX
  rw [h]
  simp only [bI_some]
  rw [if_neg (by decide), if_pos (show rd S' 3 5 = 64 from h5)]
theorem tailX_no {S S' : St} {r : Nat} {y : Int32} (h : m_X3_takes 96 S = some (0, S')) : tailX r y S = some (0, S') := by
  unfold tailX
  rw [h]
  simp only [bI_some, if_true]
theorem tailX_go {S S' : St} {r fk V : Nat} (h : m_X3_takes 96 S = some (1, S')) (h5 : rd S' 3 5 = nI 32) (hf : rd S' r 6 = nI fk) (hV : V < 4) : tailX r (nI V) S = (bI (m_X3_readAct r (nI (2 * V + 1)) (up S' r 6 (nI (sb fk V)))) fun r21 S20 =>
      if r21 = 0 then some (0, S20)
      else bI (m_X3_takes 64 S20) fun r24 S23 => if r24 = 0 then some (0, S23) else some (1, S23)) := by
  unfold tailX
  rw [h]
  simp only [bI_some]
  rw [if_neg (by decide), if_neg (by rw [h5]; decide), hf, with1_eq _ (by omega)]
  simp only [bI_some, lt]
  have e : (2 * nI V + 1 : Int32) = nI (2 * V + 1) := by
    rw [show (2 : Int32) = nI 2 from rfl, pk_mul, nI_1]
  rw [e]
theorem tailM_go {w : Nat → Nat} {n Q V : Nat} {T T2 : St} (h : tkF w n Q T) (h5 : tkK w n Q = 5) (ht : m_X10_take T = some T2) (hV : V < 4) : tailM (nI (24 + 6 * V)) T = (bI (m_X10_actAt (nI (24 + 6 * V + 3)) T2) fun r16 S15 => if r16 = 0 then some (0, S15) else f_X10_line_144 S15) := by
  obtain ⟨m1, m2, m3, m4, m5, m6⟩ := h
  unfold tailM
  rw [m3, h5, if_pos (show nI (knM 5) = 4 from rfl), m6 (Or.inr (Or.inl h5)), (tk_sg (w := w) (n := n) (q := Q)).2.1 h5, if_pos (show nI 124 = 124 from rfl), ht]
  simp only [bV_some]
  rw [show (nI (24 + 6 * V) + 3 : Int32) = nI (24 + 6 * V + 3) by rw [show (3 : Int32) = nI 3 from rfl, nI_add]]
set_option maxHeartbeats 2000000 in
theorem tail_both {w : Nat → Nat} {n p r V M fk : Nat} {S T : St} (h : syn w n p S T) (hr : r = 16 ∨ r = 20) (hV : V < 4) (hM : M < 8) (hf : rd S r 6 = nI fk) (hmS : rd S 3 10 = nI M) (hmT : rd T 0 28 = nI M) : ∃ (rb : Bool) (S' T' : St), tailX r (nI V) S = some (b2 rb, S') ∧ tailM (nI (24 + 6 * V)) T = some (b2 rb, T') ∧ tlQ w n r V M fk S T rb S' T' := by
  have hr' : 16 ≤ r ∧ r ≤ 20 := by omega
  obtain ⟨z, e, hz, g⟩ := syn_go (kd := 96) h (by omega)
  have hk := k96 hz
  have hF := h.2.2.2.2
  obtain ⟨⟨x1, x2, x3, x4, x5⟩, _⟩ := hz
  clear x4
  generalize hQ : rnn isB w n p = Q at *
  obtain ⟨zr, zs⟩ := z
  have e : m_X3_takes 96 S = some (zr, zs) := e
  have frX : ∀ c i, c ≠ 3 → rd zs c i = rd S c i := fun c i u => x5 c i (Or.inl u)
  have zm : rd zs 3 10 = nI M := by rw [← hmS]; exact x5 3 10 (by decide)
  rcases hk with ⟨y1, y2, y3, ⟨k, y4⟩ | ⟨k, y4⟩⟩ | ⟨y1, y2, y3, k5, k6⟩
  · have y1 : zr = 1 := y1
    subst y1
    obtain ⟨T2, t1, t2, t3, t4⟩ := g T (fun _ _ _ => rfl)
    have eS : m_X10_sign (nI 59) T = some (1, T2) := by
      obtain ⟨m1, m2, m3, m4, m5, m6⟩ := hF
      unfold m_X10_sign f_X10_sign_0
      rw [m3, k, if_pos (show nI (knM 6) = 4 from rfl), m6 (Or.inr (Or.inr k)), (tk_sg (w := w) (n := n) (q := Q)).2.2 k, if_pos (show nI 59 = nI 59 from rfl), t1]
      simp only [bV_some]
    refine ⟨true, zs, T2, tailX_ok e y4, (tail_sg hF (by omega)).trans (l144_eq eS (Or.inr rfl)), fun c i u _ _ _ _ => frX c i u, ⟨t2, fun c i u _ _ _ => t3 c i (u.imp id (fun v => v.2.2.imp id (fun v => v.imp id (fun v => v.imp id And.left))))⟩, Or.inr ⟨rfl, ⟨_, t4 zs (fun _ _ _ => rfl)⟩, y2, y3, t3 0 3 (by decide), t3 0 4 (by decide), Or.inl ⟨?_, zm, ?_, t3 2 _ (Or.inl (by decide))⟩⟩⟩
    · rw [frX r 6 (by omega), hf]
    · rw [t3 0 28 (by decide), hmT]
  · have y1 : zr = 1 := y1
    subst y1
    obtain ⟨T2, t1, t2, t3, t4⟩ := g T (fun _ _ _ => rfl)
    rw [tailX_go (fk := fk) e y4 (by rw [frX r 6 (by omega), hf]) hV, tailM_go hF k t1 hV]
    have s1 := t4 (up zs r 6 (nI (sb fk V))) (fun c i u => rd_ne (by omega))
    obtain ⟨rb, S3, T3, a1, a2, a3, ⟨a4, a5⟩, a6⟩ := act_both (a := 2 * V + 1) (k := 24 + 6 * V + 3) (M := M) s1 hr (by omega) (by omega) (by omega) hM (by rw [rd_ne (by omega)]; exact zm) (by rw [t3 0 28 (by decide)]; exact hmT)
    rw [a1, a2]
    simp only [bI_some]
    have frA : ∀ c i, c ≠ 3 → (c ≠ 4 ∨ i ≠ M) → (c ≠ 5 ∨ i ≠ M) → (c ≠ r ∨ i ≠ 6) → (c < r + 1 ∨ r + 3 < c ∨ i ≠ 2 * V + 1) → rd S3 c i = rd S c i := fun c i u1 u2 u3 u4 u5 => by
      rw [a3 c i (Or.inl u1) u2 u3 u5, rd_ne (by omega), frX c i u1]
    have frB : ∀ c i, (c ≠ 0 ∨ (i ≠ 3 ∧ i ≠ 4 ∧ i ≠ 24 ∧ i ≠ 25 ∧ i ≠ 26 ∧ i ≠ 27 ∧ i ≠ 28)) → (c ≠ 14 ∨ i ≠ M) → (c ≠ 15 ∨ i ≠ M) → (c ≠ 2 ∨ (i < 24 + 6 * V + 3 ∨ 24 + 6 * V + 5 < i)) → rd T3 c i = rd T c i := fun c i u1 u2 u3 u4 => by
      rw [a5 c i u1 u2 u3 (by omega), t3 c i (by omega)]
    rcases a6 with ⟨rfl, kd, q, b1, b2', b3⟩ | ⟨rfl, p', vx, vy, vz, pl, b1, b2', b3, s3, b4, b5, b6, b7, b8, b9, b10, b11, b12, b13, b14, b15, b16, b17, b18, b19⟩
    · rw [if_pos b2_f, if_pos b2_f]
      exact ⟨false, S3, T3, rfl, rfl, frA, ⟨by rw [a4, t2], frB⟩, Or.inl ⟨rfl, badW_F ⟨b1, b2'⟩ b3⟩⟩
    · rw [if_neg (by decide), if_neg (by decide)]
      obtain ⟨rb, S4, T4, c1, c2, c3, c4, c5, c6⟩ := sign_both (kd := 64) (c := 59) (K0 := 6) s3 (Or.inr ⟨rfl, rfl, rfl⟩)
      have c1 : m_X3_takes 64 S3 = some (b2 rb, S4) := c1
      rw [c1, l144_eq c2 (b2_01 rb)]
      simp only [bI_some]
      have e2 : (if b2 rb = 0 then some (0, S4) else some (1, S4) : Option (Int32 × St)) = some (b2 rb, S4) := by cases rb <;> rfl
      rw [e2]
      refine ⟨rb, S4, T4, rfl, rfl, fun c i u1 u2 u3 u4 u5 => ?_, ⟨by rw [c4, a4, t2], fun c i u1 u2 u3 u4 => ?_⟩, ?_⟩
      · rw [c3 c i (Or.inl u1), frA c i u1 u2 u3 u4 u5]
      · rw [c5 c i (by omega), frB c i u1 u2 u3 u4]
      · rcases c6 with ⟨rfl, q, d1⟩ | ⟨rfl, d1, d2, d3, d4, d5⟩
        · exact Or.inl ⟨rfl, badW_F (by decide) d1⟩
        · refine Or.inr ⟨rfl, d1, ?_, ?_, ?_, ?_, Or.inr ⟨?_, ?_, ?_, vx, vy, vz, pl, b1, b2', b3, ?_, ?_, ?_, ?_, ?_, ?_, ?_, ?_, ?_, ?_⟩⟩
          · rw [d2, b16, rd_ne (by omega)]; exact y2
          · rw [d3, b17, rd_ne (by omega)]; exact y3
          · rw [d4, b18, t3 0 3 (by decide)]
          · rw [d5, b19, t3 0 4 (by decide)]
          · rw [c3 r 6 (by omega), a3 r 6 (by omega) (by omega) (by omega) (by omega), rd_same]
          · rw [c3 3 10 (by decide), b10]
          · rw [c5 0 28 (by decide), b11]
          · rw [c3 (r + 1) _ (by omega), b4]
          · rw [c3 (r + 2) _ (by omega), b5]
          · rw [c3 (r + 3) _ (by omega), b6]
          · rw [c5 2 _ (Or.inl (by decide)), b7]
          · rw [c5 2 _ (Or.inl (by decide)), b8]
          · rw [c5 2 _ (Or.inl (by decide)), b9]
          · rw [c3 4 _ (Or.inl (by decide)), b12]
          · rw [c5 14 _ (Or.inl (by decide)), b13]
          · rw [c3 5 _ (Or.inl (by decide)), b14]
          · rw [c5 15 _ (Or.inl (by decide)), b15]
  · have y1 : zr = 0 := y1
    subst y1
    refine ⟨false, zs, _, tailX_no e, (tail_sg hF k5).trans (l144_eq (sg_no hF k6) (Or.inl rfl)), fun c i u _ _ _ _ => frX c i u, ⟨rfl, fun c i u1 u2 u3 u4 => ?_⟩, Or.inl ⟨rfl, 1, Q, by decide, by decide, y2, ?_, y3, ?_⟩⟩
    · simp (disch := omega) only [rd_ne]
    · simp (disch := omega) only [rd_ne, rd_same]
    · simp (disch := omega) only [rd_same]
