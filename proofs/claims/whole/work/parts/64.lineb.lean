/-! ===== a line, both ===== -/
theorem addLine_eq {S : St} {r L f tb V : Nat} (hr : r = 16 ∨ r = 20) (hL : L ≤ 4) (hV : V < 4) (h3 : rd S r 3 = nI L) (h4 : 0 < L → rd S r 4 = nI f) (h5 : rd S r 5 = nI tb) : ∃ S', m_X5_addLine r (nI V) S = some S' ∧ rd S' r 3 = nI (L + 1) ∧ rd S' r 4 = nI (if L = 0 then V else f) ∧ rd S' r 5 = nI (sb tb V) ∧ ∀ c i, (c ≠ r ∨ (i ≠ 3 ∧ i ≠ 4 ∧ i ≠ 5)) → rd S' c i = rd S c i := by
  have e0 : (nI L = 0) ↔ L = 0 := nI_eq0 (by omega)
  unfold m_X5_addLine f_X5_addLine_0 f_X5_addLine_12 ckr
  simp only [if_pos hr, h3, lt]
  have hr' : 16 ≤ r ∧ r ≤ 20 := by omega
  clear hr
  by_cases c : L = 0
  · rw [if_pos (e0.mpr c), if_pos c]
    clear h4 e0
    simp (disch := omega) only [rd_ne, h3, h5, nI_1, nI_add, with1_eq, bI_some]
    refine ⟨_, rfl, ?_, ?_, ?_, fun c i u => ?_⟩
    · simp (disch := omega) only [rd_ne, rd_same]
    · simp (disch := omega) only [rd_ne, rd_same]
    · simp (disch := omega) only [rd_same]
    · simp (disch := omega) only [rd_ne]
  · rw [if_neg (fun u => c (e0.mp u)), if_neg c]
    have h4 := h4 (by omega)
    clear e0
    simp (disch := omega) only [rd_ne, h3, h5, nI_1, nI_add, with1_eq, bI_some]
    refine ⟨_, rfl, ?_, ?_, ?_, fun c i u => ?_⟩
    · simp (disch := omega) only [rd_ne, rd_same]
    · simp (disch := omega) only [rd_ne]; exact h4
    · simp (disch := omega) only [rd_same]
    · simp (disch := omega) only [rd_ne]
theorem line61_eq {T T2 : St} {V : Nat} (hV : V < 4) (h : m_X10_take (up T 0 32 (rd T 0 32 + 1)) = some T2) : f_X10_line_61 (nI V) T = midM (nI (24 + 6 * V)) (up T2 2 (24 + 6 * V + 3) (-1)) := by
  unfold f_X10_line_61
  have e : (24 + 6 * nI V : Int32) = nI (24 + 6 * V) := by rw [show (6 : Int32) = nI 6 from rfl, pk_mul, show (24 : Int32) = nI 24 from rfl, nI_add]
  have e3 : (nI (24 + 6 * V) + 3 : Int32) = nI (24 + 6 * V + 3) := by rw [show (3 : Int32) = nI 3 from rfl, nI_add]
  simp only [lt, h, bV_some, e, e3]
  rw [ck_nI (by omega) (by omega), nI_clamp (by omega)]
  unfold midM tailM
  simp only [e3]
theorem lineM_eq {T : St} {L f V : Nat} (hL : L ≤ 4) (hV : V < 4) (h25 : rd T 0 25 = 1) (h26 : rd T 0 26 = nI V) (h16 : rd T 16 V = 0) (h32 : rd T 0 32 = nI L) (h33 : 0 < L → rd T 0 33 = nI f) : ∃ T1, (∀ T2, m_X10_take T1 = some T2 → m_X10_line T = midM (nI (24 + 6 * V)) (up T2 2 (24 + 6 * V + 3) (-1))) ∧ rd T1 16 V = 1 ∧ rd T1 0 32 = nI (L + 1) ∧ rd T1 0 33 = nI (if L = 0 then V else f) ∧ rdL T1 = rdL T ∧ ∀ c i, (c ≠ 16 ∨ i ≠ V) → (c ≠ 0 ∨ (i ≠ 32 ∧ i ≠ 33)) → rd T1 c i = rd T c i := by
  have e0 : (nI L = 0) ↔ L = 0 := nI_eq0 (by omega)
  unfold m_X10_line f_X10_line_0
  rw [h25, if_pos rfl, h26]
  simp only [lt]
  rw [ck_nI (by omega) (by omega), nI_clamp (by omega), h16, if_pos rfl, rd_ne (by omega), h32]
  by_cases c : L = 0
  · simp only [if_pos (e0.mpr c), if_pos c]
    clear h33 e0
    refine ⟨_, fun T2 ht => line61_eq hV ht, ?_, ?_, ?_, ?_, fun c i u1 u2 => ?_⟩
    · simp (disch := omega) only [rd_ne, rd_same, zb_1]
    · simp (disch := omega) only [rd_ne, rd_same, h32, nI_1, nI_add]
    · simp (disch := omega) only [rd_ne, rd_same]
    · simp only [rdL_up]
    · simp (disch := omega) only [rd_ne]
  · simp only [if_neg (fun u => c (e0.mp u)), if_neg c]
    have h33 := h33 (by omega)
    clear e0
    refine ⟨_, fun T2 ht => line61_eq hV ht, ?_, ?_, ?_, ?_, fun c i u1 u2 => ?_⟩
    · simp (disch := omega) only [rd_ne, rd_same, zb_1]
    · simp (disch := omega) only [rd_ne, rd_same, h32, nI_1, nI_add]
    · simp (disch := omega) only [rd_ne]; exact h33
    · simp only [rdL_up]
    · simp (disch := omega) only [rd_ne]
theorem lineX_eq {S S' : St} {r tb V : Nat} (hr : r = 16 ∨ r = 20) (hV : V < 4) (htb : tb < 16) (h7 : rd S 3 7 = nI V) (h5 : rd S r 5 = nI tb) (ht : tb.testBit V = false) (ha : m_X5_addLine r (nI V) S = some S') : m_X3_readLine r S = midX r (nI V) S' := by
  unfold m_X3_readLine f_X3_readLine_0
  simp only [lt, h7]
  rw [show ∀ k : Option (Int32 × St), ckr r k = k from fun k => if_pos hr, h5, hasBit_eq S (by omega) (by omega)]
  simp only [bI_some]
  rw [ht, if_pos b2_f, ha]
  simp only [bV_some]
  rfl
theorem lineX_no {S : St} {r tb V q : Nat} (hr : r = 16 ∨ r = 20) (hV : V < 4) (htb : tb < 16) (h7 : rd S 3 7 = nI V) (h6 : rd S 3 6 = nI q) (h5 : rd S r 5 = nI tb) (ht : tb.testBit V = true) : m_X3_readLine r S = some (0, up (up S 3 0 3) 3 1 (nI q)) := by
  unfold m_X3_readLine f_X3_readLine_0
  simp only [lt, h7]
  rw [show ∀ k : Option (Int32 × St), ckr r k = k from fun k => if_pos hr, h5, hasBit_eq S (by omega) (by omega)]
  simp only [bI_some]
  rw [ht, if_neg (by decide), h6]
  rfl
theorem lineM_no {T : St} {V q : Nat} (hV : V < 4) (h25 : rd T 0 25 = 1) (h26 : rd T 0 26 = nI V) (h27 : rd T 0 27 = nI q) (h16 : rd T 16 V = 1) : m_X10_line T = some (0, up (up T 0 3 (nI 3)) 0 4 (nI q)) := by
  unfold m_X10_line f_X10_line_0
  rw [h25, if_pos rfl, h26]
  simp only [lt]
  rw [ck_nI (by omega) (by omega), nI_clamp (by omega), h16, if_neg (by decide)]
  exact wr_z (k := 3) h27
def lnQ (w : Nat → Nat) (n r L : Nat) (S T : St) (rb : Bool) (S' T' : St) : Prop := rfX r S S' ∧ rfM T T' ∧ ((rb = false ∧ badF S' T') ∨ (rb = true ∧ (∃ p', syn w n p' S' T') ∧ ∃ f tb fk nu de nx M me mp, rdN (L + 1) f tb fk nu de nx M me ∧ rdX S' r (L + 1) f tb fk nu de nx M me mp ∧ rdM T' (L + 1) f tb fk nu de nx M me mp))
set_option maxHeartbeats 3000000 in
theorem line_both {w : Nat → Nat} {n p r L f tb fk : Nat} {nu de nx : Nat → Nat} {M : Nat} {me mp : Nat → Nat} {S T : St} {z : Int32 × St} (h : syn w n p S T) (hr : r = 16 ∨ r = 20) (hN : rdN L f tb fk nu de nx M me) (hX : rdX S r L f tb fk nu de nx M me mp) (hM : rdM T L f tb fk nu de nx M me mp) (hK : tkK w n (rnn isB w n p) = 1)
    (hz : tkQ w n (rnn isB w n p) 3 S z) (g : ∀ T1, (∀ c i, (c = 1 ∨ c = 13 ∨ (c = 0 ∧ 23 ≤ i ∧ i ≤ 24)) → rd T1 c i = rd T c i) → ∃ T2, m_X10_take T1 = some T2 ∧ rdL T2 = rdL T1 ∧ (∀ c i, (c ≠ 0 ∨ (i ≠ 24 ∧ i ≠ 25 ∧ i ≠ 26 ∧ i ≠ 27)) → rd T2 c i = rd T1 c i) ∧ ∀ S2, (∀ c i, (c = 2 ∨ (c = 3 ∧ 3 ≤ i ∧ i ≤ 4)) → rd S2 c i = rd z.2 c i) → syn w n (tkE w n (rnn isB w n p)) S2 T2) :
    ∃ (rb : Bool) (S' T' : St), m_X3_readLine r z.2 = some (b2 rb, S') ∧ m_X10_line T = some (b2 rb, T') ∧ lnQ w n r L S T rb S' T' := by
  have hr' : 16 ≤ r ∧ r ≤ 20 := by omega
  have hV := tk_1 hK
  obtain ⟨m1, m2, m3, m4, m5, m6⟩ := h.2.2.2.2
  have m4 := m4 (Or.inl hK)
  obtain ⟨⟨x1, x2, x3, x4, x5⟩, zz⟩ := hz
  have x4 := x4 (Or.inl hK)
  have zb1 : z.1 = 1 ∧ rd z.2 3 0 = rd S 3 0 ∧ rd z.2 3 1 = rd S 3 1 := by
    rcases zz with ⟨_, b⟩ | ⟨b, _⟩
    · exact b
    · exact absurd b (by rw [hK]; decide)
  clear zz m5 m6 m1 x1 x3
  have hL4 : L ≤ 4 := by rw [hN.1]; exact ct4 tb
  have htb := hN.2.1
  have hX' := hX
  have hM' := hM
  obtain ⟨n1, n2, n3, n4, n5, n6, n7, n8, n9⟩ := hX
  obtain ⟨q1, q2, q3, q4, q5, q6, q7, q8⟩ := hM
  have k25 : rd T 0 25 = 1 := by rw [m3, hK]; rfl
  generalize hQ : rnn isB w n p = Q at *
  generalize hVV : tkV w n Q = V at *
  have frX : ∀ c i, c ≠ 3 → rd z.2 c i = rd S c i := fun c i u => x5 c i (Or.inl u)
  cases ht : tb.testBit V
  · have hLt : L < 4 := by
      have := ct_sb hV ht
      have l2 := ct4 (sb tb V)
      have := hN.1
      omega
    have hM7 : M ≤ 2 * L := hN.2.2.2.2.2.1
    obtain ⟨S1, s1, s2, s3, s4, s5⟩ := addLine_eq (L := L) (f := f) (tb := tb) (V := V) (S := z.2) hr hL4 hV (by rw [frX r 3 (by omega), n1]) (fun u => by rw [frX r 4 (by omega)]; exact n2 u) (by rw [frX r 5 (by omega), n3])
    obtain ⟨T1, t1, t2, t3, t4, t5, t6⟩ := lineM_eq (L := L) (f := f) hL4 hV k25 m4 (by rw [q3 V hV, ht]; rfl) q1 q2
    obtain ⟨T2, u1, u2, u3, u4⟩ := g T1 (fun c i y => t6 c i (by omega) (by omega))
    have sy := u4 S1 (fun c i y => s5 c i (by omega))
    have sy2 : syn w n (tkE w n Q) S1 (up T2 2 (24 + 6 * V + 3) (-1)) := by
      obtain ⟨y1, y2, y3, y4, y5⟩ := sy
      exact ⟨y1, txM_fr y2 (fun c i u => rd_ne (by omega)), y3, y4, tkF_fr y5 (fun c i u => rd_ne (by omega))⟩
    obtain ⟨rb, S', T', a1, a2, a3, ⟨a4, a5⟩, a6⟩ := mid_both (V := V) (M := M) (fk := fk) sy2 hr hV (by omega) (by rw [s5 r 6 (by omega), frX r 6 (by omega), n4]) (by rw [s5 3 10 (by omega), x5 3 10 (by decide), n6]) (by rw [rd_ne (by omega), u3 0 28 (by decide), t6 0 28 (by omega) (by omega), q5]) (rd_same _ _ _ _)
    refine ⟨rb, S', T', by rw [lineX_eq (tb := tb) hr hV htb x4 (by rw [frX r 5 (by omega), n3]) ht s1]; exact a1, by rw [t1 T2 u1]; exact a2, fun c i v1 v2 v3 v4 => ?_, ⟨?_, fun c i v1 v2 v3 v4 v5 => ?_⟩, ?_⟩
    · rw [a3 c i v1 (by omega) (by omega) (by omega) (by omega), s5 c i (by omega), frX c i v1]
    · rw [a4, rdL_up, u2, t5]
    · rw [a5 c i (by omega) (by omega) (by omega) (by omega), rd_ne (by omega), u3 c i (by omega), t6 c i (by omega) (by omega)]
    · rcases a6 with b | ⟨b1, b2', ⟨b3, b4, b5, b6⟩, two, vx, vy, vz, pl, vx2, vy2, vz2, pl2, c1, c2, c3, ⟨c4, c5, c6⟩, c7, ⟨c8, c9, c10⟩, ⟨c11, c12, c13⟩, c14, c15, ⟨c16, c17, c18⟩⟩
      · exact Or.inl b
      · refine Or.inr ⟨b1, b2', _, _, _, _, _, _, _, _, _, asm_N hN hV ht c1 two c2, asm_X (S := S) (S' := S') hX' hN hV ht (pl := pl) (pl2 := pl2) two (fun c i v1 v2 v3 v4 => ?_) (fun c i v1 v2 => ?_) ?_ ?_ ?_ c3 c4 c5 c6 c7 c8 c9 c10 ?_ ?_, asm_M (T := T) (T' := T') hM' hN hV ht two (fun i v1 => ?_) (fun c i v1 v2 => ?_) (fun s v1 => ?_) ?_ ?_ ?_ c11 c12 c13 c14 c15 c16 c17 c18 ?_ ?_⟩
        · rw [a3 c i (by omega) (by omega) (by omega) (by omega) (by omega), s5 c i (by omega), frX c i (by omega)]
        · rw [a3 c i (by omega) (by omega) (by omega) (by omega) (by omega), s5 c i (by omega), frX c i (by omega)]
        · rw [a3 r 3 (by omega) (by omega) (by omega) (by omega) (by omega), s2]
        · rw [a3 r 4 (by omega) (by omega) (by omega) (by omega) (by omega), s3]
        · rw [a3 r 5 (by omega) (by omega) (by omega) (by omega) (by omega), s4]
        · rw [b3, s5 3 0 (by omega), zb1.2.1]; exact n8
        · rw [b4, s5 3 1 (by omega), zb1.2.2]; exact n9
        · rw [a5 2 i (by omega) (by omega) (by omega) (by omega), rd_ne (by omega), u3 2 i (by omega), t6 2 i (by omega) (by omega)]
        · rw [a5 c i (by omega) (by omega) (by omega) (by omega), rd_ne (by omega), u3 c i (by omega), t6 c i (by omega) (by omega)]
        · rw [a5 16 s (by omega) (by omega) (by omega) (by omega), rd_ne (by omega), u3 16 s (by omega), t6 16 s (by omega) (by omega)]
        · rw [a5 16 V (by omega) (by omega) (by omega) (by omega), rd_ne (by omega), u3 16 V (by omega), t2]
        · rw [a5 0 32 (by omega) (by omega) (by omega) (by omega), rd_ne (by omega), u3 0 32 (by omega), t3]
        · rw [a5 0 33 (by omega) (by omega) (by omega) (by omega), rd_ne (by omega), u3 0 33 (by omega), t4]
        · rw [b5, rd_ne (by omega), u3 0 3 (by omega), t6 0 3 (by omega) (by omega)]; exact q7
        · rw [b6, rd_ne (by omega), u3 0 4 (by omega), t6 0 4 (by omega) (by omega)]; exact q8
  · refine ⟨false, _, _, lineX_no (tb := tb) hr hV htb x4 x2 (by rw [frX r 5 (by omega), n3]) ht, lineM_no hV k25 m4 m2 (by rw [q3 V hV, ht]; rfl), fun c i v1 v2 v3 v4 => ?_, ⟨rfl, fun c i v1 v2 v3 v4 v5 => ?_⟩, Or.inl ⟨rfl, 3, Q, by decide, by decide, ?_, ?_, ?_, ?_⟩⟩
    · rw [rd_ne (by omega), rd_ne (by omega), frX c i v1]
    · rw [rd_ne (by omega), rd_ne (by omega)]
    · rw [rd_ne (by omega), rd_same]; rfl
    · rw [rd_ne (by omega), rd_same]
    · rw [rd_same]
    · rw [rd_same]
