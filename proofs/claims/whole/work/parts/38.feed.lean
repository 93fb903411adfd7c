/-! ===== feed ===== -/
def by4 (x : Int32) (k : Nat) : Nat := (ush x (nI (24 - 8 * k)) &&& 255).toBitVec.toNat
theorem by4_u (x : Int32) {k : Nat} : ush x (nI (24 - 8 * k)) &&& 255 = nI (by4 x k) := by
  unfold by4
  apply Int32.toBitVec_inj.mp
  show _ = BitVec.ofNat 32 _
  simp
theorem by4_lt (x : Int32) (k : Nat) : by4 x k < 256 := by
  obtain ⟨j, h1, h2⟩ := pk_andE (ush x (nI (24 - 8 * k))) (m := 255) 8 (by decide)
  unfold by4
  rw [h2, pk_tn (by omega)]
  omega
theorem by4_s (x : Int32) {k : Nat} : sshr x (nI (24 - 8 * k)) &&& 255 = nI (by4 x k) := by
  rw [← by4_u]
  apply b_ext
  intro i hi
  rw [b_and, b_and, b_255]
  by_cases q : i < 8
  · unfold sshr ush
    rw [b_sshr _ (by omega) x hi, b_ushr _ (by omega), if_pos (by omega)]
  · simp [q]
theorem add_step {S : St} {z : Nat} {x s : Int32} (hz : rd S 1 1 = nI z) (hz2 : z < 300) (n : Nat) {k : Nat} (hs : s = nI (24 - 8 * k)) : g_X7_add_3 (n + 1) x s S = g_X7_add_3 n x (s + (-8)) (up (up S 2 z (nI (by4 x k))) 1 1 (nI (z + 1))) := by
  show f_X7_add_3 (g_X7_add_3 n) x s S = _
  unfold f_X7_add_3
  subst hs
  rw [if_neg (nI_pos (by omega))]
  simp (disch := omega) only [hz, l_300, nI_leI, ck_nI, nI_clamp, lt, rd_ne, nI_1, by4_u]
  rw [if_neg (by omega)]
theorem add_eq {S : St} {z : Nat} {x : Int32} (hz : rd S 1 1 = nI z) (hz2 : z + 4 ≤ 300) : ∃ S', m_X7_add x S = some S' ∧ rd S' 1 1 = nI (z + 4) ∧ (∀ i, i < z → rd S' 2 i = rd S 2 i) ∧ (∀ k, k < 4 → rd S' 2 (z + k) = nI (by4 x k)) ∧ (∀ c i, (c ≠ 2) → (c ≠ 1 ∨ i ≠ 1) → rd S' c i = rd S c i) := by
  obtain ⟨n, hn⟩ : ∃ n, fuel = n + 1 + 1 + 1 + 1 + 1 := ⟨99995, rfl⟩
  have e : m_X7_add x S = some (up (up (up (up (up (up (up (up S 2 z (nI (by4 x 0))) 1 1 (nI (z + 1))) 2 (z + 1) (nI (by4 x 1))) 1 1 (nI (z + 2))) 2 (z + 2) (nI (by4 x 2))) 1 1 (nI (z + 3))) 2 (z + 3) (nI (by4 x 3))) 1 1 (nI (z + 4))) := by
    unfold m_X7_add f_X7_add_0
    rw [hn, add_step (s := 24) hz (by omega) _ (k := 0) rfl, add_step (z := z + 1) (by rw [rd_same]) (by omega) _ (k := 1) (by decide), add_step (z := z + 2) (by rw [rd_same]) (by omega) _ (k := 2) (by decide), add_step (z := z + 3) (by rw [rd_same]) (by omega) _ (k := 3) (by decide)]
    show f_X7_add_3 _ _ _ _ = _
    unfold f_X7_add_3
    rw [if_pos (by decide)]
  refine ⟨_, e, by rw [rd_same], fun i hi => ?_, fun k hk => ?_, fun c i h1 h2 => ?_⟩
  · simp (disch := omega) only [rd_ne]
  · have : k = 0 ∨ k = 1 ∨ k = 2 ∨ k = 3 := by omega
    rcases this with rfl | rfl | rfl | rfl
    · simp (disch := omega) only [Nat.add_zero, rd_ne, rd_same]
    · simp (disch := omega) only [rd_ne, rd_same]
    · simp (disch := omega) only [rd_ne, rd_same]
    · simp (disch := omega) only [rd_ne, rd_same]
  · simp (disch := omega) only [rd_ne]
def fw (a b c d e : Int32) (k : Nat) : Int32 := if k < 4 then a else if k < 8 then b else if k < 12 then c else if k < 16 then d else e
theorem feed_loop {a b c d e : Int32} {z : Nat} (hz : z + 20 ≤ 300) {T0 : St} : ∀ (n k : Nat) (T : St), 20 - k < n → k ≤ 20 → rd T 0 1 = nI z → (∀ i, i < k → rd T 1 (z + i) = nI (by4 (fw a b c d e i) (i % 4))) → (∀ c i, (c ≠ 1 ∨ i < z) → rd T c i = rd T0 c i) → rdL T = rdL T0 →
    Wp (g_X10_feed_23 n a b c d e (nI k) T) (fun p => p.1 = nI (z + 20) ∧ rd p.2 0 1 = nI (z + 20) ∧ (∀ i, i < 20 → rd p.2 1 (z + i) = nI (by4 (fw a b c d e i) (i % 4))) ∧ (∀ c i, (c ≠ 1 ∨ i < z) → (c ≠ 0 ∨ i ≠ 1) → rd p.2 c i = rd T0 c i) ∧ rdL p.2 = rdL T0) := by
  intro n
  induction n with
  | zero => intro k T h; omega
  | succ n ih =>
    intro k T h1 h2 i1 i2 i3 i4
    show Wp (f_X10_feed_23 (g_X10_feed_23 n) a b c d e (nI k) T) _
    unfold f_X10_feed_23
    simp (disch := omega) only [l_20, l_4, l_8, l_12, l_16, nI_leI]
    by_cases q : k = 20
    · rw [if_pos (by omega)]
      simp (disch := omega) only [lt, Wp_some, i1, nI_add, rd_same]
      subst q
      refine ⟨trivial, trivial, fun i hi => ?_, fun c i w1 w2 => ?_, i4⟩
      · rw [rd_ne (by omega)]; exact i2 i hi
      · rw [rd_ne (by omega)]; exact i3 c i w1
    · rw [if_neg (by omega)]
      have key : ∀ w : Int32, w = fw a b c d e k → Wp (f_X10_feed_76 (g_X10_feed_23 n) a b c d e (nI k) w T) (fun p => p.1 = nI (z + 20) ∧ rd p.2 0 1 = nI (z + 20) ∧ (∀ i, i < 20 → rd p.2 1 (z + i) = nI (by4 (fw a b c d e i) (i % 4))) ∧ (∀ c i, (c ≠ 1 ∨ i < z) → (c ≠ 0 ∨ i ≠ 1) → rd p.2 c i = rd T0 c i) ∧ rdL p.2 = rdL T0) := by
        intro w hw
        unfold f_X10_feed_76
        simp (disch := omega) only [i1, nI_add, ck_nI, nI_clamp, l_4, irem_nI, l_8, pk_mul, l_24, pk_sub, by4_s, lt, nI_1]
        refine ih (k + 1) _ (by omega) (by omega) ?_ (fun i hi => ?_) (fun c i w => ?_) i4
        · rw [rd_ne (by omega)]; exact i1
        · by_cases u : i = k
          · subst u; rw [rd_same, hw]
          · rw [rd_ne (by omega)]; exact i2 i (by omega)
        · rw [rd_ne (by omega)]; exact i3 c i w
      unfold fw at key
      by_cases q1 : 4 ≤ k
      · rw [if_pos q1]
        by_cases q2 : 8 ≤ k
        · rw [if_pos q2]
          by_cases q3 : 12 ≤ k
          · rw [if_pos q3]
            by_cases q4 : 16 ≤ k
            · rw [if_pos q4]; exact key e (by rw [if_neg (by omega), if_neg (by omega), if_neg (by omega), if_neg (by omega)])
            · rw [if_neg q4]; exact key d (by rw [if_neg (by omega), if_neg (by omega), if_neg (by omega), if_pos (by omega)])
          · rw [if_neg q3]; exact key c (by rw [if_neg (by omega), if_neg (by omega), if_pos (by omega)])
        · rw [if_neg q2]; exact key b (by rw [if_neg (by omega), if_pos (by omega)])
      · rw [if_neg q1]; exact key a (by rw [if_pos (by omega)])
theorem Rl_T {S T S' T' : St} (h : Rl S T) (hT1 : relT S' T') (hS : ∀ c i, c ≠ 2 → (c ≠ 1 ∨ i ≠ 1) → rd S' c i = rd S c i) (hT : ∀ c i, (c ≠ 0 ∨ (i ≠ 1 ∧ i ≠ 2)) → c ≠ 1 → rd T' c i = rd T c i) (hL : rdL T' = rdL T) : Rl S' T' := by
  obtain ⟨h1, h2, h3, h4, h5, h6, h7, h8, h9⟩ := h
  exact ⟨hT1, relF_fr h2 (fun c i q => hS c i (by omega) (by omega)) (fun c i q => hT c i (by omega) (by omega)), relR_fr h3 (fun c i q => hS c i (by omega) (by omega)) (fun c i q => hT c i (by omega) (by omega)), relG_fr h4 (fun c i q => hS c i (by omega) (by omega)) (fun c i q => hT c i (by omega) (by omega)), relW_fr h5 (fun c i q => hS c i (by omega) (by omega)) (fun c i q => hT c i (by omega) (by omega)), relH_fr h6 (fun c i q => hS c i (by omega) (by omega)) (fun c i q => hT c i (by omega) (by omega)), relU_fr h7 (fun c i q => hS c i (by omega) (by omega)) (fun c i q => hT c i (by omega) (by omega)) hL, relM_fr h8 (fun c i q => hS c i (by omega) (by omega)) (fun c i q => hT c i (by omega) (by omega)), relC_fr h9 (fun c i q => hT c i (by omega) (by omega))⟩
theorem st_feed : St_feed Rl := by
  intro a b c d e S T h
  obtain ⟨z, w, h1, h2, h3, h4⟩ := h.1
  unfold m_X9_feed f_X9_feed_0 m_X10_feed f_X10_feed_0 m_X7_hasRoom f_X7_hasRoom_0
  simp (disch := omega) only [lt, h2, rd_ne, h3, l_20, nI_add, l_300, nI_ltI, nI_leI]
  by_cases q : z + 20 ≤ 300
  · rw [if_neg (by omega), if_pos q]
    simp only [bI_some]
    rw [if_neg (by decide)]
    obtain ⟨A, a1, a2, a3, a4, a5⟩ := add_eq (x := a) h2 (by omega)
    obtain ⟨B, b1, b2, b3, b4, b5⟩ := add_eq (x := b) a2 (by omega)
    obtain ⟨C, c1, c2, c3, c4, c5⟩ := add_eq (x := c) b2 (by omega)
    obtain ⟨D, d1, d2, d3, d4, d5⟩ := add_eq (x := d) c2 (by omega)
    obtain ⟨E, e1, e2, e3, e4, e5⟩ := add_eq (x := e) d2 (by omega)
    rw [a1]; simp only [bV_some]
    rw [b1]; simp only [bV_some]
    rw [c1]; simp only [bV_some]
    rw [d1]; simp only [bV_some]
    rw [e1]; simp only [bV_some, e2]
    obtain ⟨⟨r, F⟩, f1, f2, f3, f4, f5, f6⟩ := feed_loop (a := a) (b := b) (c := c) (d := d) (e := e) q (T0 := up T 0 2 0) fuel 0 (up T 0 2 0) (by unfold fuel; omega) (by omega) (by rw [rd_ne (by omega)]; exact h3) (fun i hi => by omega) (fun _ _ _ => rfl) rfl
    have f2 : r = nI (z + 20) := f2
    subst f2
    refine ⟨_, E, F, rfl, f1, ?_⟩
    refine Rl_T h ⟨z + 20, fun i => if i < z then w i else by4 (fw a b c d e (i - z)) ((i - z) % 4), q, e2, f3, fun i hi => ?_⟩ (fun x i w1 w2 => by rw [e5 x i w1 w2, d5 x i w1 w2, c5 x i w1 w2, b5 x i w1 w2, a5 x i w1 w2]) (fun x i w1 w2 => by rw [f5 x i (Or.inl w2) (by omega), rd_ne (by omega)]) f6
    by_cases u : i < z
    · simp only [if_pos u]
      refine ⟨(h4 i u).1, ?_, ?_⟩
      · rw [e3 i (by omega), d3 i (by omega), c3 i (by omega), b3 i (by omega), a3 i (by omega)]; exact (h4 i u).2.1
      · rw [f5 1 i (Or.inr u) (by omega), rd_ne (by omega)]; exact (h4 i u).2.2
    · simp only [if_neg u]
      refine ⟨by4_lt _ _, ?_, ?_⟩
      · unfold fw
        by_cases q1 : i - z < 4
        · rw [if_pos q1, e3 i (by omega), d3 i (by omega), c3 i (by omega), b3 i (by omega), show i = z + (i - z) by omega, a4 _ q1]
          rw [show (z + (i - z) - z) = i - z by omega, Nat.mod_eq_of_lt q1]
        · rw [if_neg q1]
          by_cases q2 : i - z < 8
          · rw [if_pos q2, e3 i (by omega), d3 i (by omega), c3 i (by omega)]
            have := b4 (i - z - 4) (by omega)
            rw [show z + 4 + (i - z - 4) = i by omega] at this
            rw [this, show (i - z) % 4 = i - z - 4 by omega]
          · rw [if_neg q2]
            by_cases q3 : i - z < 12
            · rw [if_pos q3, e3 i (by omega), d3 i (by omega)]
              have := c4 (i - z - 8) (by omega)
              rw [show z + 4 + 4 + (i - z - 8) = i by omega] at this
              rw [this, show (i - z) % 4 = i - z - 8 by omega]
            · rw [if_neg q3]
              by_cases q4 : i - z < 16
              · rw [if_pos q4, e3 i (by omega)]
                have := d4 (i - z - 12) (by omega)
                rw [show z + 4 + 4 + 4 + (i - z - 12) = i by omega] at this
                rw [this, show (i - z) % 4 = i - z - 12 by omega]
              · rw [if_neg q4]
                have := e4 (i - z - 16) (by omega)
                rw [show z + 4 + 4 + 4 + 4 + (i - z - 16) = i by omega] at this
                rw [this, show (i - z) % 4 = i - z - 16 by omega]
      · have := f4 (i - z) (by omega)
        rw [show z + (i - z) = i by omega] at this
        exact this
  · rw [if_pos (by omega), if_neg q]
    simp only [bI_some, if_true]
    exact ⟨_, _, _, rfl, rfl, Rl_0 h 0⟩
