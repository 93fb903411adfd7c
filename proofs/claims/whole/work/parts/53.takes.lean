/-! ===== the class takes a token ===== -/
def wdI (w : Nat → Nat) (q : Nat) : Nat → Int32
  | 0 => 0
  | k + 1 => shl (wdI w q k) 8 ||| nI (w (q + k))
theorem letX_loop {w : Nat → Nat} {n q : Nat} : ∀ (m k : Nat) (S : St), n - (q + k) < m → q + k ≤ n → txX S w n → rd S 3 4 = nI (q + k) → g_X3_takeLetters_2 m (wdI w q k) S = f_X3_takeLetters_56 (wdI w q (rnn isL w n (q + k) - q)) (up S 3 4 (nI (rnn isL w n (q + k)))) := by
  intro m
  induction m with
  | zero => intro k S h; omega
  | succ m ih =>
    intro k S h1 h2 hx hp
    have hx' := hx
    obtain ⟨t1, t2, t3⟩ := hx
    show f_X3_takeLetters_2 (g_X3_takeLetters_2 m) _ S = _
    unfold f_X3_takeLetters_2
    simp (disch := omega) only [t2, hp, nI_leI]
    have stop : rnn isL w n (q + k) = q + k → f_X3_takeLetters_56 (wdI w q k) S = f_X3_takeLetters_56 (wdI w q (rnn isL w n (q + k) - q)) (up S 3 4 (nI (rnn isL w n (q + k)))) := by
      intro e
      rw [e, show q + k - q = k by omega, up_self hp]
    by_cases u : q + k = n
    · rw [if_pos (by omega)]; exact stop (rnn_stop h2 (fun z => by omega))
    · rw [if_neg (by omega)]
      obtain ⟨u1, u2⟩ := t3 (q + k) (by omega)
      simp (disch := omega) only [ck_nI, nI_clamp, u2, letter_eq, bI_some, b2_0, lt, hp, nI_1]
      cases v : isL (w (q + k))
      · rw [if_pos rfl]; exact stop (rnn_stop h2 (fun _ => v))
      · rw [if_neg (by decide)]
        have e := ih (k + 1) (up S 3 4 (nI (q + k + 1))) (by omega) (by omega) (txX_fr hx' (fun c i z => rd_ne (by omega))) (rd_same _ _ _ _)
        rw [show q + (k + 1) = q + k + 1 by omega, ← rnn_step (f := isL) (w := w) (show q + k < n by omega) v, up_up] at e
        exact e
theorem wd_next {a c : Nat} (ha : a < 2 ^ 23) (hc : c < 256) : shl (nI a) 8 ||| nI c = nI (a * 256 + c) := by
  rw [l_8, shl_nI (by omega) (by omega), fa_or]
  have := Nat.two_pow_add_eq_or_of_lt (i := 8) (b := c) (by omega) a
  rw [show a * 2 ^ 8 = 2 ^ 8 * a by omega, ← this]
theorem wd_1 {w : Nat → Nat} {q : Nat} (h : w q < 256) : wdI w q 1 = nI (w q) := by
  have e : (0 : Int32) = nI 0 := rfl
  show shl 0 8 ||| nI (w q) = _
  rw [e, wd_next (by omega) h]; exact congrArg nI (by omega)
theorem wd_4 {w : Nat → Nat} {q : Nat} (h0 : w q < 128) (h1 : w (q + 1) < 128) (h2 : w (q + 2) < 128) (h3 : w (q + 3) < 128) : wdI w q 4 = nI (((w q * 256 + w (q + 1)) * 256 + w (q + 2)) * 256 + w (q + 3)) := by
  show shl (shl (shl (wdI w q 1) 8 ||| nI (w (q + 1))) 8 ||| nI (w (q + 2))) 8 ||| nI (w (q + 3)) = _
  rw [wd_1 (by omega), wd_next (by omega) (by omega), wd_next (by omega) (by omega), wd_next (by omega) (by omega)]
def kLt (w : Nat → Nat) (n q : Nat) : Nat := if rnn isL w n q = q + 1 then (if w q < 101 then 1 else 7) else if wdx w q (rnn isL w n q) < 3 then 2 else 7
def vLt (w : Nat → Nat) (n q : Nat) : Nat := if rnn isL w n q = q + 1 then w q - 97 else wdx w q (rnn isL w n q)
theorem isL_in {c : Nat} (h : isL c = true) : 97 ≤ c ∧ c ≤ 122 := by unfold isL at h; simp at h; exact h
theorem deed_eq {w : Nat → Nat} {q : Nat} {S : St} (h0 : isL (w q) = true) (h1 : isL (w (q + 1)) = true) (h2 : isL (w (q + 2)) = true) (h3 : isL (w (q + 3)) = true) : Wp (m_X3_takeDeed (wdI w q 4) S) (fun S' => rd S' 3 5 = nI (bitK (if wdx w q (q + 4) < 3 then 2 else 7)) ∧ (wdx w q (q + 4) < 3 → rd S' 3 7 = nI (wdx w q (q + 4))) ∧ ∀ c i, (c ≠ 3 ∨ (i ≠ 5 ∧ i ≠ 7)) → rd S' c i = rd S c i) := by
  have a0 := isL_in h0
  have a1 := isL_in h1
  have a2 := isL_in h2
  have a3 := isL_in h3
  rw [wd_4 (by omega) (by omega) (by omega) (by omega)]
  unfold m_X3_takeDeed f_X3_takeDeed_0
  simp (disch := omega) only [lt, show (1685221232 : Int32) = nI 1685221232 from rfl, show (1937006969 : Int32) = nI 1937006969 from rfl, show (1952541541 : Int32) = nI 1952541541 from rfl, nI_eq]
  by_cases c2 : ((w q * 256 + w (q + 1)) * 256 + w (q + 2)) * 256 + w (q + 3) = 1685221232
  · have hv : wdx w q (q + 4) = 2 := by unfold wdx; rw [if_pos rfl, if_neg (by omega), if_neg (by omega), if_pos (by omega)]
    rw [if_pos c2, Wp_some, hv]
    refine ⟨?_, fun _ => ?_, fun c i z => ?_⟩
    · simp (disch := omega) only [rd_ne, rd_same]; rfl
    · simp (disch := omega) only [rd_same]; rfl
    · simp (disch := omega) only [rd_ne]
  · rw [if_neg c2]
    by_cases c0 : ((w q * 256 + w (q + 1)) * 256 + w (q + 2)) * 256 + w (q + 3) = 1937006969
    · have hv : wdx w q (q + 4) = 0 := by unfold wdx; rw [if_pos rfl, if_pos (by omega)]
      rw [if_pos c0, Wp_some, hv]
      refine ⟨?_, fun _ => ?_, fun c i z => ?_⟩
      · simp (disch := omega) only [rd_ne, rd_same]; rfl
      · simp (disch := omega) only [rd_same]; rfl
      · simp (disch := omega) only [rd_ne]
    · rw [if_neg c0]
      by_cases c1 : ((w q * 256 + w (q + 1)) * 256 + w (q + 2)) * 256 + w (q + 3) = 1952541541
      · have hv : wdx w q (q + 4) = 1 := by unfold wdx; rw [if_pos rfl, if_neg (by omega), if_pos (by omega)]
        rw [if_pos c1, Wp_some, hv]
        refine ⟨?_, fun _ => ?_, fun c i z => ?_⟩
        · simp (disch := omega) only [rd_ne, rd_same]; rfl
        · simp (disch := omega) only [rd_same]; rfl
        · simp (disch := omega) only [rd_ne]
      · have hv : wdx w q (q + 4) = 3 := by unfold wdx; rw [if_pos rfl, if_neg (by omega), if_neg (by omega), if_neg (by omega)]
        rw [if_neg c1, Wp_some, hv]
        refine ⟨?_, fun z => by omega, fun c i z => ?_⟩
        · simp (disch := omega) only [rd_same]; rfl
        · simp (disch := omega) only [rd_ne]
theorem letX {w : Nat → Nat} {n q : Nat} {S : St} (hx : txX S w n) (hq : q < n) (h4 : rd S 3 4 = nI q) (h6 : rd S 3 6 = nI q) (hl : isL (w q) = true) : Wp (m_X3_takeLetters S) (fun S' => rd S' 3 4 = nI (rnn isL w n q) ∧ rd S' 3 5 = nI (bitK (kLt w n q)) ∧ (kLt w n q ≠ 7 → rd S' 3 7 = nI (vLt w n q)) ∧ ∀ c i, (c ≠ 3 ∨ (i ≠ 4 ∧ i ≠ 5 ∧ i ≠ 7)) → rd S' c i = rd S c i) := by
  have hn : n ≤ 300 := hx.1
  obtain ⟨r1, r2, r3, r4⟩ := rnn_ok (f := isL) (w := w) (show q ≤ n by omega)
  have r5 : q + 1 ≤ rnn isL w n q := by
    rcases Nat.lt_or_ge q (rnn isL w n q) with u | u
    · omega
    · have e : rnn isL w n q = q := by omega
      have := r4 (by omega)
      rw [e, hl] at this; cases this
  have e := letX_loop (w := w) (n := n) (q := q) fuel 0 S (by unfold fuel; omega) (by omega) hx h4
  have hw := isL_in hl
  unfold m_X3_takeLetters f_X3_takeLetters_0
  have e : g_X3_takeLetters_2 fuel 0 S = _ := e
  rw [e, Nat.add_zero]
  generalize hE : rnn isL w n q = E at *
  unfold f_X3_takeLetters_56 f_X3_takeLetters_100
  simp (disch := omega) only [lt, rd_same, rd_ne, h6, pk_sub, show (1 : Int32) = nI 1 from rfl, l_4, nI_eq]
  unfold kLt vLt
  rw [hE]
  by_cases c1 : E = q + 1
  · rw [if_pos (by omega), if_pos c1, if_pos c1, show E - q = 1 by omega, wd_1 (by omega)]
    simp (disch := omega) only [l_97, pk_sub, nI_leI]
    by_cases c2 : w q < 101
    · rw [if_neg (by omega), Wp_some, if_pos c2]
      refine ⟨?_, ?_, fun _ => ?_, fun c i z => ?_⟩
      · simp (disch := omega) only [rd_ne, rd_same]
      · simp (disch := omega) only [rd_ne, rd_same]; rfl
      · simp (disch := omega) only [rd_same]
      · simp (disch := omega) only [rd_ne]
    · rw [if_pos (by omega), if_neg (by omega), Wp_some, if_neg c2]
      refine ⟨?_, ?_, fun u => absurd rfl u, fun c i z => ?_⟩
      · simp (disch := omega) only [rd_ne, rd_same]
      · simp (disch := omega) only [rd_same]; rfl
      · simp (disch := omega) only [rd_ne]
  · rw [if_neg (by omega), if_neg c1, if_neg c1]
    by_cases c2 : E - q = 4
    · rw [if_pos c2, c2, Wp_bV]
      refine Wp_mono (deed_eq hl (r3 _ (by omega) (by omega)) (r3 _ (by omega) (by omega)) (r3 _ (by omega) (by omega))) (fun S' h => ?_)
      rw [Wp_some]
      rw [show q + 4 = E by omega] at h
      obtain ⟨d1, d2, d3⟩ := h
      refine ⟨?_, d1, fun u => d2 ?_, fun c i z => ?_⟩
      · rw [d3 3 4 (by omega)]; simp (disch := omega) only [rd_ne, rd_same]
      · by_cases y : wdx w q E < 3
        · exact y
        · rw [if_neg y] at u; exact absurd rfl u
      · rw [d3 c i (by omega)]; simp (disch := omega) only [rd_ne]
    · rw [if_neg c2, Wp_some]
      have hwd : wdx w q E = 3 := if_neg (by omega)
      rw [hwd]
      refine ⟨?_, ?_, fun u => absurd rfl u, fun c i z => ?_⟩
      · simp (disch := omega) only [rd_ne, rd_same]
      · simp (disch := omega) only [rd_same]; rfl
      · simp (disch := omega) only [rd_ne]
/-- after a token: S' -/
def tkX (w : Nat → Nat) (n q : Nat) (S S' : St) : Prop := rd S' 3 4 = nI (tkE w n q) ∧ rd S' 3 6 = nI q ∧ rd S' 3 5 = nI (bitK (tkK w n q)) ∧ ((tkK w n q = 1 ∨ tkK w n q = 2 ∨ tkK w n q = 3) → rd S' 3 7 = nI (tkV w n q)) ∧ ∀ c i, (c ≠ 3 ∨ (i ≠ 0 ∧ i ≠ 1 ∧ i ≠ 4 ∧ i ≠ 5 ∧ i ≠ 6 ∧ i ≠ 7)) → rd S' c i = rd S c i
def tkQ (w : Nat → Nat) (n q kd : Nat) (S : St) (z : Int32 × St) : Prop := tkX w n q S z.2 ∧ ((bitK (tkK w n q) &&& kd ≠ 0 ∧ z.1 = 1 ∧ rd z.2 3 0 = rd S 3 0 ∧ rd z.2 3 1 = rd S 3 1) ∨ (bitK (tkK w n q) &&& kd = 0 ∧ z.1 = 0 ∧ rd z.2 3 0 = nI 1 ∧ rd z.2 3 1 = nI q))
theorem t136 {w : Nat → Nat} {n q kd : Nat} {S S' : St} (h : tkX w n q S S') (h0 : rd S' 3 0 = rd S 3 0) (h1 : rd S' 3 1 = rd S 3 1) (hk : kd < 128) : Wp (f_X3_takes_136 (nI kd) S') (tkQ w n q kd S) := by
  obtain ⟨a1, a2, a3, a4, a5⟩ := h
  unfold f_X3_takes_136 m_X3_fail f_X3_fail_0
  have hlt : bitK (tkK w n q) &&& kd < 2 ^ 31 := Nat.lt_of_le_of_lt Nat.and_le_right (by omega)
  simp (disch := omega) only [a3, fa_and, nI_eq0, a2, lt, bV_some]
  by_cases u : bitK (tkK w n q) &&& kd = 0
  · rw [if_pos u, Wp_some]
    refine ⟨⟨?_, ?_, ?_, fun y => ?_, fun c i y => ?_⟩, Or.inr ⟨u, rfl, ?_, ?_⟩⟩
    · simp (disch := omega) only [rd_ne]; exact a1
    · simp (disch := omega) only [rd_ne]; exact a2
    · simp (disch := omega) only [rd_ne]; exact a3
    · simp (disch := omega) only [rd_ne]; exact a4 y
    · simp (disch := omega) only [rd_ne]; exact a5 c i y
    · simp (disch := omega) only [rd_ne, rd_same]; rfl
    · simp (disch := omega) only [rd_same]
  · rw [if_neg u, Wp_some]
    exact ⟨⟨a1, a2, a3, a4, a5⟩, Or.inl ⟨u, rfl, h0, h1⟩⟩
theorem takesX {w : Nat → Nat} {n p kd : Nat} {S : St} (hx : txX S w n) (hp : p ≤ n) (h4 : rd S 3 4 = nI p) (hk : kd < 128) : Wp (m_X3_takes (nI kd) S) (tkQ w n (rnn isB w n p) kd S) := by
  have hn : n ≤ 300 := hx.1
  obtain ⟨r1, r2, r3, r4⟩ := rnn_ok (f := isB) (w := w) hp
  unfold m_X3_takes
  rw [skipX fuel p S (by unfold fuel; omega) hp hx h4]
  generalize hQ : rnn isB w n p = q at *
  unfold f_X3_takes_39
  simp (disch := omega) only [lt, rd_same, rd_ne, hx.2.1, nI_ltI]
  generalize hS1 : up (up S 3 4 (nI q)) 3 6 (nI q) = S1
  have f1 : ∀ c i, (c ≠ 3 ∨ (i ≠ 4 ∧ i ≠ 6)) → rd S1 c i = rd S c i := fun c i y => by rw [← hS1]; simp (disch := omega) only [rd_ne]
  have f4 : rd S1 3 4 = nI q := by rw [← hS1]; simp (disch := omega) only [rd_ne, rd_same]
  have f6 : rd S1 3 6 = nI q := by rw [← hS1]; simp (disch := omega) only [rd_same]
  have hx1 : txX S1 w n := txX_fr hx (fun c i y => f1 c i (by omega))
  by_cases c0 : q < n
  · rw [if_pos c0]
    obtain ⟨u1, u2⟩ := hx.2.2 q c0
    have u3 : rd S1 2 q = nI (w q) := by rw [f1 2 q (by omega)]; exact u2
    simp (disch := omega) only [ck_nI, nI_clamp, u2, digit_eq, bI_some, b2_0]
    have hne : ¬ q = n := by omega
    by_cases cL : isL (w q) = true
    · have aL := isL_in cL
      have cD : isD (w q) = false := by unfold isD; simp; omega
      rw [if_pos cD]
      simp (disch := omega) only [f4, ck_nI, nI_clamp, u3, letter_eq, bI_some, b2_0]
      rw [if_neg (by simp [cL]), Wp_bV]
      refine Wp_mono (letX hx1 c0 f4 f6 cL) (fun S' h => ?_)
      obtain ⟨d1, d2, d3, d4⟩ := h
      have kk : tkK w n q = kLt w n q := by unfold tkK kLt; rw [if_neg hne, if_pos cL]
      have vv : tkV w n q = vLt w n q := by unfold tkV vLt; rw [if_pos cL]
      have ee : tkE w n q = rnn isL w n q := by unfold tkE; rw [if_neg hne, if_pos cL]
      refine t136 ⟨by rw [ee]; exact d1, by rw [d4 3 6 (by omega)]; exact f6, by rw [kk]; exact d2, fun y => by rw [vv]; exact d3 (by rw [kk] at y; omega), fun c i y => by rw [d4 c i (by omega), f1 c i (by omega)]⟩ (by rw [d4 3 0 (by omega), f1 3 0 (by omega)]) (by rw [d4 3 1 (by omega), f1 3 1 (by omega)]) hk
    · have cL' : isL (w q) = false := by simpa using cL
      by_cases cD : isD (w q) = true
      · rw [if_neg (by simp [cD]), Wp_bV]
        unfold m_X3_takeNumber f_X3_takeNumber_0
        simp only [lt]
        have e := numX_loop (w := w) (n := n) (q := q) fuel 0 (up (up S1 3 5 4) 3 7 0) (by unfold fuel; omega) (by omega) (fun i hi => by omega) (txX_fr hx1 (fun c i y => by rw [rd_ne (by omega), rd_ne (by omega)])) (by simp (disch := omega) only [rd_ne]; exact f4) (by rw [rd_same]; rfl)
        rw [e, Wp_some, Nat.add_zero]
        have kk : tkK w n q = 3 := by unfold tkK; rw [if_neg hne, if_neg cL, if_pos cD]
        have vv : tkV w n q = capv 9 w q (rnn isD w n q - q) := by unfold tkV; rw [if_neg cL]
        have ee : tkE w n q = rnn isD w n q := by unfold tkE; rw [if_neg hne, if_neg cL, if_pos cD]
        refine t136 ⟨?_, ?_, ?_, fun _ => ?_, fun c i y => ?_⟩ ?_ ?_ hk
        · rw [ee, rd_same]
        · simp (disch := omega) only [rd_ne]; exact f6
        · rw [kk]; simp (disch := omega) only [rd_ne, rd_same]; rfl
        · rw [vv]; simp (disch := omega) only [rd_ne, rd_same]
        · simp (disch := omega) only [rd_ne]; exact f1 c i (by omega)
        · simp (disch := omega) only [rd_ne]; exact f1 3 0 (by omega)
        · simp (disch := omega) only [rd_ne]; exact f1 3 1 (by omega)
      · have cD' : isD (w q) = false := by simpa using cD
        rw [if_pos cD']
        simp (disch := omega) only [f4, ck_nI, nI_clamp, u3, letter_eq, bI_some, b2_0]
        rw [if_pos cL']
        unfold m_X3_signOf f_X3_signOf_0
        simp (disch := omega) only [ck_nI, l_58, l_59, l_124, nI_eq]
        have ee : tkE w n q = q + 1 := by unfold tkE; rw [if_neg hne, if_neg cL, if_neg cD]
        have fin : ∀ (v : Nat), v = bitK (tkK w n q) → tkK w n q ≠ 1 ∧ tkK w n q ≠ 2 ∧ tkK w n q ≠ 3 → Wp (bI (some (nI v, S1)) fun r13 S12 => f_X3_takes_136 (nI kd) (up (up S12 3 5 r13) 3 4 (rd (up S12 3 5 r13) 3 4 + 1))) (tkQ w n q kd S) := by
          intro v hv hkk
          simp (disch := omega) only [bI_some, rd_ne, f4, nI_1]
          refine t136 ⟨?_, ?_, ?_, fun y => by omega, fun c i y => ?_⟩ ?_ ?_ hk
          · rw [ee, rd_same]
          · simp (disch := omega) only [rd_ne]; exact f6
          · simp (disch := omega) only [rd_ne, rd_same, hv]
          · simp (disch := omega) only [rd_ne]; exact f1 c i (by omega)
          · simp (disch := omega) only [rd_ne]; exact f1 3 0 (by omega)
          · simp (disch := omega) only [rd_ne]; exact f1 3 1 (by omega)
        have tk0 : tkK w n q = if w q = 58 then 4 else if w q = 124 then 5 else if w q = 59 then 6 else 7 := by unfold tkK; rw [if_neg hne, if_neg cL, if_neg cD]
        by_cases s1 : w q = 58
        · rw [if_pos s1]; rw [if_pos s1] at tk0; exact fin 16 (by rw [tk0]; rfl) (by omega)
        · rw [if_neg s1]; rw [if_neg s1] at tk0
          by_cases s2 : w q = 59
          · rw [if_pos s2]; rw [if_neg (by omega), if_pos s2] at tk0; exact fin 64 (by rw [tk0]; rfl) (by omega)
          · rw [if_neg s2]
            by_cases s3 : w q = 124
            · rw [if_pos s3]; rw [if_pos s3] at tk0; exact fin 32 (by rw [tk0]; rfl) (by omega)
            · rw [if_neg s3]; rw [if_neg s3, if_neg s2] at tk0; exact fin 0 (by rw [tk0]; rfl) (by omega)
  · rw [if_neg c0]
    have hqn : q = n := by omega
    have kk : tkK w n q = 0 := by unfold tkK; rw [if_pos hqn]
    have ee : tkE w n q = q := by unfold tkE; rw [if_pos hqn, hqn]
    refine t136 ⟨?_, ?_, ?_, fun y => by omega, fun c i y => ?_⟩ ?_ ?_ hk
    · rw [ee, rd_ne (by omega)]; exact f4
    · rw [rd_ne (by omega)]; exact f6
    · rw [rd_same, kk]; rfl
    · rw [rd_ne (by omega)]; exact f1 c i (by omega)
    · rw [rd_ne (by omega)]; exact f1 3 0 (by omega)
    · rw [rd_ne (by omega)]; exact f1 3 1 (by omega)
