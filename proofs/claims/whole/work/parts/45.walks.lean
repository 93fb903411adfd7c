/-! ===== a whole walk of the reference; what is open, the class ===== -/
theorem lie_loop {T0 : St} {J mk : Nat} (hJ : J ≤ 8) (hmk : mk < 2 ^ J) (h8 : rd T0 0 8 = nI J) (h4 : ∀ j, j < J → rd T0 4 j = b2 (mk.testBit j)) {x1 : Int32} {Q : Int32 × St → Prop}
    (hk : ∀ T, (∀ c i, c ≠ 19 → rd T c i = rd T0 c i) → rdL T = rdL T0 → (∀ j, j < 8 → rd T 19 j = b2 (mk.testBit j)) → Wp (g_X10_goes_70 fuel (up (up (up (up (up T 0 37 x1) 0 38 (rd T0 0 6)) 0 39 0) 0 40 (-1)) 0 41 (-1))) Q) :
    ∀ (n k : Nat) (T : St), 8 - k < n → k ≤ 8 → (∀ c i, c ≠ 19 → rd T c i = rd T0 c i) → rdL T = rdL T0 → (∀ j, j < k → rd T 19 j = b2 (mk.testBit j)) → Wp (g_X10_goes_2 n x1 (nI k) T) Q := by
  intro n
  induction n with
  | zero => intro k T h; omega
  | succ n ih =>
    intro k T h1 h2 i1 i2 i3
    show Wp (f_X10_goes_2 (g_X10_goes_2 n) x1 (nI k) T) Q
    unfold f_X10_goes_2
    simp (disch := omega) only [l_8, nI_leI]
    by_cases q : k = 8
    · rw [if_pos (by omega)]
      subst q
      have := hk T i1 i2 i3
      simp (disch := omega) only [lt, rd_ne, i1]
      exact this
    · rw [if_neg (by omega)]
      have nxt : ∀ v : Int32, v = b2 (mk.testBit k) → Wp (g_X10_goes_2 n x1 (nI (k + 1)) (up T 19 k v)) Q := by
        intro v hv
        refine ih (k + 1) _ (by omega) (by omega) (fun c i w => by rw [rd_ne (by omega)]; exact i1 c i w) i2 (fun j hj => ?_)
        by_cases w : j = k
        · subst w; rw [rd_same]; exact hv
        · rw [rd_ne (by omega)]; exact i3 j (by omega)
      simp (disch := omega) only [i1, h8, nI_leI, ck_nI, nI_clamp, lt, nI_1]
      by_cases w : J ≤ k
      · rw [if_pos w]; exact nxt _ (by rw [zb_0, tb_hi hmk w]; rfl)
      · rw [if_neg w, h4 k (by omega)]
        simp only [b2_0]
        cases u : mk.testBit k
        · rw [if_pos rfl]; exact nxt _ (by rw [zb_0, u]; rfl)
        · rw [if_neg (by decide)]; exact nxt _ (by rw [zb_1, u]; rfl)
theorem goes_eq {T : St} {J P : Nat} {en ga : Nat → Nat} {ou mk sh b : Nat} (hn : gaN J P en ga ou mk sh b) (hm : gaM T J P en ga ou mk sh b) {L f fk : Nat} {to : Nat → Bool} {nu de nx : Nat → Nat} (hr : ruN L f fk to nu de nx) (hrm : ruM T L f fk to nu de nx) (hL : 0 < L) (h42 : rd T 0 42 = nI 0) (h18 : ∀ v, rd T 18 v = 0) {p0 : Nat} (hp0 : p0 < 2 * P) :
    Wp (m_X10_goes (nI p0) T) (goQ en (2 * P) ou b (sqW en (2 * P) (opP en ga (2 * P) sh) fk b nu de nx (p0, f, mk)) T) := by
  have hJ : J ≤ 8 := hn.1
  have hmk : mk < 2 ^ J := hn.2.2.2.2.2.2.2.1
  have hm8 : mk < 2 ^ 8 := Nat.lt_of_lt_of_le hmk (Nat.pow_le_pow_right (by decide) hJ)
  have h0 : okW P to (p0, f, mk) := ⟨hp0, (hr.2.2.1 hL).1, (hr.2.2.1 hL).2, hm8⟩
  unfold m_X10_goes f_X10_goes_0
  refine lie_loop hJ hmk hm.1 (fun j hj => (hm.2.2.2.2.1 j hj).2.1) (fun T' f1 f2 f3 => ?_) fuel 0 T (by unfold fuel; omega) (by omega) (fun _ _ _ => rfl) rfl (fun j hj => by omega)
  refine go_loop hn hm hr hrm h0 rfl fuel 0 _ (by unfold fuel; omega) (by omega) ⟨?_, ?_, ?_, fun j hj => ?_⟩ (fun i hi => by omega) (fun i hi => by omega) ?_ ?_ ⟨?_, by omega, fun i hi => by omega, fun v hv => ?_⟩ ⟨f2, fun c i q1 q2 q3 q4 => ?_⟩
  · simp (disch := omega) only [rd_ne, rd_same]; rfl
  · simp (disch := omega) only [rd_ne, rd_same]; exact hrm.2.1 hL
  · simp (disch := omega) only [rd_ne, rd_same]; rfl
  · simp (disch := omega) only [rd_ne]; exact f3 j hj
  · simp (disch := omega) only [rd_ne, rd_same]
  · simp (disch := omega) only [rd_same]
  · simp (disch := omega) only [rd_ne, f1]; exact h42
  · simp (disch := omega) only [rd_ne, f1]; exact h18 v
  · simp (disch := omega) only [rd_ne]; exact f1 c i q3
theorem goE_fr {en : Nat → Nat} {N ou b : Nat} {X : Nat → Nat × Nat × Nat} {r : Int32} {T T' : St} (h : goE en N ou b X r T) (hT : ∀ c i, (c = 19 ∨ (c = 0 ∧ 37 ≤ i ∧ i ≤ 41)) → rd T' c i = rd T c i) : goE en N ou b X r T' := by
  unfold goE goC at *
  simp only [hT 0 37 (by omega), hT 0 38 (by omega), hT 0 39 (by omega), hT 0 40 (by omega), hT 0 41 (by omega), (fun i => hT 19 i (by omega) : ∀ i, rd T' 19 i = rd T 19 i)]
  exact h
def wkQ (en : Nat → Nat) (N ou b : Nat) (X : Nat → Nat × Nat × Nat) (T0 : St) (p : Int32 × St) : Prop :=
  goE en N ou b X p.1 p.2 ∧ (∀ v, rd p.2 18 v = 0) ∧ goF T0 p.2
theorem clr_loop {en : Nat → Nat} {N ou b : Nat} {X : Nat → Nat × Nat × Nat} {T0 : St} {r : Int32} (hh : ∀ i, hvW (X i) (i % b) < 196608) {M : Nat} (hM : M ≤ 1501) :
    ∀ (n k : Nat) (T : St), M - k < n → k ≤ M → goE en N ou b X r T → goF T0 T → rd T 0 42 = nI M → (∀ i, i < M → rd T 17 i = nI (hvW (X i) (i % b))) → (∀ v, (∀ i, k ≤ i → i < M → hvW (X i) (i % b) ≠ v) → rd T 18 v = 0) → Wp (g_X10_walks_13 n r (nI k) T) (wkQ en N ou b X T0) := by
  intro n
  induction n with
  | zero => intro k T h; omega
  | succ n ih =>
    intro k T h1 h2 i1 i2 i3 i4 i5
    show Wp (f_X10_walks_13 (g_X10_walks_13 n) r (nI k) T) _
    unfold f_X10_walks_13
    simp (disch := omega) only [i3, nI_leI]
    by_cases q : k = M
    · rw [if_pos (by omega), Wp_some]
      exact ⟨i1, fun v => i5 v (fun i a1 a2 => by omega), i2⟩
    · rw [if_neg (by omega)]
      have hk := hh k
      simp (disch := omega) only [ck_nI, nI_clamp, i4 k (by omega), lt, nI_1]
      refine ih (k + 1) _ (by omega) (by omega) (goE_fr i1 (fun c i w => rd_ne (by omega))) ⟨i2.1, fun c i q1 q2 q3 q4 => by rw [rd_ne (by omega)]; exact i2.2 c i q1 q2 q3 q4⟩ (by rw [rd_ne (by omega)]; exact i3) (fun i hi => by rw [rd_ne (by omega)]; exact i4 i hi) (fun v hv => ?_)
      by_cases w : v = hvW (X k) (k % b)
      · subst w; rw [rd_same]
      · rw [rd_ix w]
        refine i5 v (fun i a1 a2 => ?_)
        by_cases u : i = k
        · subst u; exact fun e => w e.symm
        · exact hv i (by omega) a2
theorem wks_eq {T : St} {J P : Nat} {en ga : Nat → Nat} {ou mk sh b : Nat} (hn : gaN J P en ga ou mk sh b) (hm : gaM T J P en ga ou mk sh b) {L f fk : Nat} {to : Nat → Bool} {nu de nx : Nat → Nat} (hr : ruN L f fk to nu de nx) (hrm : ruM T L f fk to nu de nx) (hL : 0 < L) (h18 : ∀ v, rd T 18 v = 0) {p0 : Nat} (hp0 : p0 < 2 * P) :
    Wp (m_X10_walks (nI p0) T) (wkQ en (2 * P) ou b (sqW en (2 * P) (opP en ga (2 * P) sh) fk b nu de nx (p0, f, mk)) T) := by
  have hJ : J ≤ 8 := hn.1
  have hP : P ≤ 12 := hn.2.1
  have hb := hn.2.2.2.2.1
  have hmk : mk < 2 ^ J := hn.2.2.2.2.2.2.2.1
  have hm8 : mk < 2 ^ 8 := Nat.lt_of_lt_of_le hmk (Nat.pow_le_pow_right (by decide) hJ)
  have h0 : okW P to (p0, f, mk) := ⟨hp0, (hr.2.2.1 hL).1, (hr.2.2.1 hL).2, hm8⟩
  unfold m_X10_walks f_X10_walks_0
  simp only [lt, Wp_bI]
  have hm1 : gaM (up T 0 42 0) J P en ga ou mk sh b := gaM_fr hm (fun c i q => rd_ne (by omega))
  have hrm1 : ruM (up T 0 42 0) L f fk to nu de nx := ruM_fr hrm (fun c i q => rd_ne (by omega))
  refine Wp_mono (goes_eq hn hm1 hr hrm1 hL (by rw [rd_same]; rfl) (fun v => by rw [rd_ne (by omega)]; exact h18 v) hp0) (fun p hp => ?_)
  obtain ⟨q1, q2, M, q3, q4, q5, q6⟩ := hp
  refine Wp_mono (clr_loop (T0 := up T 0 42 0) (fun i => hvW_lt hP (sqW_ok hn hr _ h0 (b := b) i) (by have := Nat.mod_lt i (show 0 < b by omega); omega)) q4 fuel 0 p.2 (by unfold fuel; omega) (by omega) q1 q2 q3 q5 (fun v hv => q6 v (fun i hi => hv i (by omega) hi))) (fun p' hp' => ?_)
  exact ⟨hp'.1, hp'.2.1, hp'.2.2.1, fun c i a1 a2 a3 a4 => by rw [hp'.2.2.2 c i a1 a2 a3 a4, rd_ne (by omega)]⟩
/-! what is open -/
theorem pop_loop {S : St} {J P : Nat} {en ga : Nat → Nat} {ou mk sh b : Nat} (hn : gaN J P en ga ou mk sh b) (hx : gaX S J P en ga ou mk sh b) {x : Nat} (hx2 : x < 2 ^ 32) :
    ∀ n q, 2 * P - q < n → q ≤ 2 * P → g_X0_placesOfPaths_4 n (nI x) (nI (bset (fun q => x.testBit (sdp en (2 * P) q / 2)) q)) (nI q) S = some (nI (bset (fun q => x.testBit (sdp en (2 * P) q / 2)) (2 * P)), S) := by
  intro n
  induction n with
  | zero => intro q h; omega
  | succ n ih =>
    intro q h1 h2
    have hP : P ≤ 12 := hn.2.1
    show f_X0_placesOfPaths_4 (g_X0_placesOfPaths_4 n) _ _ _ S = _
    unfold f_X0_placesOfPaths_4
    simp (disch := omega) only [hx.2.2.1, nI_leI]
    by_cases w : q = 2 * P
    · subst w; rw [if_pos (by omega)]
    · rw [if_neg (by omega)]
      have hq : q < 2 * P := by omega
      have hs := (pvN hn hq).2.2.2.2.2.2.1
      simp (disch := omega) only [ck_nI, nI_clamp, (pvX hn hx hq).2.2.1, hasBit_eq, bI_some, b2_0, with1_eq, lt, nI_1]
      have ihe := ih (q + 1) (by omega) (by omega)
      cases u : x.testBit (sdp en (2 * P) q / 2)
      · rw [if_pos rfl]
        have : bset (fun q => x.testBit (sdp en (2 * P) q / 2)) (q + 1) = bset (fun q => x.testBit (sdp en (2 * P) q / 2)) q := if_neg (by simp [u])
        rw [this] at ihe; exact ihe
      · rw [if_neg (by decide)]
        have : bset (fun q => x.testBit (sdp en (2 * P) q / 2)) (q + 1) = sb (bset (fun q => x.testBit (sdp en (2 * P) q / 2)) q) q := if_pos u
        rw [this] at ihe; exact ihe
theorem pofp_eq {S : St} {J P : Nat} {en ga : Nat → Nat} {ou mk sh b : Nat} (hn : gaN J P en ga ou mk sh b) (hx : gaX S J P en ga ou mk sh b) {x : Nat} (hx2 : x < 2 ^ 32) : m_X0_placesOfPaths (nI x) S = some (nI (bset (fun q => x.testBit (sdp en (2 * P) q / 2)) (2 * P)), S) :=
  pop_loop hn hx hx2 fuel 0 (by have : P ≤ 12 := hn.2.1; unfold fuel; omega) (by omega)
def oaF (en ga : Nat → Nat) (P sh τ : Nat) : Nat := bset (fun q => (bset (fun π => (ga π).testBit τ) P &&& (bset (fun π => (ga π).testBit τ) P ^^^ sh)).testBit (sdp en (2 * P) q / 2)) (2 * P)
theorem oaF_tb {J P : Nat} {en ga : Nat → Nat} {ou mk sh b : Nat} (hn : gaN J P en ga ou mk sh b) {τ q : Nat} (hq : q < 2 * P) : (oaF en ga P sh τ).testBit q = opP en ga (2 * P) sh τ q := by
  have hs := (pvN hn hq).2.2.2.2.2.2.1
  unfold oaF opP opM
  rw [bset_tb, Nat.testBit_and, Nat.testBit_xor, bset_tb]
  simp only [hq, decide_true, Bool.true_and, show sdp en (2 * P) q / 2 < P by omega]
  cases (ga (sdp en (2 * P) q / 2)).testBit τ <;> simp
theorem poa_loop {S : St} {J P : Nat} {en ga : Nat → Nat} {ou mk sh b : Nat} (hn : gaN J P en ga ou mk sh b) (hx : gaX S J P en ga ou mk sh b) {τ : Nat} (hτ : τ < 8) :
    ∀ n π, P - π < n → π ≤ P → g_X0_placesOpenAt_4 n (nI τ) (nI (bset (fun π => (ga π).testBit τ) π)) (nI π) S = some (nI (oaF en ga P sh τ), S) := by
  intro n
  induction n with
  | zero => intro q h; omega
  | succ n ih =>
    intro π h1 h2
    have hP : P ≤ 12 := hn.2.1
    show f_X0_placesOpenAt_4 (g_X0_placesOpenAt_4 n) _ _ _ S = _
    unfold f_X0_placesOpenAt_4
    simp (disch := omega) only [hx.2.1, nI_leI]
    by_cases w : π = P
    · subst w
      rw [if_pos (by omega), hx.2.2.2.2.2.1, nI_dif, pofp_eq hn hx (Nat.lt_of_le_of_lt Nat.and_le_left (Nat.lt_of_lt_of_le (bset_lt _ _) (Nat.pow_le_pow_right (by decide) (by omega))))]
      rfl
    · rw [if_neg (by omega)]
      have hg := hn.2.2.2.2.2.1 π (by omega)
      simp (disch := omega) only [ck_nI, nI_clamp, hx.2.2.2.2.2.2.2.1 π (by omega), hasBit_eq, bI_some, b2_0, with1_eq, lt, nI_1]
      have ihe := ih (π + 1) (by omega) (by omega)
      cases u : (ga π).testBit τ
      · rw [if_pos rfl]
        have : bset (fun π => (ga π).testBit τ) (π + 1) = bset (fun π => (ga π).testBit τ) π := if_neg (by simp [u])
        rw [this] at ihe; exact ihe
      · rw [if_neg (by decide)]
        have : bset (fun π => (ga π).testBit τ) (π + 1) = sb (bset (fun π => (ga π).testBit τ) π) π := if_pos u
        rw [this] at ihe; exact ihe
theorem poa_eq {S : St} {J P : Nat} {en ga : Nat → Nat} {ou mk sh b : Nat} (hn : gaN J P en ga ou mk sh b) (hx : gaX S J P en ga ou mk sh b) {τ : Nat} (hτ : τ < 8) : m_X0_placesOpenAt (nI τ) S = some (nI (oaF en ga P sh τ), S) :=
  poa_loop hn hx hτ fuel 0 (by have : P ≤ 12 := hn.2.1; unfold fuel; omega) (by omega)
def preF (S0 S : St) : Prop := ∀ c i, c ≠ 26 → (c ≠ 24 ∨ i ≠ 4) → rd S c i = rd S0 c i
theorem pre_loop {S0 : St} {J P : Nat} {en ga : Nat → Nat} {ou mk sh b : Nat} (hn : gaN J P en ga ou mk sh b) (hx : gaX S0 J P en ga ou mk sh b) {v : Int32} :
    ∀ (n τ : Nat) (S : St), b - τ < n → τ ≤ b → preF S0 S → rd S 24 4 = v → (∀ σ, σ < τ → rd S 26 σ = nI (oaF en ga P sh σ)) → Wp (g_X8_prepare_7 n (nI τ) S) (fun S' => preF S0 S' ∧ rd S' 24 4 = v ∧ ∀ σ, σ < b → rd S' 26 σ = nI (oaF en ga P sh σ)) := by
  have hb := hn.2.2.2.2.1
  intro n
  induction n with
  | zero => intro τ S h; omega
  | succ n ih =>
    intro τ S h1 h2 i1 i2 i3
    have hxS : gaX S J P en ga ou mk sh b := gaX_fr hx (fun c i q => i1 c i (by omega) (by omega))
    show Wp (f_X8_prepare_7 (g_X8_prepare_7 n) (nI τ) S) _
    unfold f_X8_prepare_7
    simp (disch := omega) only [hxS.2.2.2.2.2.2.1, nI_leI]
    by_cases q : τ = b
    · rw [if_pos (by omega), Wp_some]; subst q; exact ⟨i1, i2, i3⟩
    · rw [if_neg (by omega), poa_eq hn hxS (by omega)]
      simp (disch := omega) only [bI_some, ck_nI, nI_clamp, lt, nI_1]
      refine ih (τ + 1) _ (by omega) (by omega) (fun c i w1 w2 => by rw [rd_ne (by omega)]; exact i1 c i w1 w2) (by rw [rd_ne (by omega)]; exact i2) (fun σ hσ => ?_)
      by_cases w : σ = τ
      · subst w; rw [rd_same]
      · rw [rd_ne (by omega)]; exact i3 σ (by omega)
theorem pre_eq {S : St} {J P : Nat} {en ga : Nat → Nat} {ou mk sh b : Nat} (hn : gaN J P en ga ou mk sh b) (hx : gaX S J P en ga ou mk sh b) {r : Nat} (hr : r = 16 ∨ r = 20) : Wp (m_X8_prepare r S) (fun S' => preF S S' ∧ rs (rd S' 24 4) = r ∧ ∀ σ, σ < b → rd S' 26 σ = nI (oaF en ga P sh σ)) := by
  have hb := hn.2.2.2.2.1
  unfold m_X8_prepare f_X8_prepare_0 ckr
  rw [if_pos hr]
  simp only [lt]
  refine Wp_mono (pre_loop hn hx (v := sr r) fuel 0 (up S 24 4 (sr r)) (by unfold fuel; omega) (by omega) (fun c i w1 w2 => rd_ne (by omega)) (rd_same _ _ _ _) (fun σ hσ => by omega)) (fun S' h => ?_)
  exact ⟨h.1, by rw [h.2.1]; exact rs_sr hr, h.2.2⟩
theorem oaF_lt {J P : Nat} {en ga : Nat → Nat} {ou mk sh b : Nat} (hn : gaN J P en ga ou mk sh b) (τ : Nat) : oaF en ga P sh τ < 2 ^ 24 := b24 hn.2.1 (bset_lt _ _)
