/-! ===== the garden's numbers: en: the junction of a side; N sides ===== -/
def ctj (en : Nat → Nat) (j n : Nat) : Nat := fb_ct (fun e => en e == j) n
def baj (en : Nat → Nat) (N j : Nat) : Nat := fb_sm (fun i => ctj en i N) j
def plc (en : Nat → Nat) (N e : Nat) : Nat := baj en N (en e) + ctj en (en e) e
def sdp (en : Nat → Nat) (N p : Nat) : Nat := fa_first (fun e => plc en N e == p) N
theorem ctj_0 (en : Nat → Nat) (j : Nat) : ctj en j 0 = 0 := rfl
theorem ctj_succ (en : Nat → Nat) (j n : Nat) : ctj en j (n + 1) = ctj en j n + (if en n = j then 1 else 0) := by
  unfold ctj; rw [fb_ct_succ]; simp
theorem ctj_yes {en : Nat → Nat} {j n : Nat} (h : en n = j) : ctj en j (n + 1) = ctj en j n + 1 := by rw [ctj_succ, if_pos h]
theorem ctj_no {en : Nat → Nat} {j n : Nat} (h : en n ≠ j) : ctj en j (n + 1) = ctj en j n := by rw [ctj_succ, if_neg h]; rfl
theorem baj_0 (en : Nat → Nat) (N : Nat) : baj en N 0 = 0 := rfl
theorem baj_succ (en : Nat → Nat) (N j : Nat) : baj en N (j + 1) = baj en N j + ctj en j N := rfl
theorem baj_all {en : Nat → Nat} {J : Nat} : ∀ {N : Nat}, (∀ e, e < N → en e < J) → baj en N J = N
  | 0, _ => by
    have : baj en 0 J = fb_sm (fun _ => 0) J := fb_sm_cong (fun k _ => rfl)
    rw [this, fb_sm_const]; omega
  | N + 1, h => by
    have h1 : baj en (N + 1) J = fb_sm (fun i => ctj en i N + (if i = en N then 1 else (fun _ => 0) i)) J := fb_sm_cong (fun k _ => by rw [ctj_succ]; simp [eq_comm])
    have h2 : fb_sm (fun k => if k = en N then 1 else (fun _ => 0) k) J + 0 = J * 0 + 1 := by
      have w := fb_sm_upd (fun _ => 0) 1 (h N (by omega))
      rw [fb_sm_const] at w
      exact w
    have h3 := baj_all (N := N) (fun e he => h e (by omega))
    unfold baj at h3
    rw [h1, fb_sm_add, h3]
    show N + fb_sm (fun k => if k = en N then 1 else (fun _ => 0) k) J = N + 1
    omega
theorem ctj_lt {en : Nat → Nat} {N e : Nat} (he : e < N) : ctj en (en e) e < ctj en (en e) N := by
  have h1 := ctj_yes (en := en) (n := e) rfl
  have h2 : ctj en (en e) (e + 1) ≤ ctj en (en e) N := fb_ct_mono _ he
  omega
theorem baj_mono (en : Nat → Nat) (N : Nat) {i j : Nat} (h : i < j) : baj en N i + ctj en i N ≤ baj en N j := fb_sm_part _ h
theorem plc_lt {en : Nat → Nat} {J N e : Nat} (h : ∀ e, e < N → en e < J) (he : e < N) : plc en N e < N := by
  have h1 := ctj_lt (en := en) he
  have h2 := baj_mono en N (h e he)
  rw [baj_all h] at h2
  unfold plc; omega
theorem plc_inj {en : Nat → Nat} {N e f : Nat} (he : e < N) (hf : f < N) (h : plc en N e = plc en N f) : e = f := by
  have h1 := ctj_lt (en := en) he
  have h2 := ctj_lt (en := en) hf
  unfold plc at h
  rcases Nat.lt_trichotomy (en e) (en f) with q | q | q
  · have := baj_mono en N q; omega
  · rw [q] at h
    have h3 : ctj en (en f) e = ctj en (en f) f := by omega
    exact fb_ct_kth_one (p := fun x => en x == en f) (by simp [q]) (by simp) h3
  · have := baj_mono en N q; omega
theorem plc_onto {en : Nat → Nat} {J N p : Nat} (h : ∀ e, e < N → en e < J) (hp : p < N) : ∃ e, e < N ∧ plc en N e = p :=
  fb_onto (fun i hi => plc_lt h hi) (fun i j hij hj q => by have := plc_inj (by omega) hj q; omega) hp
theorem sdp_of {en : Nat → Nat} {N e : Nat} (he : e < N) : sdp en N (plc en N e) = e := by
  have h1 : sdp en N (plc en N e) < N := by
    rcases Nat.lt_or_ge (sdp en N (plc en N e)) N with q | q
    · exact q
    · have := fa_first_no (fun x => plc en N x == plc en N e) N e (by unfold sdp at q; omega)
      simp at this
  have h2 := fa_first_yes (fun x => plc en N x == plc en N e) N h1
  have h2 : plc en N (sdp en N (plc en N e)) = plc en N e := by simpa [sdp] using h2
  exact plc_inj h1 he h2
theorem sdp_lt {en : Nat → Nat} {J N p : Nat} (h : ∀ e, e < N → en e < J) (hp : p < N) : sdp en N p < N ∧ plc en N (sdp en N p) = p := by
  obtain ⟨e, he, rfl⟩ := plc_onto h hp
  rw [sdp_of he]; exact ⟨he, rfl⟩
def jnp (en : Nat → Nat) (N p : Nat) : Nat := en (sdp en N p)
def otp (en : Nat → Nat) (N p : Nat) : Nat := plc en N (sdp en N p ^^^ 1)
theorem x1_half (e : Nat) : (e ^^^ 1) / 2 = e / 2 := by
  have h := Nat.shiftRight_xor_distrib (a := e) (b := 1) (i := 1)
  rw [Nat.shiftRight_eq_div_pow, Nat.shiftRight_eq_div_pow, Nat.shiftRight_eq_div_pow] at h
  simpa using h
theorem x1_lt {e P : Nat} (h : e < 2 * P) : e ^^^ 1 < 2 * P := by
  have := x1_half e
  omega
theorem x1_x1 (e : Nat) : (e ^^^ 1) ^^^ 1 = e := by rw [Nat.xor_assoc]; simp
theorem jnp_in {en : Nat → Nat} {J N p : Nat} (h : ∀ e, e < N → en e < J) (hp : p < N) : jnp en N p < J ∧ baj en N (jnp en N p) ≤ p ∧ p < baj en N (jnp en N p) + ctj en (jnp en N p) N ∧ p - baj en N (jnp en N p) = ctj en (jnp en N p) (sdp en N p) := by
  obtain ⟨h1, h2⟩ := sdp_lt h hp
  have h3 := ctj_lt (en := en) h1
  have h4 := h _ h1
  unfold jnp
  unfold plc at h2
  omega
theorem ring_at {en : Nat → Nat} {J N j k : Nat} (h : ∀ e, e < N → en e < J) (hj : j < J) (hk : k < ctj en j N) : baj en N j + k < N ∧ jnp en N (baj en N j + k) = j := by
  obtain ⟨e, he, h1, h2⟩ := fb_ct_kth hk
  have h1 : en e = j := by simpa using h1
  have h2 : ctj en j e = k := h2
  have h3 : plc en N e = baj en N j + k := by unfold plc; rw [h1, h2]
  have h4 := plc_lt h he
  unfold jnp
  rw [← h3, sdp_of he]
  exact ⟨h4, h1⟩
theorem otp_lt {en : Nat → Nat} {J P p : Nat} (h : ∀ e, e < 2 * P → en e < J) (hp : p < 2 * P) : otp en (2 * P) p < 2 * P :=
  plc_lt h (x1_lt (sdp_lt h hp).1)
theorem otp_otp {en : Nat → Nat} {J P p : Nat} (h : ∀ e, e < 2 * P → en e < J) (hp : p < 2 * P) : otp en (2 * P) (otp en (2 * P) p) = p := by
  obtain ⟨h1, h2⟩ := sdp_lt h hp
  unfold otp
  rw [sdp_of (x1_lt h1), x1_x1, h2]
/-! the reference numbers its places -/
def numR (en : Nat → Nat) (N : Nat) (T : St) (e : Nat) : Prop := rd T 8 (plc en N e) = nI (en e) ∧ rd T 9 (plc en N e) = nI e ∧ rd T 10 e = nI (plc en N e)
def numF (T0 T : St) : Prop := rdL T = rdL T0 ∧ (∀ c i, c ≠ 8 → c ≠ 9 → c ≠ 10 → c ≠ 11 → c ≠ 12 → (c ≠ 0 ∨ i ≠ 16) → rd T c i = rd T0 c i)
def numO (en : Nat → Nat) (N : Nat) (T0 : St) (j : Nat) (T : St) : Prop :=
  rd T 0 16 = nI (baj en N j) ∧ (∀ i, i < j → rd T 11 i = nI (ctj en i N) ∧ rd T 12 i = nI (baj en N i)) ∧ (∀ e, e < N → en e < j → numR en N T e) ∧ numF T0 T
def numI (en : Nat → Nat) (N : Nat) (T0 : St) (j e : Nat) (T : St) : Prop :=
  rd T 0 16 = nI (baj en N j + ctj en j e) ∧ (∀ i, i < j → rd T 11 i = nI (ctj en i N) ∧ rd T 12 i = nI (baj en N i)) ∧ (rd T 11 j = nI (ctj en j e) ∧ rd T 12 j = nI (baj en N j)) ∧ (∀ f, f < N → (en f < j ∨ (en f = j ∧ f < e)) → numR en N T f) ∧ numF T0 T
theorem numM_in {en : Nat → Nat} {P J : Nat} (hP : P ≤ 12) (hJ : J ≤ 8) (hen : ∀ e, e < 2 * P → en e < J) {T0 : St} (hp : rd T0 0 11 = nI P) (h5 : ∀ e, e < 2 * P → rd T0 5 e = nI (en e)) {Q : St → Prop} {k7 : Int32 → St → Option St} {j : Nat} (hj : j < J)
    (hk : ∀ T, numO en (2 * P) T0 (j + 1) T → Wp (k7 (nI (j + 1)) T) Q) :
    ∀ (n e : Nat) (T : St), 2 * P - e < n → e ≤ 2 * P → numI en (2 * P) T0 j e T → Wp (g_X10_number_34 k7 n (nI j) (nI e) T) Q := by
  intro n
  induction n with
  | zero => intro e T h; omega
  | succ n ih =>
    intro e T h1 h2 hI
    obtain ⟨i1, i2, i3, i4, i5, i6⟩ := hI
    have hp' : rd T 0 11 = nI P := by rw [i6 0 11 (by omega) (by omega) (by omega) (by omega) (by omega) (by omega), hp]
    show Wp (f_X10_number_34 k7 (g_X10_number_34 k7 n) (nI j) (nI e) T) Q
    unfold f_X10_number_34
    simp (disch := omega) only [hp', l_2, l_1, pk_mul, nI_leI, nI_add]
    by_cases he : e = 2 * P
    · rw [if_pos (by omega)]
      subst he
      refine hk T ⟨by rw [i1]; rfl, fun i hi => ?_, fun f hf hf2 => ?_, i5, i6⟩
      · rcases Nat.lt_or_ge i j with q | q
        · exact i2 i q
        · have : i = j := by omega
          subst this; exact i3
      · exact i4 f hf (by omega)
    · have he2 : e < 2 * P := by omega
      have h5' : rd T 5 e = nI (en e) := by rw [i6 5 e (by omega) (by omega) (by omega) (by omega) (by omega) (by omega), h5 e he2]
      have hej := hen e he2
      rw [if_neg (by omega)]
      simp (disch := omega) only [ck_nI, nI_clamp, h5', nI_eq]
      by_cases q : en e = j
      · rw [if_pos q]
        have hpl : baj en (2 * P) j + ctj en j e = plc en (2 * P) e := by unfold plc; rw [q]
        have hpl2 := plc_lt hen he2
        rw [hpl] at i1
        simp (disch := omega) only [i1, i3.1, lt, ck_nI, nI_clamp, rd_cell, nI_add]
        have hct := ctj_yes (en := en) q
        apply ih (e + 1) _ (by omega) (by omega)
        refine ⟨?_, fun i hi => ?_, ⟨?_, ?_⟩, fun f hf hf2 => ?_, ?_, fun c i c1 c2 c3 c4 c5 c6 => ?_⟩
        · simp (disch := omega) only [rd_cell, rd_same, hct]
          rw [← hpl]; congr 1
        · simp (disch := omega) only [rd_cell, rd_ix]; exact i2 i hi
        · simp (disch := omega) only [rd_same, hct]
        · simp (disch := omega) only [rd_cell]; exact i3.2
        · by_cases hfe : f = e
          · subst hfe
            unfold numR
            simp (disch := omega) only [rd_cell, rd_same, q]
            exact ⟨trivial, trivial, trivial⟩
          · obtain ⟨a1, a2, a3⟩ := i4 f hf (by omega)
            have hne : plc en (2 * P) f ≠ plc en (2 * P) e := fun w => hfe (plc_inj hf he2 w)
            unfold numR
            simp (disch := omega) only [rd_cell, rd_ix, a1, a2, a3]
            exact ⟨trivial, trivial, trivial⟩
        · exact i5
        · rcases c6 with c6 | c6
          · simp (disch := omega) only [rd_cell]; exact i6 c i c1 c2 c3 c4 c5 (by omega)
          · by_cases c0 : c = 0
            · subst c0
              simp (disch := omega) only [rd_cell, rd_ix]; exact i6 0 i c1 c2 c3 c4 c5 (by omega)
            · simp (disch := omega) only [rd_cell]; exact i6 c i c1 c2 c3 c4 c5 (by omega)
      · rw [if_neg q]
        have hct := ctj_no (en := en) q
        simp only [lt]
        apply ih (e + 1) _ (by omega) (by omega)
        refine ⟨by rw [hct]; exact i1, i2, ⟨by rw [hct]; exact i3.1, i3.2⟩, fun f hf hf2 => i4 f hf ?_, i5, i6⟩
        have : f ≠ e ∨ en f ≠ j := by
          by_cases w : f = e
          · subst w; exact Or.inr q
          · exact Or.inl w
        omega
theorem numM_out {en : Nat → Nat} {P J : Nat} (hP : P ≤ 12) (hJ : J ≤ 8) (hen : ∀ e, e < 2 * P → en e < J) {T0 : St} (hp : rd T0 0 11 = nI P) (hj8 : rd T0 0 8 = nI J) (h5 : ∀ e, e < 2 * P → rd T0 5 e = nI (en e)) :
    ∀ (n j : Nat) (T : St), J - j < n → j ≤ J → numO en (2 * P) T0 j T → Wp (g_X10_number_7 n (nI j) T) (numO en (2 * P) T0 J) := by
  intro n
  induction n with
  | zero => intro j T h; omega
  | succ n ih =>
    intro j T h1 h2 hO
    have hO' := hO
    obtain ⟨i1, i2, i4, i5, i6⟩ := hO
    have hj8' : rd T 0 8 = nI J := by rw [i6 0 8 (by omega) (by omega) (by omega) (by omega) (by omega) (by omega), hj8]
    show Wp (f_X10_number_7 (g_X10_number_7 n) (nI j) T) _
    unfold f_X10_number_7
    simp (disch := omega) only [hj8', nI_leI]
    by_cases q : j = J
    · rw [if_pos (by omega), Wp_some]; subst q; exact hO'
    · rw [if_neg (by omega)]
      have hb := baj_mono en (2 * P) (show j < J by omega)
      rw [baj_all hen] at hb
      simp (disch := omega) only [ck_nI, lt, nI_clamp, i1, l_0]
      refine numM_in hP hJ hen hp h5 (show j < J by omega) (fun T hT => ih (j + 1) T (by omega) (by omega) hT) fuel 0 _ (by unfold fuel; omega) (by omega) ?_
      refine ⟨?_, fun i hi => ?_, ⟨?_, ?_⟩, fun f hf hf2 => ?_, i5, fun c i c1 c2 c3 c4 c5 c6 => ?_⟩
      · simp (disch := omega) only [rd_cell]; exact i1
      · simp (disch := omega) only [rd_cell, rd_ix]; exact i2 i hi
      · simp (disch := omega) only [rd_same, ctj_0]
      · simp (disch := omega) only [rd_same, rd_cell]
      · obtain ⟨a1, a2, a3⟩ := i4 f hf (by omega)
        unfold numR
        simp (disch := omega) only [rd_cell, a1, a2, a3]
        exact ⟨trivial, trivial, trivial⟩
      · simp (disch := omega) only [rd_cell]; exact i6 c i c1 c2 c3 c4 c5 c6
theorem numM {en : Nat → Nat} {P J : Nat} (hP : P ≤ 12) (hJ : J ≤ 8) (hen : ∀ e, e < 2 * P → en e < J) {T0 : St} (hp : rd T0 0 11 = nI P) (hj8 : rd T0 0 8 = nI J) (h5 : ∀ e, e < 2 * P → rd T0 5 e = nI (en e)) :
    Wp (m_X10_number T0) (numO en (2 * P) T0 J) := by
  unfold m_X10_number f_X10_number_0
  simp only [lt]
  refine numM_out hP hJ hen hp hj8 h5 fuel 0 _ (by unfold fuel; omega) (by omega) ⟨?_, fun i hi => by omega, fun f hf hf2 => by omega, rfl, fun c i c1 c2 c3 c4 c5 c6 => ?_⟩
  · rw [rd_same]; rfl
  · by_cases c0 : c = 0
    · subst c0; rw [rd_ix (by omega)]
    · rw [rd_cell c0]
