/-! ===== the class numbers its places ===== -/
def nuxR (en : Nat → Nat) (N : Nat) (T : St) (e : Nat) : Prop := rd T 10 (plc en N e) = nI (en e) ∧ rd T 11 (plc en N e) = nI (ctj en (en e) e) ∧ rd T 12 (plc en N e) = nI (e / 2) ∧ rd T 15 e = nI (plc en N e)
def nuxF (T0 T : St) : Prop := rdL T = rdL T0 ∧ (∀ c i, c ≠ 9 → c ≠ 10 → c ≠ 11 → c ≠ 12 → c ≠ 13 → c ≠ 15 → (c ≠ 6 ∨ i ≠ 2) → rd T c i = rd T0 c i)
def nuxO (en : Nat → Nat) (N : Nat) (T0 : St) (j : Nat) (T : St) : Prop :=
  rd T 6 2 = nI (baj en N j) ∧ (∀ i, i < j → rd T 9 i = nI (baj en N i)) ∧ (∀ e, e < N → en e < j → nuxR en N T e) ∧ nuxF T0 T
def nuxI (en : Nat → Nat) (N : Nat) (T0 : St) (j k : Nat) (T : St) : Prop :=
  rd T 6 2 = nI (baj en N j + k) ∧ (∀ i, i < j + 1 → rd T 9 i = nI (baj en N i)) ∧ (∀ f, f < N → (en f < j ∨ (en f = j ∧ ctj en j f < k)) → nuxR en N T f) ∧ nuxF T0 T
def nuxS (en : Nat → Nat) (N : Nat) (T0 : St) (J s : Nat) (T : St) : Prop :=
  rd T 6 2 = nI N ∧ (∀ i, i < J → rd T 9 i = nI (baj en N i)) ∧ (∀ e, e < N → nuxR en N T e) ∧ (∀ e, e < s → rd T 13 (plc en N e) = nI (plc en N (e ^^^ 1))) ∧ nuxF T0 T
theorem numX_in {en : Nat → Nat} {P J : Nat} (hP : P ≤ 12) (hJ : J ≤ 8) (hen : ∀ e, e < 2 * P → en e < J) {T0 : St} (h8 : ∀ j, j < J → rd T0 8 j = nI (ctj en j (2 * P))) (h6 : ∀ j, j < J → ctj en j (2 * P) ≤ 6) (h14 : ∀ e, e < 2 * P → rd T0 14 (6 * en e + ctj en (en e) e) = nI e) {Q : St → Prop} {k7 : Int32 → St → Option St} {j : Nat} (hj : j < J)
    (hk : ∀ T, nuxO en (2 * P) T0 (j + 1) T → Wp (k7 (nI (j + 1)) T) Q) :
    ∀ (n k : Nat) (T : St), ctj en j (2 * P) - k < n → k ≤ ctj en j (2 * P) → nuxI en (2 * P) T0 j k T → Wp (g_X0_numberPlaces_27 k7 n (nI j) (nI k) T) Q := by
  intro n
  induction n with
  | zero => intro e T h; omega
  | succ n ih =>
    intro k T h1 h2 hI
    obtain ⟨i1, i2, i4, i5, i6⟩ := hI
    have h8' : rd T 8 j = nI (ctj en j (2 * P)) := by rw [i6 8 j (by omega) (by omega) (by omega) (by omega) (by omega) (by omega) (by omega), h8 j hj]
    have h6j := h6 j hj
    show Wp (f_X0_numberPlaces_27 k7 (g_X0_numberPlaces_27 k7 n) (nI j) (nI k) T) Q
    unfold f_X0_numberPlaces_27
    simp (disch := omega) only [ck_nI, nI_clamp, h8', l_2, l_1, l_6, pk_mul, nI_leI, nI_add]
    by_cases he : k = ctj en j (2 * P)
    · rw [if_pos (by omega)]
      subst he
      refine hk T ⟨by rw [i1]; rfl, i2, fun f hf hf2 => ?_, i5, i6⟩
      · refine i4 f hf ?_
        rcases Nat.lt_or_ge (en f) j with q | q
        · exact Or.inl q
        · have q : en f = j := by omega
          have := ctj_lt (en := en) hf
          rw [q] at this
          exact Or.inr ⟨q, this⟩
    · have he2 : k < ctj en j (2 * P) := by omega
      obtain ⟨e, hel, q, hek⟩ := fb_ct_kth he2
      have q : en e = j := by simpa using q
      have hek : ctj en j e = k := hek
      have hpl : baj en (2 * P) j + k = plc en (2 * P) e := by unfold plc; rw [q, hek]
      have hpl2 := plc_lt hen hel
      have h14' : rd T 14 (j * 6 + k) = nI e := by
        rw [i6 14 _ (by omega) (by omega) (by omega) (by omega) (by omega) (by omega) (by omega)]
        have := h14 e hel
        rw [q, hek] at this
        rw [← this]; congr 1; omega
      rw [if_neg (by omega)]
      rw [hpl] at i1
      simp (disch := omega) only [lt, ck_nI, nI_clamp, h14', i1, rd_cell, nI_add, pk_div]
      apply ih (k + 1) _ (by omega) (by omega)
      refine ⟨?_, fun i hi => ?_, fun f hf hf2 => ?_, ?_, fun c i c1 c2 c3 c4 c5 c6 c7 => ?_⟩
      · simp (disch := omega) only [rd_same]
        rw [← hpl]; congr 1
      · simp (disch := omega) only [rd_cell]; exact i2 i hi
      · by_cases hfe : f = e
        · subst hfe
          unfold nuxR
          simp (disch := omega) only [rd_cell, rd_same, q, hek]
          exact ⟨trivial, trivial, trivial, trivial⟩
        · have hx : en f < j ∨ (en f = j ∧ ctj en j f < k) := by
            rcases hf2 with w | ⟨w, w2⟩
            · exact Or.inl w
            · refine Or.inr ⟨w, ?_⟩
              rcases Nat.lt_or_ge (ctj en j f) k with u | u
              · exact u
              · have : ctj en j f = ctj en j e := by omega
                exact absurd (fb_ct_kth_one (p := fun x => en x == j) (by simp [w]) (by simp [q]) this) hfe
          obtain ⟨a1, a2, a3, a4⟩ := i4 f hf hx
          have hne : plc en (2 * P) f ≠ plc en (2 * P) e := fun w => hfe (plc_inj hf hel w)
          unfold nuxR
          simp (disch := omega) only [rd_cell, rd_ix, a1, a2, a3, a4]
          exact ⟨trivial, trivial, trivial, trivial⟩
      · exact i5
      · by_cases c0 : c = 6
        · subst c0
          simp (disch := omega) only [rd_cell, rd_ix]; exact i6 6 i c1 c2 c3 c4 c5 c6 (by omega)
        · simp (disch := omega) only [rd_cell]; exact i6 c i c1 c2 c3 c4 c5 c6 (by omega)
theorem numX_sd {en : Nat → Nat} {P J : Nat} (hP : P ≤ 12) (hJ : J ≤ 8) (hen : ∀ e, e < 2 * P → en e < J) {T0 : St} :
    ∀ (n s : Nat) (T : St), 2 * P - s < n → s ≤ 2 * P → nuxS en (2 * P) T0 J s T → Wp (g_X0_numberPlaces_115 n (nI s) T) (nuxS en (2 * P) T0 J (2 * P)) := by
  intro n
  induction n with
  | zero => intro e T h; omega
  | succ n ih =>
    intro s T h1 h2 hI
    have hI' := hI
    obtain ⟨i1, i2, i3, i4, i5, i6⟩ := hI
    show Wp (f_X0_numberPlaces_115 (g_X0_numberPlaces_115 n) (nI s) T) _
    unfold f_X0_numberPlaces_115
    simp (disch := omega) only [i1, nI_leI, l_1, fb_xorI, nI_add]
    by_cases q : s = 2 * P
    · rw [if_pos (by omega), Wp_some]; subst q; exact hI'
    · have hs : s < 2 * P := by omega
      have hx := x1_lt hs
      have r1 := (i3 s hs).2.2.2
      have r2 := (i3 _ hx).2.2.2
      have hpl2 := plc_lt hen hs
      rw [if_neg (by omega)]
      simp (disch := omega) only [lt, ck_nI, nI_clamp, r1, r2]
      apply ih (s + 1) _ (by omega) (by omega)
      refine ⟨?_, fun i hi => ?_, fun f hf => ?_, fun f hf => ?_, i5, fun c i c1 c2 c3 c4 c5 c6 c7 => ?_⟩
      · simp (disch := omega) only [rd_cell]; exact i1
      · simp (disch := omega) only [rd_cell]; exact i2 i hi
      · obtain ⟨a1, a2, a3, a4⟩ := i3 f hf
        unfold nuxR
        simp (disch := omega) only [rd_cell, a1, a2, a3, a4]
        exact ⟨trivial, trivial, trivial, trivial⟩
      · by_cases hfe : f = s
        · subst hfe; rw [rd_same]
        · have hne : plc en (2 * P) f ≠ plc en (2 * P) s := fun w => hfe (plc_inj (by omega) hs w)
          rw [rd_ix hne]; exact i4 f (by omega)
      · simp (disch := omega) only [rd_cell]; exact i6 c i c1 c2 c3 c4 c5 c6 c7
theorem numX_out {en : Nat → Nat} {P J : Nat} (hP : P ≤ 12) (hJ : J ≤ 8) (hen : ∀ e, e < 2 * P → en e < J) {T0 : St} (hj8 : rd T0 6 0 = nI J) (h8 : ∀ j, j < J → rd T0 8 j = nI (ctj en j (2 * P))) (h6 : ∀ j, j < J → ctj en j (2 * P) ≤ 6) (h14 : ∀ e, e < 2 * P → rd T0 14 (6 * en e + ctj en (en e) e) = nI e) :
    ∀ (n j : Nat) (T : St), J - j < n → j ≤ J → nuxO en (2 * P) T0 j T → Wp (g_X0_numberPlaces_7 n (nI j) T) (nuxS en (2 * P) T0 J (2 * P)) := by
  intro n
  induction n with
  | zero => intro j T h; omega
  | succ n ih =>
    intro j T h1 h2 hO
    obtain ⟨i1, i2, i4, i5, i6⟩ := hO
    have hj8' : rd T 6 0 = nI J := by rw [i6 6 0 (by omega) (by omega) (by omega) (by omega) (by omega) (by omega) (by omega), hj8]
    show Wp (f_X0_numberPlaces_7 (g_X0_numberPlaces_7 n) (nI j) T) _
    unfold f_X0_numberPlaces_7
    simp (disch := omega) only [hj8', nI_leI, l_0]
    by_cases q : j = J
    · rw [if_pos (by omega)]
      subst q
      refine numX_sd hP hJ hen fuel 0 T (by unfold fuel; omega) (by omega) ⟨by rw [i1, baj_all hen], i2, fun e he => i4 e he (hen e he), fun e he => by omega, i5, i6⟩
    · rw [if_neg (by omega)]
      have hb := baj_mono en (2 * P) (show j < J by omega)
      rw [baj_all hen] at hb
      simp (disch := omega) only [ck_nI, lt, nI_clamp, i1]
      refine numX_in hP hJ hen h8 h6 h14 (show j < J by omega) (fun T hT => ih (j + 1) T (by omega) (by omega) hT) fuel 0 _ (by have := h6 j (by omega); unfold fuel; omega) (by omega) ?_
      refine ⟨?_, fun i hi => ?_, fun f hf hf2 => ?_, i5, fun c i c1 c2 c3 c4 c5 c6 c7 => ?_⟩
      · simp (disch := omega) only [rd_cell]; exact i1
      · by_cases w : i = j
        · subst w; rw [rd_same]
        · rw [rd_ix w]; exact i2 i (by omega)
      · obtain ⟨a1, a2, a3, a4⟩ := i4 f hf (by omega)
        unfold nuxR
        simp (disch := omega) only [rd_cell, a1, a2, a3, a4]
        exact ⟨trivial, trivial, trivial, trivial⟩
      · simp (disch := omega) only [rd_cell]; exact i6 c i c1 c2 c3 c4 c5 c6 c7
theorem numX {en : Nat → Nat} {P J : Nat} (hP : P ≤ 12) (hJ : J ≤ 8) (hen : ∀ e, e < 2 * P → en e < J) {T0 : St} (hj8 : rd T0 6 0 = nI J) (h8 : ∀ j, j < J → rd T0 8 j = nI (ctj en j (2 * P))) (h6 : ∀ j, j < J → ctj en j (2 * P) ≤ 6) (h14 : ∀ e, e < 2 * P → rd T0 14 (6 * en e + ctj en (en e) e) = nI e) :
    Wp (m_X0_numberPlaces T0) (nuxS en (2 * P) T0 J (2 * P)) := by
  unfold m_X0_numberPlaces f_X0_numberPlaces_0
  simp only [lt]
  refine numX_out hP hJ hen hj8 h8 h6 h14 fuel 0 _ (by unfold fuel; omega) (by omega) ⟨?_, fun i hi => by omega, fun f hf hf2 => by omega, rfl, fun c i c1 c2 c3 c4 c5 c6 c7 => ?_⟩
  · rw [rd_same]; rfl
  · by_cases c0 : c = 6
    · subst c0; rw [rd_ix (by omega)]
    · rw [rd_cell c0]
