/-! ===== what holds between the class's numbers and the reference's ===== -/
theorem rd_ne {S : St} {k c i j : Nat} {v : Int32} (h : c ≠ k ∨ j ≠ i) : rd (up S k i v) c j = rd S c j := by
  by_cases q : c = k
  · subst q; exact rd_ix (by omega)
  · exact rd_cell q
theorem cell_of {S S' : St} {c : Nat} (h : ∀ i, rd S' c i = rd S c i) : S'.1 c = S.1 c := funext h
def relT (S T : St) : Prop := ∃ (n : Nat) (w : Nat → Nat), n ≤ 300 ∧ rd S 1 1 = nI n ∧ rd T 0 1 = nI n ∧ ∀ i, i < n → w i < 256 ∧ rd S 2 i = nI (w i) ∧ rd T 1 i = nI (w i)
theorem relT_fr {S T S' T' : St} (h : relT S T) (hS : ∀ c i, (c = 1 ∨ c = 2) → rd S' c i = rd S c i) (hT : ∀ c i, (c = 0 ∧ i = 1 ∨ c = 1) → rd T' c i = rd T c i) : relT S' T' := by
  obtain ⟨n, w, h1, h2, h3, h4⟩ := h
  exact ⟨n, w, h1, by rw [hS 1 1 (by omega), h2], by rw [hT 0 1 (by omega), h3], fun i hi => by rw [hS 2 i (by omega), hT 1 i (by omega)]; exact h4 i hi⟩
def relF (S T : St) : Prop := rd S 3 0 = rd T 0 3 ∧ rd S 3 1 = rd T 0 4
theorem relF_fr {S T S' T' : St} (h : relF S T) (hS : ∀ c i, (c = 3 ∧ i ≤ 1) → rd S' c i = rd S c i) (hT : ∀ c i, (c = 0 ∧ 3 ≤ i ∧ i ≤ 4) → rd T' c i = rd T c i) : relF S' T' :=
  ⟨by rw [hS 3 0 (by omega), hT 0 3 (by omega), h.1], by rw [hS 3 1 (by omega), hT 0 4 (by omega), h.2]⟩
/-! rules: L lines, f the first state, fk which states have two acts, to which are told; nu, de, nx by acts -/
def ruA (to : Nat → Bool) (nu de nx : Nat → Nat) (a : Nat) : Prop := nu a < 10 ∧ de a < 3 ∧ nx a < 4 ∧ to (nx a) = true
def ruN (L f fk : Nat) (to : Nat → Bool) (nu de nx : Nat → Nat) : Prop := L ≤ 4 ∧ fk < 16 ∧ (0 < L → f < 4 ∧ to f = true) ∧ ∀ s, s < 4 → to s = true → ruA to nu de nx (2 * s) ∧ (fk.testBit s = true → ruA to nu de nx (2 * s + 1))
def acX (S : St) (r : Nat) (nu de nx : Nat → Nat) (a : Nat) : Prop := rd S (r + 1) a = nI (nu a) ∧ rd S (r + 2) a = nI (de a) ∧ rd S (r + 3) a = nI (nx a)
def acM (T : St) (nu de nx : Nat → Nat) (k a : Nat) : Prop := rd T 2 k = nI (nu a) ∧ rd T 2 (k + 1) = nI (de a) ∧ rd T 2 (k + 2) = nI (nx a)
def ruX (S : St) (r L f fk : Nat) (to : Nat → Bool) (nu de nx : Nat → Nat) : Prop := rd S r 3 = nI L ∧ (0 < L → rd S r 4 = nI f) ∧ rd S r 6 = nI fk ∧ ∀ s, s < 4 → to s = true → acX S r nu de nx (2 * s) ∧ (fk.testBit s = true → acX S r nu de nx (2 * s + 1))
def ruM (T : St) (L f fk : Nat) (to : Nat → Bool) (nu de nx : Nat → Nat) : Prop := rd T 0 5 = nI L ∧ (0 < L → rd T 0 6 = nI f) ∧ ∀ s, s < 4 → to s = true → acM T nu de nx (6 * s) (2 * s) ∧ (fk.testBit s = true → acM T nu de nx (6 * s + 3) (2 * s + 1)) ∧ (fk.testBit s = false → rd T 2 (6 * s + 3) = -1)
def usR (S : St) (r : Nat) : Prop := (r = 16 ∧ rd S 0 8 = 0 ∧ rd S 0 9 = 1) ∨ (r = 20 ∧ rd S 0 8 = 1 ∧ rd S 0 9 = 0)
theorem usR_rs {S : St} {r : Nat} (h : usR S r) : rs (rd S 0 8) = r ∧ (r = 16 ∨ r = 20) := by
  rcases h with ⟨h1, h2, _⟩ | ⟨h1, h2, _⟩
  · rw [h2, h1]; exact ⟨rfl, Or.inl rfl⟩
  · rw [h2, h1]; exact ⟨rfl, Or.inr rfl⟩
theorem usR_r2 {S : St} {r : Nat} (h : usR S r) : rs (rd S 0 9) = 36 - r ∧ (36 - r = 16 ∨ 36 - r = 20) := by
  rcases h with ⟨h1, _, h2⟩ | ⟨h1, _, h2⟩
  · rw [h2, h1]; exact ⟨rfl, Or.inr rfl⟩
  · rw [h2, h1]; exact ⟨rfl, Or.inl rfl⟩
def relR (S T : St) : Prop := ∃ (r L f fk : Nat) (to : Nat → Bool) (nu de nx : Nat → Nat), usR S r ∧ ruN L f fk to nu de nx ∧ ruX S r L f fk to nu de nx ∧ ruM T L f fk to nu de nx
theorem ruX_fr {S S' : St} {r L f fk : Nat} {to : Nat → Bool} {nu de nx : Nat → Nat} (h : ruX S r L f fk to nu de nx) (hS : ∀ c i, (r ≤ c ∧ c ≤ r + 3) → rd S' c i = rd S c i) : ruX S' r L f fk to nu de nx := by
  unfold ruX acX at *
  simp only [hS r _ (by omega), hS (r + 1) _ (by omega), hS (r + 2) _ (by omega), hS (r + 3) _ (by omega)]
  exact h
theorem ruM_fr {T T' : St} {L f fk : Nat} {to : Nat → Bool} {nu de nx : Nat → Nat} (h : ruM T L f fk to nu de nx) (hT : ∀ c i, (c = 0 ∧ 5 ≤ i ∧ i ≤ 6 ∨ c = 2) → rd T' c i = rd T c i) : ruM T' L f fk to nu de nx := by
  unfold ruM acM at *
  simp only [(fun i => hT 2 i (by omega) : ∀ i, rd T' 2 i = rd T 2 i), hT 0 5 (by omega), hT 0 6 (by omega)]
  exact h
theorem relR_fr {S T S' T' : St} (h : relR S T) (hS : ∀ c i, (c = 0 ∨ 16 ≤ c ∧ c ≤ 23) → rd S' c i = rd S c i) (hT : ∀ c i, (c = 0 ∧ 5 ≤ i ∧ i ≤ 6 ∨ c = 2) → rd T' c i = rd T c i) : relR S' T' := by
  obtain ⟨r, L, f, fk, to, nu, de, nx, h1, h2, h3, h4⟩ := h
  refine ⟨r, L, f, fk, to, nu, de, nx, ?_, h2, ruX_fr h3 (fun c i hc => hS c i ?_), ruM_fr h4 hT⟩
  · unfold usR at *; rw [hS 0 8 (by omega), hS 0 9 (by omega)]; exact h1
  · have := (usR_rs h1).2; omega
/-! the garden: J junctions, P paths, en: the junction of each side, ga gates; ou, mk, sh: bits; b: the period -/
def gaN (J P : Nat) (en ga : Nat → Nat) (ou mk sh b : Nat) : Prop := J ≤ 8 ∧ P ≤ 12 ∧ (∀ e, e < 2 * P → en e < J) ∧ (∀ j, j < J → ctj en j (2 * P) ≤ 6) ∧ (1 ≤ b ∧ b ≤ 8) ∧ (∀ p, p < P → ga p < 256) ∧ ou < 2 ^ 8 ∧ mk < 2 ^ J ∧ sh < 2 ^ P
def gaX (S : St) (J P : Nat) (en ga : Nat → Nat) (ou mk sh b : Nat) : Prop := rd S 6 0 = nI J ∧ rd S 6 1 = nI P ∧ rd S 6 2 = nI (2 * P) ∧ rd S 6 3 = nI ou ∧ rd S 6 4 = nI mk ∧ rd S 6 5 = nI sh ∧ rd S 6 6 = nI b ∧ (∀ p, p < P → rd S 7 p = nI (ga p)) ∧ (∀ j, j < J → rd S 8 j = nI (ctj en j (2 * P)) ∧ rd S 9 j = nI (baj en (2 * P) j)) ∧ (∀ e, e < 2 * P → nuxR en (2 * P) S e ∧ rd S 13 (plc en (2 * P) e) = nI (plc en (2 * P) (e ^^^ 1)) ∧ rd S 14 (6 * en e + ctj en (en e) e) = nI e)
def gaM (T : St) (J P : Nat) (en ga : Nat → Nat) (ou mk sh b : Nat) : Prop := rd T 0 8 = nI J ∧ rd T 0 11 = nI P ∧ rd T 0 15 = nI b ∧ rd T 0 16 = nI (2 * P) ∧ (∀ j, j < J → rd T 3 j = b2 (ou.testBit j) ∧ rd T 4 j = b2 (mk.testBit j) ∧ rd T 11 j = nI (ctj en j (2 * P)) ∧ rd T 12 j = nI (baj en (2 * P) j)) ∧ (∀ p, p < P → rd T 6 p = nI (ga p) ∧ rd T 7 p = b2 (sh.testBit p)) ∧ (∀ e, e < 2 * P → rd T 5 e = nI (en e) ∧ numR en (2 * P) T e)
def relG (S T : St) : Prop := ∃ (J P : Nat) (en ga : Nat → Nat) (ou mk sh b : Nat), gaN J P en ga ou mk sh b ∧ gaX S J P en ga ou mk sh b ∧ gaM T J P en ga ou mk sh b
theorem gaX_fr {S S' : St} {J P : Nat} {en ga : Nat → Nat} {ou mk sh b : Nat} (h : gaX S J P en ga ou mk sh b) (hS : ∀ c i, (6 ≤ c ∧ c ≤ 15) → rd S' c i = rd S c i) : gaX S' J P en ga ou mk sh b := by
  unfold gaX nuxR at *
  simp only [(fun i => hS 6 i (by omega) : ∀ i, rd S' 6 i = rd S 6 i), (fun i => hS 7 i (by omega) : ∀ i, rd S' 7 i = rd S 7 i), (fun i => hS 8 i (by omega) : ∀ i, rd S' 8 i = rd S 8 i), (fun i => hS 9 i (by omega) : ∀ i, rd S' 9 i = rd S 9 i), (fun i => hS 10 i (by omega) : ∀ i, rd S' 10 i = rd S 10 i), (fun i => hS 11 i (by omega) : ∀ i, rd S' 11 i = rd S 11 i), (fun i => hS 12 i (by omega) : ∀ i, rd S' 12 i = rd S 12 i), (fun i => hS 13 i (by omega) : ∀ i, rd S' 13 i = rd S 13 i), (fun i => hS 14 i (by omega) : ∀ i, rd S' 14 i = rd S 14 i), (fun i => hS 15 i (by omega) : ∀ i, rd S' 15 i = rd S 15 i)]
  exact h
theorem gaM_fr {T T' : St} {J P : Nat} {en ga : Nat → Nat} {ou mk sh b : Nat} (h : gaM T J P en ga ou mk sh b) (hT : ∀ c i, (c = 0 ∧ (i = 8 ∨ i = 11 ∨ i = 15 ∨ i = 16) ∨ 3 ≤ c ∧ c ≤ 12) → rd T' c i = rd T c i) : gaM T' J P en ga ou mk sh b := by
  unfold gaM numR at *
  simp only [hT 0 8 (by omega), hT 0 11 (by omega), hT 0 15 (by omega), hT 0 16 (by omega), (fun i => hT 3 i (by omega) : ∀ i, rd T' 3 i = rd T 3 i), (fun i => hT 4 i (by omega) : ∀ i, rd T' 4 i = rd T 4 i), (fun i => hT 5 i (by omega) : ∀ i, rd T' 5 i = rd T 5 i), (fun i => hT 6 i (by omega) : ∀ i, rd T' 6 i = rd T 6 i), (fun i => hT 7 i (by omega) : ∀ i, rd T' 7 i = rd T 7 i), (fun i => hT 8 i (by omega) : ∀ i, rd T' 8 i = rd T 8 i), (fun i => hT 9 i (by omega) : ∀ i, rd T' 9 i = rd T 9 i), (fun i => hT 10 i (by omega) : ∀ i, rd T' 10 i = rd T 10 i), (fun i => hT 11 i (by omega) : ∀ i, rd T' 11 i = rd T 11 i), (fun i => hT 12 i (by omega) : ∀ i, rd T' 12 i = rd T 12 i)]
  exact h
theorem relG_fr {S T S' T' : St} (h : relG S T) (hS : ∀ c i, (6 ≤ c ∧ c ≤ 15) → rd S' c i = rd S c i) (hT : ∀ c i, (c = 0 ∧ (i = 8 ∨ i = 11 ∨ i = 15 ∨ i = 16) ∨ 3 ≤ c ∧ c ≤ 12) → rd T' c i = rd T c i) : relG S' T' := by
  obtain ⟨J, P, en, ga, ou, mk, sh, b, h1, h2, h3⟩ := h
  exact ⟨J, P, en, ga, ou, mk, sh, b, h1, gaX_fr h2 hS, gaM_fr h3 hT⟩
def relW (S T : St) : Prop := (rd T 0 43 = 0 ∧ ∀ i, i < 6 → rd S 28 i = -1) ∨ (rd T 0 43 = 1 ∧ ∀ i, i < 6 → rd S 28 i = rd T 20 i)
theorem relW_fr {S T S' T' : St} (h : relW S T) (hS : ∀ c i, (c = 28) → rd S' c i = rd S c i) (hT : ∀ c i, (c = 0 ∧ i = 43 ∨ c = 20) → rd T' c i = rd T c i) : relW S' T' := by
  unfold relW at *
  simp only [hS 28 _ rfl, hT 0 43 (by omega), (fun i => hT 20 i (by omega) : ∀ i, rd T' 20 i = rd T 20 i)]
  exact h
def relH (S T : St) : Prop := ∃ k, k ≤ 2 ∧ rd S 29 1 = nI k ∧ rd T 0 45 = nI k ∧ ∀ i, i < k → rd S 30 i = rd T 22 i
theorem relH_fr {S T S' T' : St} (h : relH S T) (hS : ∀ c i, (c = 29 ∧ i = 1 ∨ c = 30) → rd S' c i = rd S c i) (hT : ∀ c i, (c = 0 ∧ i = 45 ∨ c = 22) → rd T' c i = rd T c i) : relH S' T' := by
  unfold relH at *
  simp only [hS 29 1 (by omega), (fun i => hS 30 i (by omega) : ∀ i, rd S' 30 i = rd S 30 i), hT 0 45 (by omega), (fun i => hT 22 i (by omega) : ∀ i, rd T' 22 i = rd T 22 i)]
  exact h
def relU (S T : St) : Prop := (rd S 31 1 = -1 ∧ rd T 0 48 = -1) ∨ ∃ t h, t ≤ 8 ∧ rd S 31 1 = nI t ∧ rd T 0 48 = nI t ∧ h < 2 ^ 24 ∧ rd S 31 0 = nI h ∧ rdL T = lN h
theorem relU_fr {S T S' T' : St} (h : relU S T) (hS : ∀ c i, (c = 31) → rd S' c i = rd S c i) (hT : ∀ c i, (c = 0 ∧ i = 48) → rd T' c i = rd T c i) (hL : rdL T' = rdL T) : relU S' T' := by
  unfold relU at *
  simp only [hS 31 _ rfl, hT 0 48 (by omega), hL]
  exact h
def relM (S T : St) : Prop := ∃ k, k ≤ 5 ∧ rd S 32 1 = nI k ∧ rd T 0 50 = nI k ∧ ∀ i, i < k → rd S 33 i = rd T 23 i
theorem relM_fr {S T S' T' : St} (h : relM S T) (hS : ∀ c i, (c = 32 ∧ i = 1 ∨ c = 33) → rd S' c i = rd S c i) (hT : ∀ c i, (c = 0 ∧ i = 50 ∨ c = 23) → rd T' c i = rd T c i) : relM S' T' := by
  unfold relM at *
  simp only [hS 32 1 (by omega), (fun i => hS 33 i (by omega) : ∀ i, rd S' 33 i = rd S 33 i), hT 0 50 (by omega), (fun i => hT 23 i (by omega) : ∀ i, rd T' 23 i = rd T 23 i)]
  exact h
def wrd (i : Nat) : Nat := [115, 116, 97, 121, 32, 116, 97, 107, 101, 32, 100, 114, 111, 112, 32].getD i 0
def relC (T : St) : Prop := (∀ v, rd T 18 v = 0) ∧ ∀ i, i < 15 → rd T 13 i = nI (wrd i)
theorem relC_fr {T T' : St} (h : relC T) (hT : ∀ c i, (c = 13 ∨ c = 18) → rd T' c i = rd T c i) : relC T' := by
  unfold relC at *
  simp only [(fun i => hT 13 i (by omega) : ∀ i, rd T' 13 i = rd T 13 i), (fun i => hT 18 i (by omega) : ∀ i, rd T' 18 i = rd T 18 i)]
  exact h
def Rl (S T : St) : Prop := relT S T ∧ relF S T ∧ relR S T ∧ relG S T ∧ relW S T ∧ relH S T ∧ relU S T ∧ relM S T ∧ relC T
/-- nothing of the reference's was touched but its thrown -/
theorem Rl_fr {S T S' T' : St} (h : Rl S T) (hS : ∀ c i, (c ≤ 3 ∨ 6 ≤ c ∧ c ≤ 23 ∨ 28 ≤ c ∧ c ≤ 33) → (c ≠ 29 ∨ i = 1) → (c ≠ 32 ∨ i = 1) → (c ≠ 3 ∨ i ≤ 1) → rd S' c i = rd S c i) (hT : ∀ c i, (c ≠ 0 ∨ i ≠ 2) → rd T' c i = rd T c i) (hL : rdL T' = rdL T) : Rl S' T' := by
  obtain ⟨h1, h2, h3, h4, h5, h6, h7, h8, h9⟩ := h
  exact ⟨relT_fr h1 (fun c i q => hS c i (by omega) (by omega) (by omega) (by omega)) (fun c i q => hT c i (by omega)), relF_fr h2 (fun c i q => hS c i (by omega) (by omega) (by omega) (by omega)) (fun c i q => hT c i (by omega)), relR_fr h3 (fun c i q => hS c i (by omega) (by omega) (by omega) (by omega)) (fun c i q => hT c i (by omega)), relG_fr h4 (fun c i q => hS c i (by omega) (by omega) (by omega) (by omega)) (fun c i q => hT c i (by omega)), relW_fr h5 (fun c i q => hS c i (by omega) (by omega) (by omega) (by omega)) (fun c i q => hT c i (by omega)), relH_fr h6 (fun c i q => hS c i (by omega) (by omega) (by omega) (by omega)) (fun c i q => hT c i (by omega)), relU_fr h7 (fun c i q => hS c i (by omega) (by omega) (by omega) (by omega)) (fun c i q => hT c i (by omega)) hL, relM_fr h8 (fun c i q => hS c i (by omega) (by omega) (by omega) (by omega)) (fun c i q => hT c i (by omega)), relC_fr h9 (fun c i q => hT c i (by omega))⟩
/-- the reference's thrown is set, nothing else -/
theorem Rl_0 {S T : St} (h : Rl S T) (v : Int32) : Rl S (up T 0 2 v) := Rl_fr h (fun _ _ _ _ _ _ => rfl) (fun c i q => rd_ne (by omega)) rfl
theorem st_fault : St_fault Rl := by
  intro a1 S T h
  unfold m_X9_fault f_X9_fault_0 m_X10_fault f_X10_fault_0
  simp (disch := omega) only [lt, rd_ne]
  by_cases c : a1 = 0
  · simp only [if_pos c]; exact ⟨_, _, _, rfl, by rw [h.2.1.1], Rl_0 h 0⟩
  · by_cases d : a1 = 1
    · simp only [if_neg c, if_pos d]; exact ⟨_, _, _, rfl, by rw [h.2.1.2], Rl_0 h 0⟩
    · simp only [if_neg c, if_neg d]; exact ⟨_, _, _, rfl, rfl, Rl_0 h 0⟩
theorem st_walked : St_walked Rl := by
  intro a1 S T h
  unfold m_X9_walked f_X9_walked_0 m_X10_walked f_X10_walked_0
  simp (disch := omega) only [lt, rd_ne]
  by_cases c : a1 < 0
  · simp only [if_pos c]
    by_cases d : rd T 0 43 = 0
    · simp only [if_pos d]; exact ⟨_, _, _, rfl, rfl, Rl_0 h 0⟩
    · simp only [if_neg d]; exact ⟨_, _, _, rfl, rfl, Rl_0 h 0⟩
  · obtain ⟨j, hj, rfl⟩ := nI_of c
    simp only [if_neg c]
    simp (disch := omega) only [l_6, l_5, nI_ltI, nI_leI]
    by_cases e : j < 6
    · have e2 : j ≤ 5 := by omega
      simp (disch := omega) only [if_pos e, if_pos e2, ck_nI, nI_clamp]
      rcases h.2.2.2.2.1 with ⟨d, w⟩ | ⟨d, w⟩
      · rw [if_pos d, w j e]; exact ⟨_, _, _, rfl, rfl, Rl_0 h 0⟩
      · rw [if_neg (by rw [d]; decide), w j e]; exact ⟨_, _, _, rfl, rfl, Rl_0 h 0⟩
    · have e2 : ¬ j ≤ 5 := by omega
      simp only [if_neg e, if_neg e2]
      by_cases d : rd T 0 43 = 0
      · simp only [if_pos d]; exact ⟨_, _, _, rfl, rfl, Rl_0 h 0⟩
      · simp only [if_neg d]; exact ⟨_, _, _, rfl, rfl, Rl_0 h 0⟩
theorem st_helped : St_helped Rl := by
  intro a1 S T h
  unfold m_X9_helped f_X9_helped_0 m_X10_helped f_X10_helped_0
  simp (disch := omega) only [lt, rd_ne]
  by_cases c : a1 < 0
  · simp only [if_pos c]; exact ⟨_, _, _, rfl, rfl, Rl_0 h 0⟩
  · obtain ⟨j, hj, rfl⟩ := nI_of c
    obtain ⟨k, hk, h1, h2, h3⟩ := h.2.2.2.2.2.1
    simp only [if_neg c]
    simp (disch := omega) only [h1, h2, nI_ltI]
    by_cases e : j < k
    · simp (disch := omega) only [if_pos e, ck_nI, nI_clamp]
      rw [h3 j e]; exact ⟨_, _, _, rfl, rfl, Rl_0 h 0⟩
    · simp only [if_neg e]; exact ⟨_, _, _, rfl, rfl, Rl_0 h 0⟩
theorem st_homing : St_homing Rl := by
  intro a1 S T h
  unfold m_X9_homing f_X9_homing_0 m_X10_homing f_X10_homing_0
  simp (disch := omega) only [lt, rd_ne]
  by_cases c : a1 < 0
  · simp only [if_pos c]; exact ⟨_, _, _, rfl, rfl, Rl_0 h 0⟩
  · obtain ⟨j, hj, rfl⟩ := nI_of c
    obtain ⟨k, hk, h1, h2, h3⟩ := h.2.2.2.2.2.2.2.1
    simp only [if_neg c]
    simp (disch := omega) only [h1, h2, nI_ltI]
    by_cases e : j < k
    · simp (disch := omega) only [if_pos e, ck_nI, nI_clamp]
      rw [h3 j e]; exact ⟨_, _, _, rfl, rfl, Rl_0 h 0⟩
    · simp only [if_neg e]; exact ⟨_, _, _, rfl, rfl, Rl_0 h 0⟩
