theorem asm_X {S S' : St} {r L f tb fk : Nat} {nu de nx : Nat → Nat} {M : Nat} {me mp : Nat → Nat} (h : rdX S r L f tb fk nu de nx M me mp) (hN : rdN L f tb fk nu de nx M me) {V : Nat} (hV : V < 4) (hn : tb.testBit V = false) {x y z pl x2 y2 z2 pl2 : Nat} (two : Bool)
    (fr : ∀ c i, r < c → c ≤ r + 3 → i ≠ 2 * V → i ≠ 2 * V + 1 → rd S' c i = rd S c i) (fn : ∀ c i, (c = 4 ∨ c = 5) → i < M → rd S' c i = rd S c i)
    (v3 : rd S' r 3 = nI (L + 1)) (v4 : rd S' r 4 = nI (if L = 0 then V else f)) (v5 : rd S' r 5 = nI (sb tb V)) (v6 : rd S' r 6 = nI (if two then sb fk V else fk))
    (a1 : rd S' (r + 1) (2 * V) = nI x) (a2 : rd S' (r + 2) (2 * V) = nI y) (a3 : rd S' (r + 3) (2 * V) = nI z)
    (b : two = true → rd S' (r + 1) (2 * V + 1) = nI x2 ∧ rd S' (r + 2) (2 * V + 1) = nI y2 ∧ rd S' (r + 3) (2 * V + 1) = nI z2 ∧ rd S' 4 (M + 1) = nI z2 ∧ rd S' 5 (M + 1) = nI pl2)
    (m1 : rd S' 3 10 = nI (M + (if two then 2 else 1))) (m2 : rd S' 4 M = nI z) (m3 : rd S' 5 M = nI pl) (f0 : rd S' 3 0 = 0) (f1 : rd S' 3 1 = -1) :
    rdX S' r (L + 1) (if L = 0 then V else f) (sb tb V) (if two then sb fk V else fk) (at2 nu (2 * V) x x2) (at2 de (2 * V) y y2) (at2 nx (2 * V) z z2) (M + (if two then 2 else 1)) (at2 me M z z2) (at2 mp M pl pl2) := by
  obtain ⟨h1, h2, h3, h4, h5, h6, h7, h8, h9⟩ := h
  have hfV : fk.testBit V = false := by
    cases u : fk.testBit V
    · rfl
    · rw [hN.2.2.2.2.2.2.2.2 V u] at hn; cases hn
  clear hN
  refine ⟨v3, fun _ => v4, v5, v6, fun s hs u => ?_, m1, fun i hi => ?_, f0, f1⟩
  · unfold acX
    by_cases q : s = V
    · subst q
      rw [at2_a, at2_a, at2_a, at2_b, at2_b, at2_b]
      refine ⟨⟨a1, a2, a3⟩, fun w => ?_⟩
      cases two
      · rw [show (if false = true then sb fk s else fk) = fk from rfl, hfV] at w; cases w
      · exact ⟨(b rfl).1, (b rfl).2.1, (b rfl).2.2.1⟩
    · have u2 : tb.testBit s = true := by rw [sb_tb] at u; simpa [q] using u
      have hf : (if two then sb fk V else fk).testBit s = fk.testBit s := by
        cases two
        · rfl
        · show (sb fk V).testBit s = _; rw [sb_tb]; simp [q]
      have := h5 s hs u2
      unfold acX at this
      rw [hf, at2_o (by omega) (by omega), at2_o (by omega) (by omega), at2_o (by omega) (by omega), at2_o (by omega) (by omega), at2_o (by omega) (by omega), at2_o (by omega) (by omega), fr (r + 1) _ (by omega) (by omega) (by omega) (by omega), fr (r + 2) _ (by omega) (by omega) (by omega) (by omega), fr (r + 3) _ (by omega) (by omega) (by omega) (by omega), fr (r + 1) _ (by omega) (by omega) (by omega) (by omega), fr (r + 2) _ (by omega) (by omega) (by omega) (by omega), fr (r + 3) _ (by omega) (by omega) (by omega) (by omega)]
      exact this
  · by_cases q : i = M
    · subst q; rw [at2_a, at2_a]; exact ⟨m2, m3⟩
    · by_cases q2 : i = M + 1
      · subst q2
        rw [at2_b, at2_b]
        cases two
        · simp at hi
        · exact ⟨(b rfl).2.2.2.1, (b rfl).2.2.2.2⟩
      · rw [at2_o q q2, at2_o q q2]
        have hi2 : i < M := by cases two <;> simp at hi <;> omega
        rw [fn 4 i (by omega) hi2, fn 5 i (by omega) hi2]
        exact h7 i hi2
theorem asm_M {T T' : St} {L f tb fk : Nat} {nu de nx : Nat → Nat} {M : Nat} {me mp : Nat → Nat} (h : rdM T L f tb fk nu de nx M me mp) (hN : rdN L f tb fk nu de nx M me) {V : Nat} (hV : V < 4) (hn : tb.testBit V = false) {x y z pl x2 y2 z2 pl2 : Nat} (two : Bool)
    (fr : ∀ i, (i < 24 + 6 * V ∨ 24 + 6 * V + 5 < i) → rd T' 2 i = rd T 2 i) (fn : ∀ c i, (c = 14 ∨ c = 15) → i < M → rd T' c i = rd T c i) (ft : ∀ s, s ≠ V → rd T' 16 s = rd T 16 s) (fV : rd T' 16 V = 1)
    (v3 : rd T' 0 32 = nI (L + 1)) (v4 : rd T' 0 33 = nI (if L = 0 then V else f))
    (a1 : rd T' 2 (24 + 6 * V) = nI x) (a2 : rd T' 2 (24 + 6 * V + 1) = nI y) (a3 : rd T' 2 (24 + 6 * V + 2) = nI z)
    (b : two = true → rd T' 2 (24 + 6 * V + 3) = nI x2 ∧ rd T' 2 (24 + 6 * V + 3 + 1) = nI y2 ∧ rd T' 2 (24 + 6 * V + 3 + 2) = nI z2 ∧ rd T' 14 (M + 1) = nI z2 ∧ rd T' 15 (M + 1) = nI pl2) (b2' : two = false → rd T' 2 (24 + 6 * V + 3) = -1)
    (m1 : rd T' 0 28 = nI (M + (if two then 2 else 1))) (m2 : rd T' 14 M = nI z) (m3 : rd T' 15 M = nI pl) (f0 : rd T' 0 3 = 0) (f1 : rd T' 0 4 = -1) :
    rdM T' (L + 1) (if L = 0 then V else f) (sb tb V) (if two then sb fk V else fk) (at2 nu (2 * V) x x2) (at2 de (2 * V) y y2) (at2 nx (2 * V) z z2) (M + (if two then 2 else 1)) (at2 me M z z2) (at2 mp M pl pl2) := by
  obtain ⟨h1, h2, h3, h5, h6, h7, h8, h9⟩ := h
  have hfV : fk.testBit V = false := by
    cases u : fk.testBit V
    · rfl
    · rw [hN.2.2.2.2.2.2.2.2 V u] at hn; cases hn
  clear hN
  refine ⟨v3, fun _ => v4, fun s hs => ?_, fun s hs u => ?_, m1, fun i hi => ?_, f0, f1⟩
  · rw [sb_tb]
    by_cases q : s = V
    · subst q; rw [fV]; simp [b2]
    · rw [ft s q, h3 s hs]; simp [q]
  · unfold acM
    by_cases q : s = V
    · subst q
      rw [at2_a, at2_a, at2_a, at2_b, at2_b, at2_b]
      cases two
      · refine ⟨⟨a1, a2, a3⟩, fun w => ?_, fun _ => b2' rfl⟩
        rw [show (if false = true then sb fk s else fk) = fk from rfl, hfV] at w; cases w
      · refine ⟨⟨a1, a2, a3⟩, fun _ => ⟨(b rfl).1, (b rfl).2.1, (b rfl).2.2.1⟩, fun w => ?_⟩
        rw [show (if true = true then sb fk s else fk) = sb fk s from rfl, sb_tb] at w
        simp at w
    · have u2 : tb.testBit s = true := by rw [sb_tb] at u; simpa [q] using u
      have hf : (if two then sb fk V else fk).testBit s = fk.testBit s := by
        cases two
        · rfl
        · show (sb fk V).testBit s = _; rw [sb_tb]; simp [q]
      have := h5 s hs u2
      unfold acM at this
      rw [hf, at2_o (by omega) (by omega), at2_o (by omega) (by omega), at2_o (by omega) (by omega), at2_o (by omega) (by omega), at2_o (by omega) (by omega), at2_o (by omega) (by omega), fr _ (by omega), fr _ (by omega), fr _ (by omega), fr _ (by omega), fr _ (by omega), fr _ (by omega)]
      exact this
  · by_cases q : i = M
    · subst q; rw [at2_a, at2_a]; exact ⟨m2, m3⟩
    · by_cases q2 : i = M + 1
      · subst q2
        rw [at2_b, at2_b]
        cases two
        · simp at hi
        · exact ⟨(b rfl).2.2.2.1, (b rfl).2.2.2.2⟩
      · rw [at2_o q q2, at2_o q q2]
        have hi2 : i < M := by cases two <;> simp at hi <;> omega
        rw [fn 14 i (by omega) hi2, fn 15 i (by omega) hi2]
        exact h7 i hi2
