/-! ===== a line is read: the numbers afterwards ===== -/
def at2 (g : Nat → Nat) (a x y : Nat) : Nat → Nat := fun i => if i = a then x else if i = a + 1 then y else g i
theorem at2_a (g : Nat → Nat) (a x y : Nat) : at2 g a x y a = x := if_pos rfl
theorem at2_b (g : Nat → Nat) (a x y : Nat) : at2 g a x y (a + 1) = y := by unfold at2; rw [if_neg (by omega), if_pos rfl]
theorem at2_o {g : Nat → Nat} {a x y i : Nat} (h : i ≠ a) (h2 : i ≠ a + 1) : at2 g a x y i = g i := by unfold at2; rw [if_neg h, if_neg h2]
theorem asm_N {L f tb fk : Nat} {nu de nx : Nat → Nat} {M : Nat} {me : Nat → Nat} (h : rdN L f tb fk nu de nx M me) {V : Nat} (hV : V < 4) (hn : tb.testBit V = false) {x y z x2 y2 z2 : Nat} (hx : x < 10 ∧ y < 3 ∧ z < 4) (two : Bool) (h2 : two = true → x2 < 10 ∧ y2 < 3 ∧ z2 < 4) :
    rdN (L + 1) (if L = 0 then V else f) (sb tb V) (if two then sb fk V else fk) (at2 nu (2 * V) x x2) (at2 de (2 * V) y y2) (at2 nx (2 * V) z z2) (M + (if two then 2 else 1)) (at2 me M z z2) := by
  obtain ⟨h1, h3, h4, h5, h6, h7, h8, h9, h10⟩ := h
  have hfV : fk.testBit V = false := by
    cases u : fk.testBit V
    · rfl
    · rw [h10 V u] at hn; cases hn
  have told : ∀ s, (sb tb V).testBit s = true → s = V ∨ (s ≠ V ∧ tb.testBit s = true) := by
    intro s u
    rw [sb_tb] at u
    by_cases q : s = V
    · exact Or.inl q
    · exact Or.inr ⟨q, by simpa [q] using u⟩
  have fork : ∀ s, s ≠ V → (if two then sb fk V else fk).testBit s = fk.testBit s := by
    intro s q
    cases two
    · rfl
    · show (sb fk V).testBit s = _; rw [sb_tb]; simp [q]
  have forkV : (if two then sb fk V else fk).testBit V = two := by
    cases two
    · exact hfV
    · show (sb fk V).testBit V = _; rw [sb_tb]; simp
  have hMM : M + 1 ≤ M + (if two then 2 else 1) := by cases two <;> simp
  refine ⟨by rw [ct_sb hV hn, ← h1], sb_lt (n := 4) h3 hV, ?_, fun _ => ?_, fun s hs u => ?_, ?_, fun i hi => ?_, fun s hs u => ?_, fun s u => ?_⟩
  · cases two
    · exact h4
    · exact sb_lt (n := 4) h4 hV
  · by_cases q : L = 0
    · rw [if_pos q]; exact ⟨hV, by rw [sb_tb]; simp⟩
    · rw [if_neg q]
      obtain ⟨a, b⟩ := h5 (by omega)
      exact ⟨a, by rw [sb_tb, b]; rfl⟩
  · rcases told s u with rfl | ⟨q, v⟩
    · unfold rdB
      rw [at2_a, at2_a, at2_a, at2_b, at2_b, at2_b, forkV]
      exact ⟨hx, h2⟩
    · have := h6 s hs v
      rw [fork s q]
      unfold rdB at *
      rw [at2_o (by omega) (by omega), at2_o (by omega) (by omega), at2_o (by omega) (by omega), at2_o (by omega) (by omega), at2_o (by omega) (by omega), at2_o (by omega) (by omega)]
      exact this
  · cases two <;> simp <;> omega
  · by_cases q : i = M
    · subst q; rw [at2_a]; exact hx.2.2
    · by_cases q2 : i = M + 1
      · subst q2
        rw [at2_b]
        cases two
        · simp at hi
        · exact (h2 rfl).2.2
      · rw [at2_o q q2]
        exact h8 i (by cases two <;> simp at hi <;> omega)
  · rcases told s u with rfl | ⟨q, v⟩
    · rw [at2_a, at2_b, forkV]
      refine ⟨⟨M, by omega, at2_a _ _ _ _⟩, fun w => ⟨M + 1, ?_, at2_b _ _ _ _⟩⟩
      rw [w]; simp
    · rw [fork s q, at2_o (by omega) (by omega), at2_o (by omega) (by omega)]
      obtain ⟨⟨i, i1, i2⟩, k⟩ := h9 s hs v
      refine ⟨⟨i, by omega, by rw [at2_o (by omega) (by omega)]; exact i2⟩, fun w => ?_⟩
      obtain ⟨j, j1, j2⟩ := k w
      exact ⟨j, by omega, by rw [at2_o (by omega) (by omega)]; exact j2⟩
  · rw [sb_tb]
    by_cases q : s = V
    · simp [q]
    · rw [fork s q] at u
      rw [h10 s u]; rfl
