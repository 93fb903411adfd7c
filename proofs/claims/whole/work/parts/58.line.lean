/-! ===== what was read of a text so far ===== -/
def rdB (nu de nx : Nat → Nat) (a : Nat) : Prop := nu a < 10 ∧ de a < 3 ∧ nx a < 4
def rdN (L f tb fk : Nat) (nu de nx : Nat → Nat) (M : Nat) (me : Nat → Nat) : Prop := L = fb_ct (fun s => tb.testBit s) 4 ∧ tb < 16 ∧ fk < 16 ∧ (0 < L → f < 4 ∧ tb.testBit f = true) ∧ (∀ s, s < 4 → tb.testBit s = true → rdB nu de nx (2 * s) ∧ (fk.testBit s = true → rdB nu de nx (2 * s + 1))) ∧ M ≤ 2 * L ∧ (∀ i, i < M → me i < 4) ∧ (∀ s, s < 4 → tb.testBit s = true → (∃ i, i < M ∧ me i = nx (2 * s)) ∧ (fk.testBit s = true → ∃ i, i < M ∧ me i = nx (2 * s + 1))) ∧ (∀ s, fk.testBit s = true → tb.testBit s = true)
def rdX (S : St) (r L f tb fk : Nat) (nu de nx : Nat → Nat) (M : Nat) (me mp : Nat → Nat) : Prop := rd S r 3 = nI L ∧ (0 < L → rd S r 4 = nI f) ∧ rd S r 5 = nI tb ∧ rd S r 6 = nI fk ∧ (∀ s, s < 4 → tb.testBit s = true → acX S r nu de nx (2 * s) ∧ (fk.testBit s = true → acX S r nu de nx (2 * s + 1))) ∧ rd S 3 10 = nI M ∧ (∀ i, i < M → rd S 4 i = nI (me i) ∧ rd S 5 i = nI (mp i)) ∧ rd S 3 0 = 0 ∧ rd S 3 1 = -1
def rdM (T : St) (L f tb fk : Nat) (nu de nx : Nat → Nat) (M : Nat) (me mp : Nat → Nat) : Prop := rd T 0 32 = nI L ∧ (0 < L → rd T 0 33 = nI f) ∧ (∀ s, s < 4 → rd T 16 s = b2 (tb.testBit s)) ∧ (∀ s, s < 4 → tb.testBit s = true → acM T nu de nx (24 + 6 * s) (2 * s) ∧ (fk.testBit s = true → acM T nu de nx (24 + 6 * s + 3) (2 * s + 1)) ∧ (fk.testBit s = false → rd T 2 (24 + 6 * s + 3) = -1)) ∧ rd T 0 28 = nI M ∧ (∀ i, i < M → rd T 14 i = nI (me i) ∧ rd T 15 i = nI (mp i)) ∧ rd T 0 3 = 0 ∧ rd T 0 4 = -1
theorem ct4 (tb : Nat) : fb_ct (fun s => tb.testBit s) 4 ≤ 4 := fb_ct_le _ 4
/-- a state that was not told: one more -/
theorem ct_sb {tb V : Nat} (hV : V < 4) (h : tb.testBit V = false) : fb_ct (fun s => (sb tb V).testBit s) 4 = fb_ct (fun s => tb.testBit s) 4 + 1 := by
  have e := fb_ct_upd (fun s => tb.testBit s) true hV
  have e2 : fb_ct (fun s => (sb tb V).testBit s) 4 = fb_ct (fun k => if k = V then true else (fun s => tb.testBit s) k) 4 := fb_ct_cong (fun k _ => by
    show (sb tb V).testBit k = _
    rw [sb_tb]
    by_cases q : k = V <;> simp [q])
  rw [e2]
  simp only [h] at e
  simpa using e
def rfX (r : Nat) (S0 S : St) : Prop := ∀ c i, c ≠ 3 → c ≠ 4 → c ≠ 5 → (c < r ∨ r + 3 < c) → rd S c i = rd S0 c i
def rfM (T0 T : St) : Prop := rdL T = rdL T0 ∧ ∀ c i, c ≠ 14 → c ≠ 15 → c ≠ 16 → (c ≠ 2 ∨ i < 24) → (c ≠ 0 ∨ (i ≠ 3 ∧ i ≠ 4 ∧ (i < 24 ∨ 28 < i) ∧ i ≠ 32 ∧ i ≠ 33)) → rd T c i = rd T0 c i
/-- both end with the same fault -/
def badF (S T : St) : Prop := ∃ k q, 1 ≤ k ∧ k ≤ 4 ∧ rd S 3 0 = nI k ∧ rd T 0 3 = nI k ∧ rd S 3 1 = nI q ∧ rd T 0 4 = nI q
