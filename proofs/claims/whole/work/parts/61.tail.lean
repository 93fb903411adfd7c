/-! ===== a line behind its first act, both ===== -/
def tailX (r : Nat) (y1 : Int32) (S : St) : Option (Int32 × St) :=
  bI (m_X3_takes 96 S) fun r14 S13 =>
    if r14 = 0 then some (0, S13)
    else if (rd S13 3 5) = 64 then some (1, S13)
    else bI (m_X9_withBit (rd S13 r 6) y1 1 S13) fun r18 S17 =>
      lt (up S17 r 6 r18) fun S19 =>
      bI (m_X3_readAct r ((2 * y1) + 1) S19) fun r21 S20 =>
      if r21 = 0 then some (0, S20)
      else bI (m_X3_takes 64 S20) fun r24 S23 => if r24 = 0 then some (0, S23) else some (1, S23)
def tailM (y3 : Int32) (S9 : St) : Option (Int32 × St) :=
  if (rd S9 0 25) = 4 then
    (if (rd S9 0 26) = 124 then bV (m_X10_take S9) fun S14 => bI (m_X10_actAt (y3 + 3) S14) fun r16 S15 => if r16 = 0 then some (0, S15) else f_X10_line_144 S15
     else f_X10_line_144 S9)
  else f_X10_line_144 S9
def tlFX (r V M : Nat) (S S' : St) : Prop := ∀ c i, c ≠ 3 → (c ≠ 4 ∨ i ≠ M) → (c ≠ 5 ∨ i ≠ M) → (c ≠ r ∨ i ≠ 6) → (c < r + 1 ∨ r + 3 < c ∨ i ≠ 2 * V + 1) → rd S' c i = rd S c i
def tlFM (V M : Nat) (T T' : St) : Prop := rdL T' = rdL T ∧ ∀ c i, (c ≠ 0 ∨ (i ≠ 3 ∧ i ≠ 4 ∧ i ≠ 24 ∧ i ≠ 25 ∧ i ≠ 26 ∧ i ≠ 27 ∧ i ≠ 28)) → (c ≠ 14 ∨ i ≠ M) → (c ≠ 15 ∨ i ≠ M) → (c ≠ 2 ∨ (i < 24 + 6 * V + 3 ∨ 24 + 6 * V + 5 < i)) → rd T' c i = rd T c i
def tlQ (w : Nat → Nat) (n r V M fk : Nat) (S T : St) (rb : Bool) (S' T' : St) : Prop := tlFX r V M S S' ∧ tlFM V M T T' ∧
  ((rb = false ∧ badF S' T') ∨
   (rb = true ∧ (∃ p', syn w n p' S' T') ∧ rd S' 3 0 = rd S 3 0 ∧ rd S' 3 1 = rd S 3 1 ∧ rd T' 0 3 = rd T 0 3 ∧ rd T' 0 4 = rd T 0 4 ∧
     ((rd S' r 6 = nI fk ∧ rd S' 3 10 = nI M ∧ rd T' 0 28 = nI M ∧ rd T' 2 (24 + 6 * V + 3) = rd T 2 (24 + 6 * V + 3)) ∨
      (rd S' r 6 = nI (sb fk V) ∧ rd S' 3 10 = nI (M + 1) ∧ rd T' 0 28 = nI (M + 1) ∧ ∃ x y z pl, x < 10 ∧ y < 3 ∧ z < 4 ∧ rd S' (r + 1) (2 * V + 1) = nI x ∧ rd S' (r + 2) (2 * V + 1) = nI y ∧ rd S' (r + 3) (2 * V + 1) = nI z ∧ rd T' 2 (24 + 6 * V + 3) = nI x ∧ rd T' 2 (24 + 6 * V + 3 + 1) = nI y ∧ rd T' 2 (24 + 6 * V + 3 + 2) = nI z ∧ rd S' 4 M = nI z ∧ rd T' 14 M = nI z ∧ rd S' 5 M = nI pl ∧ rd T' 15 M = nI pl))))
theorem l144_eq {T : St} {r : Int32} {T' : St} (h : m_X10_sign (nI 59) T = some (r, T')) (hr : r = 0 ∨ r = 1) : f_X10_line_144 T = some (r, T') := by
  unfold f_X10_line_144
  have h : m_X10_sign 59 T = some (r, T') := h
  rw [h]
  simp only [bI_some]
  unfold ckz
  rw [if_pos hr]
theorem badW_F {k q : Nat} {S T S' T' : St} (hk : 1 ≤ k ∧ k ≤ 4) (h : badW k q S T S' T') : badF S' T' := ⟨k, q, hk.1, hk.2, h⟩
theorem k96 {w : Nat → Nat} {n q : Nat} {S : St} {z : Int32 × St} (h : tkQ w n q 96 S z) : (z.1 = 1 ∧ rd z.2 3 0 = rd S 3 0 ∧ rd z.2 3 1 = rd S 3 1 ∧ ((tkK w n q = 6 ∧ rd z.2 3 5 = nI 64) ∨ (tkK w n q = 5 ∧ rd z.2 3 5 = nI 32))) ∨ (z.1 = 0 ∧ rd z.2 3 0 = nI 1 ∧ rd z.2 3 1 = nI q ∧ tkK w n q ≠ 5 ∧ tkK w n q ≠ 6) := by
  have hb := (bk_dec _ (tkK_lt w n q)).2.2.2.2.2.1
  rcases h.2 with ⟨b, y⟩ | ⟨b, y⟩
  · refine Or.inl ⟨y.1, y.2.1, y.2.2, ?_⟩
    rcases hb.mp b with u | u
    · exact Or.inr ⟨u, by rw [h.1.2.2.1, u]; rfl⟩
    · exact Or.inl ⟨u, by rw [h.1.2.2.1, u]; rfl⟩
  · exact Or.inr ⟨y.1, y.2.1, y.2.2, fun u => absurd b (hb.mpr (Or.inl u)), fun u => absurd b (hb.mpr (Or.inr u))⟩
theorem k64_6 {w : Nat → Nat} {n q : Nat} (h : tkK w n q = 6) : bitK (tkK w n q) &&& 64 ≠ 0 := by rw [h]; decide
