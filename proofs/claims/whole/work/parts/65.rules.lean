/-! ===== rules ===== -/
theorem lt_v {α β : Type} (v : α) (f : α → Option β) : lt v f = f v := id rfl
theorem fnd_both {r M tb : Nat} {me mp : Nat → Nat} {S T : St} (hr : r = 16 ∨ r = 20) (htb : tb < 16) (hM : M ≤ 8) (h10 : rd S 3 10 = nI M) (h5 : rd S r 5 = nI tb) (hi : ∀ i, i < M → me i < 4 ∧ rd S 4 i = nI (me i) ∧ rd S 5 i = nI (mp i)) (h28 : rd T 0 28 = nI M) (hT : ∀ i, i < M → rd T 14 i = nI (me i) ∧ rd T 15 i = nI (mp i)) (h16 : ∀ s, s < 4 → rd T 16 s = b2 (tb.testBit s)) {X : Option (Int32 × St)} (hX : g_X10_rules_160 fuel 0 (up (up T 0 5 (rd T 0 32)) 0 6 (rd (up T 0 5 (rd T 0 32)) 0 33)) = X) :
    ∀ m i, M - i < m → i ≤ M → ((∀ j, i ≤ j → j < M → tb.testBit (me j) = true) ∧ g_X3_findNotTold_2 m r (nI i) S = some S ∧ g_X10_rules_97 m (nI i) T = X) ∨ (∃ q, g_X3_findNotTold_2 m r (nI i) S = some (up (up S 3 0 (nI 4)) 3 1 (nI q)) ∧ g_X10_rules_97 m (nI i) T = some (-1, up (up T 0 3 (nI 4)) 0 4 (nI q))) := by
  intro m
  induction m with
  | zero => intro i h; omega
  | succ m ih =>
    intro i h1 h2
    rw [show g_X3_findNotTold_2 (m + 1) = f_X3_findNotTold_2 (g_X3_findNotTold_2 m) from rfl, show g_X10_rules_97 (m + 1) = f_X10_rules_97 (g_X10_rules_97 m) from rfl]
    unfold f_X3_findNotTold_2 f_X10_rules_97
    simp only [h10, h28, lt_v]
    by_cases c : M ≤ i
    · rw [if_pos ((nI_leI (by omega) (by omega)).mpr c), if_pos ((nI_leI (by omega) (by omega)).mpr c)]
      exact Or.inl ⟨fun j _ _ => by omega, rfl, hX⟩
    · have e : ¬ nI M ≤ nI i := fun u => c ((nI_leI (by omega) (by omega)).mp u)
      rw [if_neg e, if_neg e]
      obtain ⟨a1, a2, a3⟩ := hi i (by omega)
      obtain ⟨a4, a5⟩ := hT i (by omega)
      rw [show ∀ k : Option St, ckr r k = k from fun k => if_pos hr]
      simp (disch := omega) only [ck_nI, nI_clamp, h5, a2, a3, a4, a5, hasBit_eq, bI_some, h16 (me i) a1]
      cases q : tb.testBit (me i)
      · rw [if_pos b2_f, if_pos b2_f]
        refine Or.inr ⟨mp i, ?_, ?_⟩
        · unfold m_X3_fail f_X3_fail_0
          simp only [lt, bV_some]; rfl
        · rw [wrong_eq]
          simp only [bI_some]; rfl
      · rw [if_neg (by decide), if_neg (by decide), nI_1]
        rcases ih (i + 1) (by omega) (by omega) with ⟨b1, b2', b3⟩ | b
        · refine Or.inl ⟨fun j u1 u2 => ?_, b2', b3⟩
          by_cases v : j = i
          · rw [v]; exact q
          · exact b1 j (by omega) u2
        · exact Or.inr b
theorem cpy160 : ∀ m i (T : St), 24 - i < m → i ≤ 24 → ∃ T', g_X10_rules_160 m (nI i) T = some (rd T 0 5, T') ∧ rdL T' = rdL T ∧ (∀ k, i ≤ k → k < 24 → rd T' 2 k = rd T 2 (24 + k)) ∧ ∀ c j, (c ≠ 2 ∨ j < i ∨ 24 ≤ j) → rd T' c j = rd T c j := by
  intro m
  induction m with
  | zero => intro i T h; omega
  | succ m ih =>
    intro i T h1 h2
    show ∃ T', f_X10_rules_160 (g_X10_rules_160 m) (nI i) T = _ ∧ _
    unfold f_X10_rules_160
    simp (disch := omega) only [l_24, nI_leI, nI_add, ck_nI, nI_clamp, lt, nI_1]
    by_cases c : 24 ≤ i
    · rw [if_pos c]
      exact ⟨T, rfl, rfl, fun k _ _ => by omega, fun _ _ _ => rfl⟩
    · rw [if_neg c]
      obtain ⟨T', t1, t2, t3, t4⟩ := ih (i + 1) (up T 2 i (rd T 2 (24 + i))) (by omega) (by omega)
      refine ⟨T', ?_, t2, fun k u1 u2 => ?_, fun c j u => ?_⟩
      · rw [t1, rd_ne (by omega)]
      · by_cases v : k = i
        · subst v
          rw [t4 2 k (by omega), rd_same]
        · rw [t3 k (by omega) u2, rd_ne (by omega)]
      · rw [t4 c j (by omega), rd_ne (by omega)]
def rgM (T0 T : St) : Prop := rdL T = rdL T0 ∧ ∀ c i, c ≠ 2 → c ≠ 14 → c ≠ 15 → c ≠ 16 → (c ≠ 0 ∨ (i < 3 ∨ 6 < i) ∧ (i < 24 ∨ 28 < i) ∧ i ≠ 32 ∧ i ≠ 33) → rd T c i = rd T0 c i
def keM (T0 T : St) : Prop := rd T 0 5 = rd T0 0 5 ∧ rd T 0 6 = rd T0 0 6 ∧ ∀ i, i < 24 → rd T 2 i = rd T0 2 i
def rlQ (r : Nat) (S T : St) (a : Int32) (S' T' : St) : Prop := rfX r S S' ∧ rgM T T' ∧ ((a = -1 ∧ badF S' T' ∧ keM T T') ∨
  (∃ (L f fk : Nat) (to : Nat → Bool) (nu de nx : Nat → Nat), a = nI L ∧ rd S' 3 0 = 0 ∧ rd S' 3 1 = -1 ∧ rd T' 0 3 = 0 ∧ rd T' 0 4 = -1 ∧ ruN L f fk to nu de nx ∧ ruX S' r L f fk to nu de nx ∧ ruM T' L f fk to nu de nx))
theorem rfM_rg {T0 T : St} (h : rfM T0 T) : rgM T0 T ∧ keM T0 T := ⟨⟨h.1, fun c i u1 u2 u3 u4 u5 => h.2 c i u2 u3 u4 (by omega) (by omega)⟩, h.2 0 5 (by omega) (by omega) (by omega) (by omega) (by omega), h.2 0 6 (by omega) (by omega) (by omega) (by omega) (by omega), fun i hi => h.2 2 i (by omega) (by omega) (by omega) (by omega) (by omega)⟩
theorem rgM_tr {A B C : St} (h1 : rgM A B) (h2 : rgM B C) : rgM A C := ⟨h2.1.trans h1.1, fun c i u1 u2 u3 u4 u5 => (h2.2 c i u1 u2 u3 u4 u5).trans (h1.2 c i u1 u2 u3 u4 u5)⟩
theorem keM_tr {A B C : St} (h1 : keM A B) (h2 : keM B C) : keM A C := ⟨h2.1.trans h1.1, h2.2.1.trans h1.2.1, fun i hi => (h2.2.2 i hi).trans (h1.2.2 i hi)⟩
theorem rfX_tr {r : Nat} {A B C : St} (h1 : rfX r A B) (h2 : rfX r B C) : rfX r A C := fun c i u1 u2 u3 u4 => (h2 c i u1 u2 u3 u4).trans (h1 c i u1 u2 u3 u4)
/-- the text is at its end -/
theorem end_both {w : Nat → Nat} {n p r L f tb fk : Nat} {nu de nx : Nat → Nat} {M : Nat} {me mp : Nat → Nat} {S T S1 : St} (hr : r = 16 ∨ r = 20) (hN : rdN L f tb fk nu de nx M me) (hX : rdX S r L f tb fk nu de nx M me mp) (hM : rdM T L f tb fk nu de nx M me mp)
    (x0 : rd S1 3 0 = rd S 3 0) (x1 : rd S1 3 1 = rd S 3 1) (x5 : ∀ c i, (c ≠ 3 ∨ (i ≠ 0 ∧ i ≠ 1 ∧ i ≠ 4 ∧ i ≠ 5 ∧ i ≠ 6 ∧ i ≠ 7)) → rd S1 c i = rd S c i) :
    ∃ S' a T', f_X3_read_77 r S1 = some S' ∧ g_X10_rules_97 fuel 0 T = some (a, T') ∧ rlQ r S T a S' T' := by
  have hr' : 16 ≤ r ∧ r ≤ 20 := by omega
  obtain ⟨h1, h3, h4, h5, h6, h7, h8, h9, h10⟩ := hN
  obtain ⟨n1, n2, n3, n4, n5, n6, n7, n8, n9⟩ := hX
  obtain ⟨q1, q2, q3, q4, q5, q6, q7, q8⟩ := hM
  have hL4 : L ≤ 4 := by rw [h1]; exact ct4 tb
  have frX : ∀ c i, c ≠ 3 → rd S1 c i = rd S c i := fun c i u => x5 c i (Or.inl u)
  unfold f_X3_read_77
  rw [x0, n8, if_pos rfl]
  unfold m_X3_findNotTold f_X3_findNotTold_0
  rcases fnd_both (S := S1) (T := T) (M := M) (tb := tb) (me := me) (mp := mp) hr h3 (by omega) (by rw [x5 3 10 (by decide)]; exact n6) (by rw [frX r 5 (by omega)]; exact n3) (fun i hi => ⟨h8 i hi, by rw [frX 4 i (by decide)]; exact (n7 i hi).1, by rw [frX 5 i (by decide)]; exact (n7 i hi).2⟩) q5 q6 q3 rfl fuel 0 (by unfold fuel; omega) (by omega) with ⟨b1, b2', b3⟩ | ⟨q, b2', b3⟩
  · have b2' : g_X3_findNotTold_2 fuel r 0 S1 = some S1 := b2'
    have b3 : g_X10_rules_97 fuel 0 T = _ := b3
    rw [b2', b3]
    simp only [bV_some]
    obtain ⟨T', t1, t2, t3, t4⟩ := cpy160 fuel 0 (up (up T 0 5 (rd T 0 32)) 0 6 (rd (up T 0 5 (rd T 0 32)) 0 33)) (by unfold fuel; omega) (by omega)
    have t1 : g_X10_rules_160 fuel 0 _ = some (_, T') := t1
    refine ⟨S1, _, T', rfl, t1, fun c i u1 u2 u3 u4 => frX c i u1, ⟨t2, fun c i u1 u2 u3 u4 u5 => ?_⟩, Or.inr ⟨L, f, fk, fun s => tb.testBit s, nu, de, nx, ?_, ?_, ?_, ?_, ?_, ⟨hL4, h4, h5, fun s hs ht => ?_⟩, ⟨?_, fun u => ?_, ?_, fun s hs ht => ?_⟩, ⟨?_, fun u => ?_, fun s hs ht => ?_⟩⟩⟩
    · rw [t4 c i (by omega), rd_ne (by omega), rd_ne (by omega)]
    · rw [rd_ne (by omega), rd_same]; exact q1
    · rw [x0]; exact n8
    · rw [x1]; exact n9
    · rw [t4 0 3 (by omega), rd_ne (by omega), rd_ne (by omega)]; exact q7
    · rw [t4 0 4 (by omega), rd_ne (by omega), rd_ne (by omega)]; exact q8
    · have a1 := h6 s hs ht
      have a2 := h9 s hs ht
      refine ⟨⟨a1.1.1, a1.1.2.1, a1.1.2.2, ?_⟩, fun u => ⟨(a1.2 u).1, (a1.2 u).2.1, (a1.2 u).2.2, ?_⟩⟩
      · obtain ⟨i, i1, i2⟩ := a2.1
        show tb.testBit (nx (2 * s)) = true
        rw [← i2]; exact b1 i (by omega) i1
      · obtain ⟨i, i1, i2⟩ := a2.2 u
        show tb.testBit (nx (2 * s + 1)) = true
        rw [← i2]; exact b1 i (by omega) i1
    · rw [frX r 3 (by omega)]; exact n1
    · rw [frX r 4 (by omega)]; exact n2 u
    · rw [frX r 6 (by omega)]; exact n4
    · have a := n5 s hs ht
      unfold acX at *
      rw [frX (r + 1) _ (by omega), frX (r + 2) _ (by omega), frX (r + 3) _ (by omega), frX (r + 1) _ (by omega), frX (r + 2) _ (by omega), frX (r + 3) _ (by omega)]
      exact a
    · rw [t4 0 5 (by omega), rd_ne (by omega), rd_same]; exact q1
    · rw [t4 0 6 (by omega), rd_same, rd_ne (by omega)]; exact q2 u
    · have a := q4 s hs ht
      have k : ∀ d, d < 6 → rd T' 2 (6 * s + d) = rd T 2 (24 + 6 * s + d) := fun d hd => by
        rw [t3 (6 * s + d) (by omega) (by omega), rd_ne (by omega), rd_ne (by omega), Nat.add_assoc]
      unfold acM at *
      have k0 := k 0 (by omega)
      have k1 := k 1 (by omega)
      have k2 := k 2 (by omega)
      have k3 := k 3 (by omega)
      have k4 := k 4 (by omega)
      have k5 := k 5 (by omega)
      rw [show 6 * s + 3 + 1 = 6 * s + 4 by omega, show 6 * s + 3 + 2 = 6 * s + 5 by omega, show 6 * s = 6 * s + 0 by omega, k0, k3, k1, k2, k4, k5]
      exact a
  · have b2' : g_X3_findNotTold_2 fuel r 0 S1 = _ := b2'
    have b3 : g_X10_rules_97 fuel 0 T = _ := b3
    rw [b2', b3]
    simp only [bV_some]
    refine ⟨_, _, _, rfl, rfl, fun c i u1 u2 u3 u4 => ?_, ⟨rfl, fun c i u1 u2 u3 u4 u5 => ?_⟩, Or.inl ⟨rfl, ⟨4, q, by decide, by decide, ?_, ?_, ?_, ?_⟩, ?_, ?_, fun i hi => ?_⟩⟩
    · rw [rd_ne (by omega), rd_ne (by omega), frX c i u1]
    · rw [rd_ne (by omega), rd_ne (by omega)]
    · rw [rd_ne (by omega), rd_same]
    · rw [rd_ne (by omega), rd_same]
    · rw [rd_same]
    · rw [rd_same]
    · rw [rd_ne (by omega), rd_ne (by omega)]
    · rw [rd_ne (by omega), rd_ne (by omega)]
    · rw [rd_ne (by omega), rd_ne (by omega)]
