/-! ===== both walks end alike ===== -/
theorem lap_loop {S : St} {h : Nat → Nat} {c : Nat} (hc : c ≤ 1500) (h1 : rd S 24 1 = nI c) (h2 : ∀ i, i ≤ c → h i < 2 ^ 31 ∧ rd S 25 i = nI (h i)) :
    (∀ n i, i < n → i ≤ c → (∀ j, j < i → h j ≠ h c) → g_X8_lap_7 n (nI i + (-1)) S = some (-1, S)) ∧ (∀ k, (∀ n i, i - k < n → k < i → i ≤ c → h k = h c → (∀ j, k < j → j < i → h j ≠ h c) → g_X8_lap_7 n (nI i + (-1)) S = some (nI (c - k), S))) := by
  constructor
  · intro n
    induction n with
    | zero => intro i q; omega
    | succ n ih =>
      intro i q1 q2 q3
      show f_X8_lap_7 (g_X8_lap_7 n) _ S = _
      unfold f_X8_lap_7
      cases i with
      | zero => rw [if_pos (by decide)]
      | succ i =>
        rw [pk_m1, if_neg (nI_pos (by omega))]
        simp (disch := omega) only [ck_nI, nI_clamp, h1, (h2 i (by omega)).2, (h2 c (by omega)).2]
        have a1 := (h2 i (by omega)).1
        have a2 := (h2 c (by omega)).1
        rw [if_neg (by rw [nI_eq a1 a2]; exact q3 i (by omega))]
        exact ih i (by omega) (by omega) (fun j hj => q3 j (by omega))
  · intro k n
    induction n with
    | zero => intro i q; omega
    | succ n ih =>
      intro i q1 q2 q3 q4 q5
      show f_X8_lap_7 (g_X8_lap_7 n) _ S = _
      unfold f_X8_lap_7
      cases i with
      | zero => omega
      | succ i =>
        rw [pk_m1, if_neg (nI_pos (by omega))]
        simp (disch := omega) only [ck_nI, nI_clamp, h1, (h2 i (by omega)).2, (h2 c (by omega)).2]
        have a1 := (h2 i (by omega)).1
        have a2 := (h2 c (by omega)).1
        by_cases w : i = k
        · subst w
          rw [if_pos (by rw [q4]), pk_sub (by omega)]
        · rw [if_neg (by rw [nI_eq a1 a2]; exact q5 i (by omega) (by omega))]
          exact ih i (by omega) (by omega) (by omega) q4 (fun j a b => q5 j a (by omega))
theorem lead_loop {S : St} {h : Nat → Nat} {c lm k : Nat} (hc : c ≤ 1500) (h1 : rd S 24 1 = nI c) (h2 : ∀ i, i ≤ c → h i < 2 ^ 31 ∧ rd S 25 i = nI (h i)) (hk : k + lm ≤ c) (hk2 : h k = h (k + lm)) (hk3 : ∀ j, j < k → h j ≠ h (j + lm)) :
    ∀ n i, k - i < n → i ≤ k → g_X8_lead_2 n (nI lm) (nI i) S = some (nI k, S) := by
  intro n
  induction n with
  | zero => intro i q; omega
  | succ n ih =>
    intro i q1 q2
    have a1 := (h2 i (by omega)).1
    have a2 := (h2 (i + lm) (by omega)).1
    show f_X8_lead_2 (g_X8_lead_2 n) _ _ S = _
    unfold f_X8_lead_2
    simp (disch := omega) only [h1, nI_add, nI_ltI, ck_nI, nI_clamp, (h2 i (by omega)).2, (h2 (i + lm) (by omega)).2]
    rw [if_neg (by omega)]
    by_cases w : i = k
    · subst w; rw [if_pos (by rw [hk2])]
    · rw [if_neg (by rw [nI_eq a1 a2]; exact hk3 i (by omega))]
      simp only [lt, nI_1]
      exact ih (i + 1) (by omega) (by omega)
section Both
variable {J P : Nat} {en ga : Nat → Nat} {ou mk sh b : Nat} {L f fk : Nat} {to : Nat → Bool} {nu de nx : Nat → Nat} {op : Nat → Nat → Bool} {x0 : Nat × Nat × Nat}
theorem hv_sam (hn : gaN J P en ga ou mk sh b) (hr : ruN L f fk to nu de nx) (h0 : okW P to x0) {i j : Nat} : hvW (sqW en (2 * P) op fk b nu de nx x0 i) (i % b) = hvW (sqW en (2 * P) op fk b nu de nx x0 j) (j % b) ↔ samW (sqW en (2 * P) op fk b nu de nx x0) b i j := by
  have hb := hn.2.2.2.2.1
  have m1 := Nat.mod_lt i (show 0 < b by omega)
  have m2 := Nat.mod_lt j (show 0 < b by omega)
  constructor
  · intro h; exact hvW_inj hn.2.1 (sqW_ok hn hr op h0 i) (sqW_ok hn hr op h0 j) (by omega) (by omega) h
  · intro h; rw [h.1, h.2]
theorem pk_sam (hn : gaN J P en ga ou mk sh b) (hr : ruN L f fk to nu de nx) (h0 : okW P to x0) {i j : Nat} : pkW (sqW en (2 * P) op fk b nu de nx x0 i) (i % b) = pkW (sqW en (2 * P) op fk b nu de nx x0 j) (j % b) ↔ samW (sqW en (2 * P) op fk b nu de nx x0) b i j := by
  have hb := hn.2.2.2.2.1
  have m1 := Nat.mod_lt i (show 0 < b by omega)
  have m2 := Nat.mod_lt j (show 0 < b by omega)
  constructor
  · intro h; exact pkW_inj (sqW_ok hn hr op h0 i) (sqW_ok hn hr op h0 j) (by omega) (by omega) h
  · intro h; rw [h.1, h.2]
/-- out or not, both say the same -/
theorem both_out (hn : gaN J P en ga ou mk sh b) (hr : ruN L f fk to nu de nx) (h0 : okW P to x0) {S0 : St} {p : Int32 × St} (hc : coQ en (2 * P) ou b (sqW en (2 * P) op fk b nu de nx x0) S0 p) {r : Int32} {T : St} (hg : goE en (2 * P) ou b (sqW en (2 * P) op fk b nu de nx x0) r T) : (p.1 = 1 ∧ r = 0) ∨ (p.1 = 0 ∧ (r = 1 ∨ r = 2)) := by
  obtain ⟨c, c1, c2, c3, c4, c5, c6⟩ := hc
  obtain ⟨d, d1, d2, d3, d4, d5⟩ := hg
  generalize hX : sqW en (2 * P) op fk b nu de nx x0 = X at *
  have never : ∀ e, (∀ i, i < e → ou.testBit (jnp en (2 * P) (X i).1) = false) → ou.testBit (jnp en (2 * P) (X e).1) = false → (e = 1500 ∨ ∃ i, i < e ∧ samW X b i e) → ∀ t, t ≤ 1500 → ou.testBit (jnp en (2 * P) (X t).1) = false := by
    intro e e1 e2 e3 t ht
    rcases e3 with e3 | ⟨i, hi, e3⟩
    · by_cases q : t = e
      · rw [q]; exact e2
      · exact e1 t (by omega)
    · rw [← hX] at e3
      have := sam_not e3 hi (out := fun x => ou.testBit (jnp en (2 * P) x.1) = true) (fun t ht => by
        rw [hX]
        by_cases q : t = e
        · rw [q, e2]; decide
        · rw [e1 t (by omega)]; decide) t
      rw [hX] at this
      simpa using this
  rcases c6 with ⟨k1, k2⟩ | ⟨k1, k2, k3⟩
  · refine Or.inl ⟨k1, ?_⟩
    rcases d5 with ⟨w, _⟩ | ⟨w, w2, i, w3, w4, _⟩ | ⟨w, w2, w3, _⟩
    · exact w
    · have := never d d3 w2 (Or.inr ⟨i, w3, by rw [← hX]; rw [← hX] at w4; exact (hv_sam hn hr h0).mp w4⟩) c c1
      rw [this] at k2; cases k2
    · have := never d d3 w3 (Or.inl w2) c c1
      rw [this] at k2; cases k2
  · refine Or.inr ⟨k1, ?_⟩
    have hno := never c c4 k2 (by
      rcases k3 with q | ⟨i, hi, q⟩
      · exact Or.inl q
      · exact Or.inr ⟨i, hi, by rw [← hX]; rw [← hX] at q; exact (pk_sam hn hr h0).mp q⟩)
    rcases d5 with ⟨w, w2, _⟩ | ⟨w, _⟩ | ⟨w, _⟩
    · rw [hno d d1] at w2; cases w2
    · exact Or.inl w
    · exact Or.inr w
/-- no lap is shorter than the first -/
theorem no_short {X : Nat → Nat × Nat × Nat} (hXd : ∀ i j, samW X b i j → ∀ d, samW X b (i + d) (j + d)) {μ ρ : Nat} (hμ : μ < ρ) (h1 : samW X b μ ρ) (hd : ∀ i j, i < j → j < ρ → ¬ samW X b i j) : ∀ c j, j < c → c < j + (ρ - μ) → ¬ samW X b j c := by
  intro c
  induction c using Nat.strongRecOn with
  | _ c ih =>
    intro j q1 q2 hs
    by_cases w : c < ρ
    · exact hd j c q1 w hs
    · have e := hXd μ ρ h1 (c - ρ)
      rw [show ρ + (c - ρ) = c by omega] at e
      refine ih j q1 (μ + (c - ρ)) (by omega) (by omega) ?_
      exact ⟨e.1.trans hs.1.symm, e.2.trans hs.2.symm⟩
theorem dec_1 {x : Nat × Nat × Nat} {τ : Nat} (hx : okW P to x) (hP : P ≤ 12) (ht : τ < 8) : ush (nI (pkW x τ)) 13 = nI x.1 ∧ ush (nI (pkW x τ)) 11 &&& 3 = nI x.2.1 ∧ ush (nI (pkW x τ)) 3 &&& 255 = nI x.2.2 := by
  have hl := pkW_lt hP hx ht
  obtain ⟨x1, x2, x3, x4⟩ := hx
  rw [l_13, l_11, l_3, ush_nI (by omega) (by omega), ush_nI (by omega) (by omega), ush_nI (by omega) (by omega)]
  refine ⟨?_, ?_, ?_⟩
  · congr 1; unfold pkW; omega
  · have := fa_mask (pkW x τ / 2 ^ 11) 2
    rw [show (2 ^ 2 - 1 : Nat) = 3 from rfl] at this
    rw [this]; congr 1; unfold pkW; omega
  · have := fa_mask (pkW x τ / 2 ^ 3) 8
    rw [show (2 ^ 8 - 1 : Nat) = 255 from rfl] at this
    rw [show (255 : Int32) = nI 255 from rfl, this]; congr 1; unfold pkW; omega
theorem take_70 {S : St} {x : Nat × Nat × Nat} {τ : Nat} (hx : okW P to x) (hP : P ≤ 12) (ht : τ < 8) (x2 x3 x4 s0 : Int32) : f_X4_take_70 x2 x3 x4 (nI (pkW x τ)) s0 S = some (if x2 = 0 then (if x3 = -1 then 2 else 1) else 0, up (up (up (up (up (up S 28 0 s0) 28 1 x4) 28 2 x3) 28 3 (nI x.1)) 28 4 (nI x.2.1)) 28 5 (nI (fb_ct (fun k => x.2.2.testBit k) 8))) := by
  obtain ⟨d1, d2, d3⟩ := dec_1 hx hP ht
  unfold f_X4_take_70
  rw [d1, d2, d3]
  simp only [lt]
  rw [pop_eq _ hx.2.2.2]
  simp only [bI_some]
  have z : ∀ n : Nat, True := fun _ => trivial
  by_cases w : x2 = 0
  · rw [if_pos w, if_pos w]
    by_cases u : x3 = -1
    · rw [if_pos u, if_pos u]; rfl
    · rw [if_neg u, if_neg u]; rfl
  · rw [if_neg w, if_neg w]; rfl
theorem rep_eq (hn : gaN J P en ga ou mk sh b) (hr : ruN L f fk to nu de nx) (h0 : okW P to x0) {S0 : St} {p : Int32 × St} (hc : coQ en (2 * P) ou b (sqW en (2 * P) op fk b nu de nx x0) S0 p) {r : Int32} {T : St} (hg : goE en (2 * P) ou b (sqW en (2 * P) op fk b nu de nx x0) r T) :
    ∃ (S1 : St) (m : Nat), m_X4_take p.1 p.2 = some (r, S1) ∧ (∀ c i, c ≠ 28 → rd S1 c i = rd p.2 c i) ∧ rd S1 28 0 = (if r = 0 then rd T 0 39 else -1) ∧ rd S1 28 1 = rd T 0 40 ∧ rd S1 28 2 = rd T 0 41 ∧ rd S1 28 3 = rd T 0 37 ∧ rd S1 28 4 = rd T 0 38 ∧ rd S1 28 5 = nI (fb_ct (fun k => m.testBit k) 8) ∧ (∀ j, j < 8 → rd T 19 j = b2 (m.testBit j)) := by
  have hb := hn.2.2.2.2.1
  have hP : P ≤ 12 := hn.2.1
  have hbo := both_out hn hr h0 hc hg
  have hok := sqW_ok hn hr op h0 (b := b)
  obtain ⟨c, c1, c2, c3, c4, c5, c6⟩ := hc
  obtain ⟨d, d1, ⟨g1, g2, g3, g4⟩, d3, d4, d5⟩ := hg
  have hsam := @hv_sam J P en ga ou mk sh b L f fk to nu de nx op x0 hn hr h0
  have psam := @pk_sam J P en ga ou mk sh b L f fk to nu de nx op x0 hn hr h0
  have hXd : ∀ i j, samW (sqW en (2 * P) op fk b nu de nx x0) b i j → ∀ d, samW (sqW en (2 * P) op fk b nu de nx x0) b (i + d) (j + d) := fun i j q => sam_d q
  generalize hX : sqW en (2 * P) op fk b nu de nx x0 = X at *
  have hml : ∀ i, i % b < 8 := fun i => by have := Nat.mod_lt i (show 0 < b by omega); omega
  have h2 : ∀ i, i ≤ c → pkW (X i) (i % b) < 2 ^ 31 ∧ rd p.2 25 i = nI (pkW (X i) (i % b)) := fun i hi => ⟨by have := pkW_lt hP (hok i) (hml i); omega, c3 i hi⟩
  have done : ∀ (q : Nat) (s0 x4 x3 : Int32), X q = X d → (if p.1 = 0 then (if x3 = -1 then (2 : Int32) else 1) else 0) = r → s0 = (if r = 0 then rd T 0 39 else -1) → x4 = rd T 0 40 → x3 = rd T 0 41 → ∃ (S1 : St) (m : Nat), f_X4_take_70 p.1 x3 x4 (nI (pkW (X q) (q % b))) s0 p.2 = some (r, S1) ∧ (∀ c i, c ≠ 28 → rd S1 c i = rd p.2 c i) ∧ rd S1 28 0 = (if r = 0 then rd T 0 39 else -1) ∧ rd S1 28 1 = rd T 0 40 ∧ rd S1 28 2 = rd T 0 41 ∧ rd S1 28 3 = rd T 0 37 ∧ rd S1 28 4 = rd T 0 38 ∧ rd S1 28 5 = nI (fb_ct (fun k => m.testBit k) 8) ∧ (∀ j, j < 8 → rd T 19 j = b2 (m.testBit j)) := by
    intro q s0 x4 x3 hq hrr e0 e4 e3
    have e := take_70 (S := p.2) (hok q) hP (hml q) p.1 x3 x4 s0
    rw [hrr] at e
    refine ⟨_, (X d).2.2, e, fun c i w => ?_, ?_, ?_, ?_, ?_, ?_, ?_, g4⟩
    · simp (disch := omega) only [rd_ne]
    · simp (disch := omega) only [rd_ne, rd_same]; exact e0
    · simp (disch := omega) only [rd_ne, rd_same]; exact e4
    · simp (disch := omega) only [rd_ne, rd_same]; exact e3
    · simp (disch := omega) only [rd_ne, rd_same]; rw [g1, hq]
    · simp (disch := omega) only [rd_ne, rd_same]; rw [g2, hq]
    · simp (disch := omega) only [rd_same]; rw [hq]
  rcases hbo with ⟨o1, o2⟩ | ⟨o1, o2⟩
  · -- out
    have hcd : c = d ∧ rd T 0 40 = -1 ∧ rd T 0 41 = -1 := by
      rcases c6 with ⟨k1, k2⟩ | ⟨k1, k2, k3⟩
      · rcases d5 with ⟨w, w2, w3, w4⟩ | ⟨w, _⟩ | ⟨w, _⟩
        · refine ⟨?_, w3, w4⟩
          rcases Nat.lt_trichotomy c d with q | q | q
          · rw [d3 c q] at k2; cases k2
          · exact q
          · rw [c4 d q] at w2; cases w2
        · rw [o2] at w; exact absurd w (by decide)
        · rw [o2] at w; exact absurd w (by decide)
      · rw [o1] at k1; exact absurd k1 (by decide)
    obtain ⟨rfl, e40, e41⟩ := hcd
    have hne : ¬ p.1 = 0 := by rw [o1]; decide
    have e1 : m_X4_take p.1 p.2 = f_X4_take_70 p.1 (-1) (-1) (nI (pkW (X c) (c % b))) (nI c) p.2 := by
      unfold m_X4_take f_X4_take_0 f_X4_take_12 f_X4_take_27 f_X4_take_44
      rw [if_neg hne, if_pos rfl, if_pos rfl, c2]
      simp (disch := omega) only [ck_nI, nI_clamp, lt, c3 c (Nat.le_refl _)]
      rw [if_neg hne]
    rw [e1]
    refine done c _ _ _ rfl ?_ ?_ e40.symm e41.symm
    · rw [if_neg hne, o2]
    · rw [if_pos o2, g3]
  · -- not out
    have hz : p.1 = 0 := o1
    have k3 : c = 1500 ∨ ∃ i, i < c ∧ pkW (X i) (i % b) = pkW (X c) (c % b) := by
      rcases c6 with ⟨k1, k2⟩ | ⟨k1, k2, k3⟩
      · rw [hz] at k1; exact absurd k1 (by decide)
      · exact k3
    have hne0 : ¬ r = 0 := by rcases o2 with w | w <;> rw [w] <;> decide
    rcases d5 with ⟨w, _⟩ | ⟨w, w2, i, w3, w4, w5, w6⟩ | ⟨w, w2, w3, w4, w5, w6⟩
    · exact absurd w hne0
    · -- round
      have s1 : samW X b i d := hsam.mp w4
      have hd : ∀ i j, i < j → j < d → ¬ samW X b i j := fun i j a1 a2 a3 => d4 i j a1 a2 (hsam.mpr a3)
      have hcd : d ≤ c := by
        rcases k3 with q | ⟨j, hj, q⟩
        · omega
        · rcases Nat.lt_or_ge c d with u | u
          · exact absurd (psam.mp q) (hd j c hj u)
          · exact u
      have sC := hXd i d s1 (c - d)
      rw [show d + (c - d) = c by omega] at sC
      have eL : m_X8_lap p.2 = some (nI (d - i), p.2) := by
        unfold m_X8_lap f_X8_lap_0
        have e := (lap_loop c1 c2 h2).2 (i + (c - d)) fuel c (by unfold fuel; omega) (by omega) (Nat.le_refl _) (psam.mpr sC) (fun j a1 a2 a3 => no_short hXd w3 s1 hd c j a2 (by omega) (psam.mp a3))
        rw [show c - (i + (c - d)) = d - i by omega] at e
        simp only [lt, c2]
        rw [show nI c - 1 = nI c + (-1) by rw [Int32.sub_eq_add_neg]]
        exact e
      have eD : m_X8_lead (nI (d - i)) p.2 = some (nI i, p.2) := by
        unfold m_X8_lead f_X8_lead_0
        exact lead_loop c1 c2 h2 (show i + (d - i) ≤ c by omega) (by rw [show i + (d - i) = d by omega]; exact psam.mpr s1) (fun j hj a => hd j (j + (d - i)) (by omega) (by omega) (psam.mp a)) fuel 0 (by unfold fuel; omega) (by omega)
      have m1f : ∀ x : Nat, x < 2 ^ 31 → ¬ nI x = -1 := fun x hx q => (nI_ne_m1 hx).mp q
      have e1 : m_X4_take p.1 p.2 = f_X4_take_70 p.1 (nI (d - i)) (nI i) (nI (pkW (X i) (i % b))) (-1) p.2 := by
        unfold m_X4_take f_X4_take_0 f_X4_take_12
        rw [if_pos hz, eL]
        simp only [bI_some]
        rw [if_neg (m1f _ (by omega)), eD]
        simp only [bI_some]
        unfold f_X4_take_27 f_X4_take_44
        rw [if_neg (m1f _ (by omega))]
        simp (disch := omega) only [ck_nI, nI_clamp, lt, c3 i (by omega)]
        rw [if_pos hz]
      rw [e1]
      refine done i _ _ _ s1.1 ?_ ?_ w5.symm w6.symm
      · rw [if_pos hz, if_neg (m1f _ (by omega)), w]
      · rw [if_neg hne0]
    · -- spent
      have hcd : c = 1500 := by
        rcases k3 with q | ⟨j, hj, q⟩
        · exact q
        · rcases Nat.lt_or_ge c d with u | u
          · exact absurd (hsam.mpr (psam.mp q)) (d4 j c hj u)
          · omega
      have hall : ∀ j, j < c → pkW (X j) (j % b) ≠ pkW (X c) (c % b) := fun j hj a => by
        have := w4 j (by omega)
        rw [show d = c by omega] at this
        exact this (hsam.mpr (psam.mp a))
      have eL : m_X8_lap p.2 = some (-1, p.2) := by
        unfold m_X8_lap f_X8_lap_0
        have e := (lap_loop c1 c2 h2).1 fuel c (by unfold fuel; omega) (Nat.le_refl _) hall
        simp only [lt, c2]
        rw [show nI c - 1 = nI c + (-1) by rw [Int32.sub_eq_add_neg]]
        exact e
      have e1 : m_X4_take p.1 p.2 = f_X4_take_70 p.1 (-1) (-1) (nI (pkW (X c) (c % b))) (-1) p.2 := by
        unfold m_X4_take f_X4_take_0 f_X4_take_12
        rw [if_pos hz, eL]
        simp only [bI_some]
        unfold f_X4_take_27 f_X4_take_44
        simp (disch := omega) only [if_true, c2, ck_nI, nI_clamp, lt, c3 c (Nat.le_refl _)]
        rw [if_pos hz]
      rw [e1]
      refine done c _ _ _ (by rw [show d = c by omega]) ?_ ?_ w5.symm w6.symm
      · rw [if_pos hz, if_pos rfl, w]
      · rw [if_neg hne0]
end Both
