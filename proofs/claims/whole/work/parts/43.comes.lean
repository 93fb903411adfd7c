/-! ===== the class walks ===== -/
def coF (S0 S : St) : Prop := ∀ c i, c ≠ 25 → (c ≠ 24 ∨ i ≠ 1) → rd S c i = rd S0 c i
/-- how the class's walk ends: c its last beat -/
def coQ (en : Nat → Nat) (N ou b : Nat) (X : Nat → Nat × Nat × Nat) (S0 : St) (p : Int32 × St) : Prop :=
  ∃ c, c ≤ 1500 ∧ rd p.2 24 1 = nI c ∧ (∀ i, i ≤ c → rd p.2 25 i = nI (pkW (X i) (i % b))) ∧ (∀ i, i < c → ou.testBit (jnp en N (X i).1) = false) ∧ coF S0 p.2 ∧
    ((p.1 = 1 ∧ ou.testBit (jnp en N (X c).1) = true) ∨ (p.1 = 0 ∧ ou.testBit (jnp en N (X c).1) = false ∧ (c = 1500 ∨ ∃ i, i < c ∧ pkW (X i) (i % b) = pkW (X c) (c % b))))
theorem co_loop {S0 : St} {J P : Nat} {en ga : Nat → Nat} {ou mk sh b : Nat} (hn : gaN J P en ga ou mk sh b) (hx : gaX S0 J P en ga ou mk sh b) {r L f fk : Nat} {to : Nat → Bool} {nu de nx : Nat → Nat} (hr : ruN L f fk to nu de nx) (hrx : ruX S0 r L f fk to nu de nx) (hr1 : r = 16 ∨ r = 20) (hr2 : rs (rd S0 24 4) = r)
    {oa : Nat → Nat} (hoa : ∀ τ, τ < b → oa τ < 2 ^ 24 ∧ rd S0 26 τ = nI (oa τ)) {cl : Nat} {x0 : Nat × Nat × Nat} (h0 : okW P to x0) {X : Nat → Nat × Nat × Nat} (hX : X = sqW en (2 * P) (fun τ q => (oa τ &&& (oa τ ^^^ cl)).testBit q) fk b nu de nx x0) :
    ∀ (n t : Nat) (S : St) (rem tor : Int32), 1500 - t < n → t ≤ 1500 → rd S 24 1 = nI t → (∀ i, i < t → rd S 25 i = nI (pkW (X i) (i % b))) → (∀ i, i < t → ou.testBit (jnp en (2 * P) (X i).1) = false) → coF S0 S → (rem = -1 ∨ ∃ i, i < t ∧ rem = nI (pkW (X i) (i % b))) →
      Wp (g_X8_comesOut_29 n (nI cl) (nI (X t).1) (nI (X t).2.1) (nI (X t).2.2) (nI (t % b)) rem tor S) (coQ en (2 * P) ou b X S0) := by
  have hb := hn.2.2.2.2.1
  have hP : P ≤ 12 := hn.2.1
  have hJ : J ≤ 8 := hn.1
  have hou : ou < 2 ^ 8 := hn.2.2.2.2.2.2.1
  have hok : ∀ t, okW P to (X t) := fun t => by rw [hX]; exact sqW_ok hn hr _ h0 t
  intro n
  induction n with
  | zero => intro t S rem tor h; omega
  | succ n ih =>
    intro t S rem tor h1 h2 i1 i2 i3 i4 i5
    obtain ⟨o1, o2, o3, o4⟩ := hok t
    have hml := Nat.mod_lt t (show 0 < b by omega)
    have hpl := pkW_lt hP (hok t) (τ := t % b) (by omega)
    have hxS : gaX S J P en ga ou mk sh b := gaX_fr hx (fun c i q => i4 c i (by omega) (by omega))
    have hxS' : gaX (up S 25 t (nI (pkW (X t) (t % b)))) J P en ga ou mk sh b := gaX_fr hxS (fun c i q => rd_ne (by omega))
    have hj := (pvN hn o1).1
    show Wp (f_X8_comesOut_29 (g_X8_comesOut_29 n) _ _ _ _ _ rem tor S) _
    unfold f_X8_comesOut_29
    have hpk : ((shl (nI (X t).1) 13 ||| shl (nI (X t).2.1) 11) ||| shl (nI (X t).2.2) 3) ||| nI (t % b) = nI (pkW (X t) (t % b)) := pk_nI (by omega) o2 (by omega) (by omega)
    rw [hpk]
    simp (disch := omega) only [i1, l_1500, nI_ltI, lt, ck_nI, nI_clamp, (pvX hn hxS' o1).1, hxS'.2.2.2.1, hasBit_eq, bI_some, b2_0, rd_ne, nI_eq]
    rw [if_neg (by omega)]
    have hist : ∀ i, i ≤ t → rd (up S 25 t (nI (pkW (X t) (t % b)))) 25 i = nI (pkW (X i) (i % b)) := by
      intro i hi
      by_cases q : i = t
      · subst q; rw [rd_same]
      · rw [rd_ne (by omega)]; exact i2 i (by omega)
    have frS : coF S0 (up S 25 t (nI (pkW (X t) (t % b)))) := fun c i q1 q2 => by rw [rd_ne (by omega)]; exact i4 c i q1 q2
    by_cases c1 : ou.testBit (jnp en (2 * P) (X t).1) = true
    · rw [if_neg (by simp [c1]), Wp_some]
      exact ⟨t, h2, by rw [rd_ne (by omega)]; exact i1, hist, i3, frS, Or.inl ⟨rfl, c1⟩⟩
    · have c2 : ou.testBit (jnp en (2 * P) (X t).1) = false := by simpa using c1
      rw [if_pos c2]
      by_cases c3 : nI (pkW (X t) (t % b)) = rem
      · rw [if_pos c3, Wp_some]
        refine ⟨t, h2, by rw [rd_ne (by omega)]; exact i1, hist, i3, frS, Or.inr ⟨rfl, c2, Or.inr ?_⟩⟩
        rcases i5 with q | ⟨i, hi, q⟩
        · rw [q, nI_ne_m1 (by omega)] at c3; exact c3.elim
        · have hil := pkW_lt hP (hok i) (τ := i % b) (by have := Nat.mod_lt i (show 0 < b by omega); omega)
          rw [q, nI_eq (by omega) (by omega)] at c3
          exact ⟨i, hi, c3.symm⟩
      · rw [if_neg c3]
        by_cases c4 : t = 1500
        · rw [if_pos c4, Wp_some]
          exact ⟨t, h2, by rw [rd_ne (by omega)]; exact i1, hist, i3, frS, Or.inr ⟨rfl, c2, Or.inl c4⟩⟩
        · rw [if_neg c4]
          have key : ∀ (rem' tor' : Int32), (rem' = -1 ∨ ∃ i, i < t + 1 ∧ rem' = nI (pkW (X i) (i % b))) → Wp (f_X8_comesOut_142 (g_X8_comesOut_29 n) (nI cl) (nI (X t).1) (nI (X t).2.1) (nI (X t).2.2) (nI (t % b)) rem' tor' (nI (jnp en (2 * P) (X t).1)) (up S 25 t (nI (pkW (X t) (t % b))))) (coQ en (2 * P) ou b X S0) := by
            intro rem' tor' hrem
            generalize hSS : up S 25 t (nI (pkW (X t) (t % b))) = S' at *
            have hrx' : ruX S' r L f fk to nu de nx := ruX_fr hrx (fun c i q => frS c i (by omega) (by omega))
            have hr2' : rs (rd S' 24 4) = r := by rw [frS 24 4 (by omega) (by omega)]; exact hr2
            obtain ⟨⟨a1, a2, a3, a4⟩, a5⟩ := act_ok hr o2 o3 (X t).2.2 (jnp en (2 * P) (X t).1)
            obtain ⟨x1, x2, x3⟩ := acX_ok hrx' o2 o3 (X t).2.2 (jnp en (2 * P) (X t).1)
            have hfk : fk < 16 := hr.2.1
            obtain ⟨oa1, oa2⟩ := hoa (t % b) hml
            have oa3 : rd S' 26 (t % b) = nI (oa (t % b)) := by rw [frS 26 _ (by omega) (by omega)]; exact oa2
            have hob : oa (t % b) &&& (oa (t % b) ^^^ cl) < 2 ^ 24 := Nat.lt_of_le_of_lt Nat.and_le_left oa1
            unfold f_X8_comesOut_142
            rw [hasBit_eq S' (by omega) (by omega)]
            simp only [bI_some, hr2']
            rw [actOf_eq hr1 hrx'.2.2.1 hfk o2]
            simp only [bI_some, hr2']
            rw [mAft_eq hr1 x2 a5 a2 (by omega)]
            simp (disch := omega) only [bI_some, hr2', ck_nI, nI_clamp, x1, oa3, nI_dif]
            rw [pb_eq hn hxS' o1 a1 hob]
            simp (disch := omega) only [bI_some, hr2', x3, hxS'.2.2.2.2.2.2.1, nI_1, nI_leI, lt]
            have hXs : X (t + 1) = (trn en (2 * P) (fun q => (oa (t % b) &&& (oa (t % b) ^^^ cl)).testBit q) (X t).1 (nu (actW fk (X t).2.1 (X t).2.2 (jnp en (2 * P) (X t).1))), nx (actW fk (X t).2.1 (X t).2.2 (jnp en (2 * P) (X t).1)), mkW (de (actW fk (X t).2.1 (X t).2.2 (jnp en (2 * P) (X t).1))) (X t).2.2 (jnp en (2 * P) (X t).1)) := by rw [hX]; rfl
            have i1' : rd S' 24 1 = nI t := by rw [← hSS, rd_ne (by omega)]; exact i1
            have fin : ∀ β : Int32, β = nI ((t + 1) % b) → Wp (f_X8_comesOut_238 (g_X8_comesOut_29 n) (nI cl) (nI (X (t + 1)).1) (nI (X (t + 1)).2.1) (nI (X (t + 1)).2.2) rem' tor' β S') (coQ en (2 * P) ou b X S0) := by
              intro β hβ
              unfold f_X8_comesOut_238
              simp only [lt, i1', nI_1, hβ]
              refine ih (t + 1) _ rem' tor' (by omega) (by omega) (by rw [rd_same]) (fun i hi => ?_) (fun i hi => ?_) (fun c i q1 q2 => ?_) hrem
              · rw [rd_ne (by omega)]; exact hist i (by omega)
              · by_cases q : i = t
                · subst q; exact c2
                · exact i3 i (by omega)
              · rw [rd_ne (by omega)]; exact frS c i q1 q2
            rw [hXs] at fin
            by_cases w : b ≤ t % b + 1
            · rw [if_pos w]
              refine fin _ ?_
              have : (t + 1) % b = 0 := by rw [← Nat.mod_add_mod, show t % b + 1 = b by omega, Nat.mod_self]
              rw [this]; rfl
            · rw [if_neg w]
              refine fin _ ?_
              rw [← Nat.mod_add_mod, Nat.mod_eq_of_lt (show t % b + 1 < b by omega)]
          by_cases c5 : nI t = tor
          · rw [if_pos c5]; exact key _ _ (Or.inr ⟨t, by omega, rfl⟩)
          · rw [if_neg c5]
            refine key _ _ ?_
            rcases i5 with q | ⟨i, hi, q⟩
            · exact Or.inl q
            · exact Or.inr ⟨i, by omega, q⟩
theorem co_eq {S : St} {J P : Nat} {en ga : Nat → Nat} {ou mk sh b : Nat} (hn : gaN J P en ga ou mk sh b) (hx : gaX S J P en ga ou mk sh b) {r L f fk : Nat} {to : Nat → Bool} {nu de nx : Nat → Nat} (hr : ruN L f fk to nu de nx) (hrx : ruX S r L f fk to nu de nx) (hL : 0 < L) (hr1 : r = 16 ∨ r = 20) (hr2 : rs (rd S 24 4) = r)
    {oa : Nat → Nat} (hoa : ∀ τ, τ < b → oa τ < 2 ^ 24 ∧ rd S 26 τ = nI (oa τ)) {cl p0 m0 : Nat} (hp0 : p0 < 2 * P) (hm0 : m0 < 2 ^ 8) :
    Wp (m_X8_comesOut (nI p0) (nI m0) (nI cl) S) (coQ en (2 * P) ou b (sqW en (2 * P) (fun τ q => (oa τ &&& (oa τ ^^^ cl)).testBit q) fk b nu de nx (p0, f, m0)) S) := by
  unfold m_X8_comesOut f_X8_comesOut_0
  simp only [lt, hr2, hrx.2.1 hL]
  have h0 : okW P to (p0, f, m0) := ⟨hp0, (hr.2.2.1 hL).1, (hr.2.2.1 hL).2, hm0⟩
  have hb := hn.2.2.2.2.1
  have lp := co_loop hn hx hr hrx hr1 hr2 hoa (cl := cl) h0 rfl fuel 0 (up S 24 1 0) (-1) 0 (by unfold fuel; omega) (by omega) (by rw [rd_same]; rfl) (fun i hi => by omega) (fun i hi => by omega) (fun c i q1 q2 => by rw [rd_ne (by omega)]) (Or.inl rfl)
  rw [Nat.zero_mod] at lp
  exact lp
