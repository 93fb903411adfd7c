/-! ===== the reference walks ===== -/
def rvb (m : Nat) : Nat → Nat
  | 0 => 0
  | j + 1 => 2 * rvb m j + (m.testBit j).toNat
theorem rvb_lt (m : Nat) : ∀ j, rvb m j < 2 ^ j
  | 0 => by simp [rvb]
  | j + 1 => by
    have := rvb_lt m j
    have h2 : (m.testBit j).toNat ≤ 1 := Bool.toNat_le _
    show 2 * rvb m j + (m.testBit j).toNat < 2 ^ (j + 1)
    rw [Nat.pow_succ]; omega
theorem rvb_rvb : ∀ m, m < 256 → rvb (rvb m 8) 8 = m := by decide +kernel
def hvW (x : Nat × Nat × Nat) (τ : Nat) : Nat := ((rvb x.2.2 8 * 24 + x.1) * 4 + x.2.1) * 8 + τ
theorem hvW_lt {P : Nat} (hP : P ≤ 12) {to : Nat → Bool} {x : Nat × Nat × Nat} {τ : Nat} (hx : okW P to x) (h1 : τ < 8) : hvW x τ < 196608 := by
  obtain ⟨x1, x2, x3, x4⟩ := hx
  have := rvb_lt x.2.2 8
  unfold hvW
  omega
theorem hvW_inj {P : Nat} (hP : P ≤ 12) {to : Nat → Bool} {x y : Nat × Nat × Nat} {τ σ : Nat} (hx : okW P to x) (hy : okW P to y) (h1 : τ < 8) (h2 : σ < 8) (h : hvW x τ = hvW y σ) : x = y ∧ τ = σ := by
  obtain ⟨x1, x2, x3, x4⟩ := hx
  obtain ⟨y1, y2, y3, y4⟩ := hy
  unfold hvW at h
  have e1 : x.1 = y.1 := by omega
  have e2 : x.2.1 = y.2.1 := by omega
  have e3 : rvb x.2.2 8 = rvb y.2.2 8 := by omega
  have e4 : x.2.2 = y.2.2 := by rw [← rvb_rvb _ x4, e3, rvb_rvb _ y4]
  exact ⟨Prod.ext e1 (Prod.ext e2 e4), by omega⟩
theorem tog_loop {T : St} {m p s t b : Nat} (hm : ∀ j, j < 8 → rd T 19 j = b2 (m.testBit j)) (hp : rd T 0 37 = nI p) (hs : rd T 0 38 = nI s) (ht : rd T 0 39 = nI t) (hb : rd T 0 15 = nI b) (hb1 : 1 ≤ b ∧ b ≤ 8) (ht1 : t ≤ 1500) :
    ∀ n j, 8 - j < n → j ≤ 8 → g_X10_together_4 n (nI (rvb m j)) (nI j) T = some (nI (hvW (p, s, m) (t % b)), T) := by
  intro n
  induction n with
  | zero => intro j q; omega
  | succ n ih =>
    intro j h1 h2
    show f_X10_together_4 (g_X10_together_4 n) _ _ T = _
    unfold f_X10_together_4
    simp (disch := omega) only [l_8, nI_leI]
    by_cases q : j = 8
    · subst q
      rw [if_pos (by omega)]
      simp (disch := omega) only [hb, ckn_nI, hp, hs, ht, irem_nI, l_24, l_4, pk_mul, nI_add]
      rfl
    · rw [if_neg (by omega)]
      have ihe := ih (j + 1) (by omega) (by omega)
      have hr : rvb m (j + 1) = 2 * rvb m j + (m.testBit j).toNat := rfl
      rw [hr] at ihe
      simp (disch := omega) only [ck_nI, nI_clamp, hm j (by omega), lt, l_2, pk_mul, nI_1]
      simp only [b2_0]
      cases w : m.testBit j
      · rw [w] at ihe
        simp only [if_true]
        have e0 : nI (2 * rvb m j) + 0 = nI (2 * rvb m j + 0) := nI_add _ 0
        rw [e0]; exact ihe
      · rw [w] at ihe
        simp only [if_false, Bool.true_eq_false]
        exact ihe
def goF (T0 T : St) : Prop := rdL T = rdL T0 ∧ ∀ c i, c ≠ 17 → c ≠ 18 → c ≠ 19 → (c ≠ 0 ∨ (i < 37 ∨ 42 < i)) → rd T c i = rd T0 c i
/-- where the reference's walk is at beat c -/
def goC (X : Nat → Nat × Nat × Nat) (c : Nat) (T : St) : Prop := rd T 0 37 = nI (X c).1 ∧ rd T 0 38 = nI (X c).2.1 ∧ rd T 0 39 = nI c ∧ ∀ j, j < 8 → rd T 19 j = b2 ((X c).2.2.testBit j)
def goD (b : Nat) (X : Nat → Nat × Nat × Nat) (M : Nat) (T : St) : Prop := rd T 0 42 = nI M ∧ M ≤ 1501 ∧ (∀ i, i < M → rd T 17 i = nI (hvW (X i) (i % b))) ∧ ∀ v, (∀ i, i < M → hvW (X i) (i % b) ≠ v) → rd T 18 v = 0
def goE (en : Nat → Nat) (N ou b : Nat) (X : Nat → Nat × Nat × Nat) (r : Int32) (T : St) : Prop :=
  ∃ c, c ≤ 1500 ∧ goC X c T ∧ (∀ i, i < c → ou.testBit (jnp en N (X i).1) = false) ∧ (∀ i j, i < j → j < c → hvW (X i) (i % b) ≠ hvW (X j) (j % b)) ∧
    ((r = 0 ∧ ou.testBit (jnp en N (X c).1) = true ∧ rd T 0 40 = -1 ∧ rd T 0 41 = -1) ∨
     (r = 1 ∧ ou.testBit (jnp en N (X c).1) = false ∧ ∃ i, i < c ∧ hvW (X i) (i % b) = hvW (X c) (c % b) ∧ rd T 0 40 = nI i ∧ rd T 0 41 = nI (c - i)) ∨
     (r = 2 ∧ c = 1500 ∧ ou.testBit (jnp en N (X c).1) = false ∧ (∀ i, i < c → hvW (X i) (i % b) ≠ hvW (X c) (c % b)) ∧ rd T 0 40 = -1 ∧ rd T 0 41 = -1))
def goQ (en : Nat → Nat) (N ou b : Nat) (X : Nat → Nat × Nat × Nat) (T0 : St) (p : Int32 × St) : Prop :=
  goE en N ou b X p.1 p.2 ∧ goF T0 p.2 ∧ ∃ M, goD b X M p.2
theorem acM_ok {T : St} {L f fk : Nat} {to : Nat → Bool} {nu de nx : Nat → Nat} (h : ruM T L f fk to nu de nx) {s : Nat} (hs : s < 4) (ht : to s = true) (m j : Nat) : acM T nu de nx (6 * s + (if m.testBit j || !fk.testBit s then 0 else 3)) (actW fk s m j) := by
  obtain ⟨h1, h2, h3⟩ := h.2.2 s hs ht
  unfold actW
  by_cases q : (m.testBit j || !fk.testBit s) = true
  · rw [if_pos q, if_pos q]; exact h1
  · rw [if_neg q, if_neg q]
    have : fk.testBit s = true := by
      cases w : fk.testBit s
      · simp [w] at q
      · rfl
    exact h2 this
theorem go_loop {T0 : St} {J P : Nat} {en ga : Nat → Nat} {ou mk sh b : Nat} (hn : gaN J P en ga ou mk sh b) (hm : gaM T0 J P en ga ou mk sh b) {L f fk : Nat} {to : Nat → Bool} {nu de nx : Nat → Nat} (hr : ruN L f fk to nu de nx) (hrm : ruM T0 L f fk to nu de nx)
    {x0 : Nat × Nat × Nat} (h0 : okW P to x0) {X : Nat → Nat × Nat × Nat} (hX : X = sqW en (2 * P) (opP en ga (2 * P) sh) fk b nu de nx x0) :
    ∀ (n t : Nat) (T : St), 1500 - t < n → t ≤ 1500 → goC X t T → (∀ i, i < t → ou.testBit (jnp en (2 * P) (X i).1) = false) → (∀ i, i < t → rd T 18 (hvW (X i) (i % b)) = nI (i + 1)) → rd T 0 40 = -1 → rd T 0 41 = -1 → goD b X t T → goF T0 T →
      Wp (g_X10_goes_70 n T) (goQ en (2 * P) ou b X T0) := by
  have hb := hn.2.2.2.2.1
  have hP : P ≤ 12 := hn.2.1
  have hJ : J ≤ 8 := hn.1
  have hok : ∀ t, okW P to (X t) := fun t => by rw [hX]; exact sqW_ok hn hr _ h0 t
  intro n
  induction n with
  | zero => intro t T h; omega
  | succ n ih =>
    intro t T h1 h2 i1 i2 i3 i4 i5 i6 i7
    obtain ⟨o1, o2, o3, o4⟩ := hok t
    obtain ⟨g1, g2, g3, g4⟩ := i1
    obtain ⟨d1, d2, d3, d4⟩ := i6
    have hml := Nat.mod_lt t (show 0 < b by omega)
    have hhl := hvW_lt hP (hok t) (τ := t % b) (by omega)
    have hmT : gaM T J P en ga ou mk sh b := gaM_fr hm (fun c i q => i7.2 c i (by omega) (by omega) (by omega) (by omega))
    have hrT : ruM T L f fk to nu de nx := ruM_fr hrm (fun c i q => i7.2 c i (by omega) (by omega) (by omega) (by omega))
    have hj := (pvN hn o1).1
    have hdist : ∀ i j, i < j → j < t → hvW (X i) (i % b) ≠ hvW (X j) (j % b) := by
      intro i j hij hjt e
      have e1 := i3 i (by omega)
      rw [e, i3 j hjt, nI_eq (by omega) (by omega)] at e1
      omega
    show Wp (f_X10_goes_70 (g_X10_goes_70 n) T) _
    unfold f_X10_goes_70
    simp (disch := omega) only [g1, ck_nI, nI_clamp, lt, (pvM hn hmT o1).1, (hmT.2.2.2.2.1 _ hj).1, b2_0]
    by_cases c1 : ou.testBit (jnp en (2 * P) (X t).1) = true
    · rw [if_neg (by simp [c1]), Wp_some]
      exact ⟨⟨t, h2, ⟨g1, g2, g3, g4⟩, i2, hdist, Or.inl ⟨rfl, c1, i4, i5⟩⟩, i7, t, d1, d2, d3, d4⟩
    · have c2 : ou.testBit (jnp en (2 * P) (X t).1) = false := by simpa using c1
      rw [if_pos c2]
      have etog : m_X10_together T = some (nI (hvW (X t) (t % b)), T) := tog_loop (m := (X t).2.2) (p := (X t).1) (s := (X t).2.1) g4 g1 g2 g3 hmT.2.2.1 hb h2 fuel 0 (by unfold fuel; omega) (by omega)
      rw [etog]
      simp (disch := omega) only [bI_some, ck_nI, nI_clamp]
      by_cases c3 : ∃ i, i < t ∧ hvW (X i) (i % b) = hvW (X t) (t % b)
      · obtain ⟨i, hi, hie⟩ := c3
        have e1 := i3 i hi
        rw [hie] at e1
        rw [e1, if_neg (nI_nle (by omega) (by omega)), Wp_some]
        simp (disch := omega) only [nI_pred, rd_ne, g3, rd_same, pk_sub]
        refine ⟨⟨t, h2, ⟨?_, ?_, ?_, fun j hj => ?_⟩, i2, hdist, Or.inr (Or.inl ⟨rfl, c2, i, hi, hie, ?_, ?_⟩)⟩, ⟨i7.1, fun c j q1 q2 q3 q4 => ?_⟩, t, ?_, d2, fun j hj => ?_, fun v hv => ?_⟩
        · simp (disch := omega) only [rd_ne]; exact g1
        · simp (disch := omega) only [rd_ne]; exact g2
        · simp (disch := omega) only [rd_ne]; exact g3
        · simp (disch := omega) only [rd_ne]; exact g4 j hj
        · simp (disch := omega) only [rd_ne, rd_same]
        · simp (disch := omega) only [rd_same]
        · simp (disch := omega) only [rd_ne]; exact i7.2 c j q1 q2 q3 q4
        · simp (disch := omega) only [rd_ne]; exact d1
        · simp (disch := omega) only [rd_ne]; exact d3 j hj
        · simp (disch := omega) only [rd_ne]; exact d4 v hv
      · have c4 : ∀ i, i < t → hvW (X i) (i % b) ≠ hvW (X t) (t % b) := fun i hi e => c3 ⟨i, hi, e⟩
        rw [d4 _ c4, if_pos (by decide)]
        simp (disch := omega) only [d1, ck_nI, nI_clamp, rd_ne, nI_1, g3, l_1500, nI_eq]
        generalize hTT : up (up (up T 17 t (nI (hvW (X t) (t % b)))) 0 42 (nI (t + 1))) 18 (hvW (X t) (t % b)) (nI (t + 1)) = T1
        have frT : ∀ c i, c ≠ 17 → c ≠ 18 → (c ≠ 0 ∨ i ≠ 42) → rd T1 c i = rd T c i := by
          intro c i q1 q2 q3
          rw [← hTT]; simp (disch := omega) only [rd_ne]
        have fL : rdL T1 = rdL T := by rw [← hTT]; rfl
        have k1 : goC X t T1 := ⟨by rw [frT 0 37 (by omega) (by omega) (by omega)]; exact g1, by rw [frT 0 38 (by omega) (by omega) (by omega)]; exact g2, by rw [frT 0 39 (by omega) (by omega) (by omega)]; exact g3, fun j hj => by rw [frT 19 j (by omega) (by omega) (by omega)]; exact g4 j hj⟩
        have k2 : ∀ i, i < t + 1 → rd T1 18 (hvW (X i) (i % b)) = nI (i + 1) := by
          intro i hi
          rw [← hTT]
          by_cases q : i = t
          · subst q; rw [rd_same]
          · rw [rd_ix (c4 i (by omega)), rd_ne (by omega), rd_ne (by omega)]; exact i3 i (by omega)
        have k3 : goD b X (t + 1) T1 := by
          refine ⟨by rw [← hTT]; simp (disch := omega) only [rd_ne, rd_same], by omega, fun i hi => ?_, fun v hv => ?_⟩
          · rw [← hTT]
            by_cases q : i = t
            · subst q; simp (disch := omega) only [rd_ne, rd_same]
            · simp (disch := omega) only [rd_ne]; exact d3 i (by omega)
          · rw [← hTT, rd_ix (fun q => hv t (by omega) q.symm), rd_ne (by omega), rd_ne (by omega)]
            exact d4 v (fun i hi => hv i (by omega))
        have k4 : goF T0 T1 := ⟨by rw [fL]; exact i7.1, fun c i q1 q2 q3 q4 => by rw [frT c i q1 q2 (by omega)]; exact i7.2 c i q1 q2 q3 q4⟩
        have k5 : rd T1 0 40 = -1 := by rw [frT 0 40 (by omega) (by omega) (by omega)]; exact i4
        have k6 : rd T1 0 41 = -1 := by rw [frT 0 41 (by omega) (by omega) (by omega)]; exact i5
        by_cases c5 : t = 1500
        · rw [if_pos c5, Wp_some]
          exact ⟨⟨t, h2, k1, i2, hdist, Or.inr (Or.inr ⟨rfl, c5, c2, c4, k5, k6⟩)⟩, k4, t + 1, k3⟩
        · rw [if_neg c5]
          have hrT1 : ruM T1 L f fk to nu de nx := ruM_fr hrm (fun c i q => k4.2 c i (by omega) (by omega) (by omega) (by omega))
          obtain ⟨⟨a1, a2, a3, a4⟩, a5⟩ := act_ok hr o2 o3 (X t).2.2 (jnp en (2 * P) (X t).1)
          have hac := acM_ok hrT1 o2 o3 (X t).2.2 (jnp en (2 * P) (X t).1)
          have hXs : X (t + 1) = (trn en (2 * P) (opP en ga (2 * P) sh (t % b)) (X t).1 (nu (actW fk (X t).2.1 (X t).2.2 (jnp en (2 * P) (X t).1))), nx (actW fk (X t).2.1 (X t).2.2 (jnp en (2 * P) (X t).1)), mkW (de (actW fk (X t).2.1 (X t).2.2 (jnp en (2 * P) (X t).1))) (X t).2.2 (jnp en (2 * P) (X t).1)) := by rw [hX]; rfl
          generalize hA : actW fk (X t).2.1 (X t).2.2 (jnp en (2 * P) (X t).1) = A at *
          generalize hK : 6 * (X t).2.1 + (if (X t).2.2.testBit (jnp en (2 * P) (X t).1) || !fk.testBit (X t).2.1 then 0 else 3) = Kx at *
          have hKx : Kx < 22 := by rw [← hK]; split <;> omega
          -- the rest of a beat
          have key257 : ∀ (T2 : St), (∀ c i, c ≠ 19 → rd T2 c i = rd T1 c i) → rdL T2 = rdL T1 → (∀ j, j < 8 → rd T2 19 j = b2 ((mkW (de A) (X t).2.2 (jnp en (2 * P) (X t).1)).testBit j)) → Wp (f_X10_goes_257 (g_X10_goes_70 n) (nI (jnp en (2 * P) (X t).1)) (nI Kx) T2) (goQ en (2 * P) ou b X T0) := by
            intro T2 fr2 fL2 hlies
            have hmT3 : gaM (up T2 0 38 (nI (nx A))) J P en ga ou mk sh b := gaM_fr hm (fun c i q => by rw [rd_ne (by omega), fr2 c i (by omega)]; exact k4.2 c i (by omega) (by omega) (by omega) (by omega))
            obtain ⟨x1, x2, x3⟩ := hac
            unfold f_X10_goes_257
            simp (disch := omega) only [l_2, nI_add, ck_nI, nI_clamp, fr2, x3, lt, rd_ne, x1, k1.1, k1.2.2.1]
            have eb : rd T1 12 (jnp en (2 * P) (X t).1) = nI (baj en (2 * P) (jnp en (2 * P) (X t).1)) := by
              have := (hmT3.2.2.2.2.1 _ hj).2.2.2
              rw [rd_ne (by omega), fr2 12 _ (by omega)] at this; exact this
            rw [eb, pk_sub (pvN hn o1).2.1, td_eq hn hmT3 o1 (by omega) a1]
            simp only [bI_some]
            have fin : ∀ q : Nat, q = trn en (2 * P) (opP en ga (2 * P) sh (t % b)) (X t).1 (nu A) → ∀ T4 : St, (∀ c i, (c ≠ 0 ∨ (i ≠ 37 ∧ i ≠ 39)) → rd T4 c i = rd (up T2 0 38 (nI (nx A))) c i) → rdL T4 = rdL T2 → rd T4 0 37 = nI q → rd T4 0 39 = nI (t + 1) → Wp (g_X10_goes_70 n T4) (goQ en (2 * P) ou b X T0) := by
              intro q hq T4 fr4 fL4 e37 e39
              have frr : ∀ c i, c ≠ 19 → (c ≠ 0 ∨ (i ≠ 37 ∧ i ≠ 38 ∧ i ≠ 39)) → rd T4 c i = rd T1 c i := fun c i q1 q2 => by rw [fr4 c i (by omega), rd_ne (by omega), fr2 c i q1]
              refine ih (t + 1) T4 (by omega) (by omega) ⟨?_, ?_, e39, fun j hj => ?_⟩ (fun i hi => ?_) (fun i hi => ?_) ?_ ?_ ⟨?_, k3.2.1, fun i hi => ?_, fun v hv => ?_⟩ ⟨?_, fun c i q1 q2 q3 q4 => ?_⟩
              · rw [e37, hq, hXs]
              · rw [fr4 0 38 (by omega), rd_same, hXs]
              · rw [fr4 19 j (by omega), rd_ne (by omega), hlies j hj, hXs]
              · by_cases w : i = t
                · subst w; exact c2
                · exact i2 i (by omega)
              · rw [frr 18 _ (by omega) (by omega)]; exact k2 i hi
              · rw [frr 0 40 (by omega) (by omega)]; exact k5
              · rw [frr 0 41 (by omega) (by omega)]; exact k6
              · rw [frr 0 42 (by omega) (by omega)]; exact k3.1
              · rw [frr 17 i (by omega) (by omega)]; exact k3.2.2.1 i hi
              · rw [frr 18 v (by omega) (by omega)]; exact k3.2.2.2 v hv
              · rw [fL4, fL2]; exact k4.1
              · rw [frr c i q3 (by omega)]; exact k4.2 c i q1 q2 q3 q4
            obtain ⟨tr1, tr2⟩ := tdr_trn hn (sh := sh) (τ := t % b) (nu := nu A) o1
            cases htd : tdr en ga (2 * P) sh (t % b) (X t).1 (nu A) with
            | none =>
              have : oI (none : Option Nat) < 0 := m1_lt
              rw [if_pos this]
              refine fin (X t).1 (tr1 htd).symm _ (fun c i q => by rw [rd_ne (by omega)]) rfl ?_ ?_
              · simp (disch := omega) only [rd_ne, fr2]; exact k1.1
              · simp (disch := omega) only [rd_same, rd_ne, fr2, k1.2.2.1, nI_1]
            | some k =>
              obtain ⟨tk1, tk2, tk3⟩ := tr2 k htd
              have hpv := pvM hn hmT3 tk1
              have hp2 := (pvN hn tk1)
              have n5 := (pvN hn o1).2.2.2.2.1
              have e9 : rd T1 9 (baj en (2 * P) (jnp en (2 * P) (X t).1) + k) = nI (sdp en (2 * P) (baj en (2 * P) (jnp en (2 * P) (X t).1) + k)) := by
                have := hpv.2.1
                rw [rd_ne (by omega), fr2 9 _ (by omega)] at this; exact this
              have e10 : rd T1 10 (sdp en (2 * P) (baj en (2 * P) (jnp en (2 * P) (X t).1) + k) ^^^ 1) = nI (otp en (2 * P) (baj en (2 * P) (jnp en (2 * P) (X t).1) + k)) := by
                have := hpv.2.2
                rw [rd_ne (by omega), fr2 10 _ (by omega)] at this; exact this
              have hx8 := hp2.2.2.2.2.2.2.2.1
              have hx7 := hp2.2.2.2.2.2.2.1
              show Wp (if nI k < 0 then _ else _) _
              rw [if_neg (nI_pos (by omega))]
              have eo : oI (some k) = nI k := rfl
              simp (disch := omega) only [eo, rd_ne, fr2, eb, nI_add, ck_nI, nI_clamp, e9, l_1, fb_xorI, e10, rd_ne, fr2, k1.2.2.1]
              refine fin (otp en (2 * P) (baj en (2 * P) (jnp en (2 * P) (X t).1) + k)) tk3.symm _ (fun c i q => by rw [rd_ne (by omega), rd_ne (by omega)]) rfl ?_ ?_
              · simp (disch := omega) only [rd_ne, rd_same]
              · rw [rd_same]
          have key214 : ∀ s0 s1 : Int32, s1 + s0 = nI Kx → Wp (f_X10_goes_214 (g_X10_goes_70 n) (nI (jnp en (2 * P) (X t).1)) s0 s1 T1) (goQ en (2 * P) ou b X T0) := by
            intro s0 s1 hss
            obtain ⟨x1, x2, x3⟩ := hac
            unfold f_X10_goes_214 f_X10_goes_237
            rw [hss]
            simp (disch := omega) only [lt, l_1, nI_add, ck_nI, nI_clamp, x2, nI_eq, l_2, rd_ne]
            by_cases w1 : de A = 1
            · have w2 : ¬ de A = 2 := by omega
              rw [if_pos w1, if_neg w2]
              refine key257 _ (fun c i q => by rw [rd_ne (by omega)]) rfl (fun j hj => ?_)
              have hmkw : mkW (de A) (X t).2.2 (jnp en (2 * P) (X t).1) = cb (X t).2.2 (jnp en (2 * P) (X t).1) := if_pos w1
              rw [hmkw, cb_tb]
              by_cases q : j = jnp en (2 * P) (X t).1
              · subst q; rw [rd_same, zb_0]; simp [b2]
              · rw [rd_ne (by omega), k1.2.2.2 j hj]; simp [q]
            · rw [if_neg w1]
              by_cases w2 : de A = 2
              · rw [if_pos w2]
                refine key257 _ (fun c i q => by rw [rd_ne (by omega)]) rfl (fun j hj => ?_)
                have hmkw : mkW (de A) (X t).2.2 (jnp en (2 * P) (X t).1) = sb (X t).2.2 (jnp en (2 * P) (X t).1) := by unfold mkW; rw [if_neg w1, if_pos w2]
                rw [hmkw, sb_tb]
                by_cases q : j = jnp en (2 * P) (X t).1
                · subst q; rw [rd_same, show zb (nI 1) = 1 from zb_1]; simp [b2]
                · rw [rd_ne (by omega), k1.2.2.2 j hj]; simp [q]
              · rw [if_neg w2]
                refine key257 _ (fun c i q => rfl) rfl (fun j hj => ?_)
                have hmkw : mkW (de A) (X t).2.2 (jnp en (2 * P) (X t).1) = (X t).2.2 := by unfold mkW; rw [if_neg w1, if_neg w2]
                rw [hmkw]; exact k1.2.2.2 j hj
          simp (disch := omega) only [g2, l_6, l_3, pk_mul, nI_add, ck_nI, nI_clamp]
          obtain ⟨m1, m2, m3⟩ := hrT.2.2 (X t).2.1 o2 o3
          unfold f_X10_goes_209
          cases hfk : fk.testBit (X t).2.1
          · rw [m3 hfk, if_pos m1_lt]
            refine key214 _ _ ?_
            rw [← hK, hfk]; simp [l_0, nI_add]
          · obtain ⟨m4, m5⟩ := hr.2.2.2 (X t).2.1 o2 o3
            have m6 := (m5 hfk).1
            rw [(m2 hfk).1, if_neg (nI_pos (by omega)), g4 _ (by omega)]
            simp only [b2_0]
            cases hmb : (X t).2.2.testBit (jnp en (2 * P) (X t).1)
            · rw [if_pos rfl]
              refine key214 _ _ ?_
              rw [← hK, hfk, hmb]; simp [nI_add]
            · rw [if_neg (by decide)]
              refine key214 _ _ ?_
              rw [← hK, hfk, hmb]; simp [l_0, nI_add]
