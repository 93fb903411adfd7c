/-! ===== who comes out; lost ===== -/
def oB (en ga : Nat → Nat) (N ou b f fk : Nat) (nu de nx : Nat → Nat) (m s p : Nat) : Bool := decide (0 < fb_ct (fun t => ou.testBit (jnp en N (sqW en N (opP en ga N s) fk b nu de nx (p, f, m) t).1)) 1501)
section OutB
variable {J P : Nat} {en ga : Nat → Nat} {ou mk sh b : Nat} {L f fk : Nat} {to : Nat → Bool} {nu de nx : Nat → Nat}
theorem oB_yes {m s p c : Nat} (hc : c ≤ 1500) (h : ou.testBit (jnp en (2 * P) (sqW en (2 * P) (opP en ga (2 * P) s) fk b nu de nx (p, f, m) c).1) = true) : oB en ga (2 * P) ou b f fk nu de nx m s p = true := by
  unfold oB
  exact decide_eq_true (fb_ct_pos.mpr ⟨c, by omega, h⟩)
theorem oB_no {m s p : Nat} (h : ∀ t, t ≤ 1500 → ou.testBit (jnp en (2 * P) (sqW en (2 * P) (opP en ga (2 * P) s) fk b nu de nx (p, f, m) t).1) = false) : oB en ga (2 * P) ou b f fk nu de nx m s p = false := by
  unfold oB
  refine decide_eq_false (fun q => ?_)
  obtain ⟨c, h1, h2⟩ := fb_ct_pos.mp q
  have h2 : ou.testBit (jnp en (2 * P) (sqW en (2 * P) (opP en ga (2 * P) s) fk b nu de nx (p, f, m) c).1) = true := h2
  rw [h c (by omega)] at h2
  cases h2
theorem never {op : Nat → Nat → Bool} {x0 : Nat × Nat × Nat} {e : Nat} (e1 : ∀ i, i < e → ou.testBit (jnp en (2 * P) (sqW en (2 * P) op fk b nu de nx x0 i).1) = false) (e2 : ou.testBit (jnp en (2 * P) (sqW en (2 * P) op fk b nu de nx x0 e).1) = false) (e3 : e = 1500 ∨ ∃ i, i < e ∧ samW (sqW en (2 * P) op fk b nu de nx x0) b i e) : ∀ t, t ≤ 1500 → ou.testBit (jnp en (2 * P) (sqW en (2 * P) op fk b nu de nx x0 t).1) = false := by
  intro t ht
  rcases e3 with e3 | ⟨i, hi, e3⟩
  · by_cases q : t = e
    · rw [q]; exact e2
    · exact e1 t (by omega)
  · have := sam_not e3 hi (out := fun x => ou.testBit (jnp en (2 * P) x.1) = true) (fun t ht => by
      by_cases q : t = e
      · rw [q, e2]; decide
      · rw [e1 t (by omega)]; decide) t
    simpa using this
theorem co_B (hn : gaN J P en ga ou mk sh b) (hr : ruN L f fk to nu de nx) {m s p : Nat} (h0 : okW P to (p, f, m)) {S0 : St} {q : Int32 × St} (hc : coQ en (2 * P) ou b (sqW en (2 * P) (opP en ga (2 * P) s) fk b nu de nx (p, f, m)) S0 q) : q.1 = b2 (oB en ga (2 * P) ou b f fk nu de nx m s p) := by
  obtain ⟨c, c1, c2, c3, c4, c5, c6⟩ := hc
  rcases c6 with ⟨k1, k2⟩ | ⟨k1, k2, k3⟩
  · rw [k1, oB_yes c1 k2]; rfl
  · rw [k1, oB_no (never c4 k2 (by
      rcases k3 with q | ⟨i, hi, q⟩
      · exact Or.inl q
      · exact Or.inr ⟨i, hi, (pk_sam hn hr h0).mp q⟩))]; rfl
theorem go_B (hn : gaN J P en ga ou mk sh b) (hr : ruN L f fk to nu de nx) {m s p : Nat} (h0 : okW P to (p, f, m)) {r : Int32} {T : St} (hg : goE en (2 * P) ou b (sqW en (2 * P) (opP en ga (2 * P) s) fk b nu de nx (p, f, m)) r T) : (r = 0) ↔ oB en ga (2 * P) ou b f fk nu de nx m s p = true := by
  obtain ⟨d, d1, d2, d3, d4, d5⟩ := hg
  rcases d5 with ⟨w, w2, _⟩ | ⟨w, w2, i, w3, w4, _⟩ | ⟨w, w2, w3, _⟩
  · exact ⟨fun _ => oB_yes d1 w2, fun _ => w⟩
  · rw [oB_no (never d3 w2 (Or.inr ⟨i, w3, (hv_sam hn hr h0).mp w4⟩)), w]
    constructor
    · intro q; exact absurd q (by decide)
    · intro q; cases q
  · rw [oB_no (never d3 w3 (Or.inl w2)), w]
    constructor
    · intro q; exact absurd q (by decide)
    · intro q; cases q
theorem lostX (hn : gaN J P en ga ou mk sh b) {S0 : St} (hx : gaX S0 J P en ga ou mk sh b) {r : Nat} (hr : ruN L f fk to nu de nx) (hrx : ruX S0 r L f fk to nu de nx) (hL : 0 < L) (hr1 : r = 16 ∨ r = 20) (hy : rdyX S0 en ga P sh b r) :
    ∀ (n p : Nat) (S : St), 2 * P - p < n → p ≤ 2 * P → coF S0 S → Wp (g_X9_lost_29 n (lN (bset (fun p => !oB en ga (2 * P) ou b f fk nu de nx mk sh p) p)) (nI p) S) (fun q => q.1 = lN (bset (fun p => !oB en ga (2 * P) ou b f fk nu de nx mk sh p) (2 * P)) ∧ coF S0 q.2) := by
  have hJ : J ≤ 8 := hn.1
  have hP : P ≤ 12 := hn.2.1
  have hmk : mk < 2 ^ 8 := Nat.lt_of_lt_of_le hn.2.2.2.2.2.2.2.1 (Nat.pow_le_pow_right (by decide) hJ)
  intro n
  induction n with
  | zero => intro p S h; omega
  | succ n ih =>
    intro p S h1 h2 i1
    have hxS : gaX S J P en ga ou mk sh b := gaX_fr hx (fun c i q => i1 c i (by omega) (by omega))
    have hrxS : ruX S r L f fk to nu de nx := ruX_fr hrx (fun c i q => i1 c i (by omega) (by omega))
    have hyS : rdyX S en ga P sh b r := ⟨by rw [i1 24 4 (by omega) (by omega)]; exact hy.1, fun σ hσ => by rw [i1 26 σ (by omega) (by omega)]; exact hy.2 σ hσ⟩
    show Wp (f_X9_lost_29 (g_X9_lost_29 n) _ _ S) _
    unfold f_X9_lost_29
    simp (disch := omega) only [hxS.2.2.1, nI_leI]
    by_cases q : p = 2 * P
    · rw [if_pos (by omega), Wp_some]; subst q; exact ⟨rfl, i1⟩
    · rw [if_neg (by omega), hxS.2.2.2.2.1, Wp_bI]
      have h0 : okW P to (p, f, mk) := ⟨by show p < 2 * P; omega, (hr.2.2.1 hL).1, (hr.2.2.1 hL).2, hmk⟩
      refine Wp_mono (co_eq2 hn hxS hr hrxS hL hr1 hyS (cl := 0) (cs := 0) (show p < 2 * P by omega) hmk (fun q _ => by simp)) (fun w hw => ?_)
      rw [Nat.or_zero] at hw
      have hv := co_B hn hr h0 hw
      obtain ⟨c, _, _, _, _, c5, _⟩ := hw
      have i1' : coF S0 w.2 := fun c i a1 a2 => by rw [c5 c i a1 a2]; exact i1 c i a1 a2
      have ihe := ih (p + 1) w.2 (by omega) (by omega) i1'
      simp (disch := omega) only [hv, b2_0, lshl1, fb_orL, lt, nI_1]
      cases u : oB en ga (2 * P) ou b f fk nu de nx mk sh p
      · rw [if_pos rfl]
        have e : bset (fun p => !oB en ga (2 * P) ou b f fk nu de nx mk sh p) (p + 1) = sb (bset (fun p => !oB en ga (2 * P) ou b f fk nu de nx mk sh p) p) p := if_pos (by simp [u])
        rw [e] at ihe; exact ihe
      · rw [if_neg (by decide)]
        have e : bset (fun p => !oB en ga (2 * P) ou b f fk nu de nx mk sh p) (p + 1) = bset (fun p => !oB en ga (2 * P) ou b f fk nu de nx mk sh p) p := if_neg (by simp [u])
        rw [e] at ihe; exact ihe
theorem lostM (hn : gaN J P en ga ou mk sh b) {T0 : St} (hm : gaM T0 J P en ga ou mk sh b) (hr : ruN L f fk to nu de nx) (hrm : ruM T0 L f fk to nu de nx) (hL : 0 < L) :
    ∀ (n p : Nat) (T : St), 2 * P - p < n → p ≤ 2 * P → goF T0 T → (∀ v, rd T 18 v = 0) → Wp (g_X10_lost_20 n (lN (bset (fun p => !oB en ga (2 * P) ou b f fk nu de nx mk sh p) p)) (nI p) T) (fun q => q.1 = lN (bset (fun p => !oB en ga (2 * P) ou b f fk nu de nx mk sh p) (2 * P)) ∧ goF T0 q.2 ∧ ∀ v, rd q.2 18 v = 0) := by
  have hJ : J ≤ 8 := hn.1
  have hP : P ≤ 12 := hn.2.1
  have hmk : mk < 2 ^ 8 := Nat.lt_of_lt_of_le hn.2.2.2.2.2.2.2.1 (Nat.pow_le_pow_right (by decide) hJ)
  intro n
  induction n with
  | zero => intro p S h; omega
  | succ n ih =>
    intro p T h1 h2 i1 i2
    have hmT : gaM T J P en ga ou mk sh b := gaM_fr hm (fun c i q => i1.2 c i (by omega) (by omega) (by omega) (by omega))
    have hrT : ruM T L f fk to nu de nx := ruM_fr hrm (fun c i q => i1.2 c i (by omega) (by omega) (by omega) (by omega))
    show Wp (f_X10_lost_20 (g_X10_lost_20 n) _ _ T) _
    unfold f_X10_lost_20
    simp (disch := omega) only [hmT.2.2.2.1, nI_leI]
    by_cases q : p = 2 * P
    · rw [if_pos (by omega), Wp_some]; subst q; exact ⟨rfl, i1, i2⟩
    · rw [if_neg (by omega), Wp_bI]
      have h0 : okW P to (p, f, mk) := ⟨by show p < 2 * P; omega, (hr.2.2.1 hL).1, (hr.2.2.1 hL).2, hmk⟩
      refine Wp_mono (wks_eq hn hmT hr hrT hL i2 (show p < 2 * P by omega)) (fun w hw => ?_)
      obtain ⟨w1, w2, w3⟩ := hw
      have hv := go_B hn hr h0 w1
      have i1' : goF T0 w.2 := ⟨by rw [w3.1]; exact i1.1, fun c i a1 a2 a3 a4 => by rw [w3.2 c i a1 a2 a3 a4]; exact i1.2 c i a1 a2 a3 a4⟩
      have ihe := ih (p + 1) w.2 (by omega) (by omega) i1' w2
      simp (disch := omega) only [hv, lshl1, fb_orL, lt, nI_1, lor0]
      cases u : oB en ga (2 * P) ou b f fk nu de nx mk sh p
      · rw [if_neg (by decide)]
        have e : bset (fun p => !oB en ga (2 * P) ou b f fk nu de nx mk sh p) (p + 1) = sb (bset (fun p => !oB en ga (2 * P) ou b f fk nu de nx mk sh p) p) p := if_pos (by simp [u])
        rw [e] at ihe; exact ihe
      · rw [if_pos rfl]
        have e : bset (fun p => !oB en ga (2 * P) ou b f fk nu de nx mk sh p) (p + 1) = bset (fun p => !oB en ga (2 * P) ou b f fk nu de nx mk sh p) p := if_neg (by simp [u])
        rw [e] at ihe; exact ihe
end OutB
/-- only what walks use was touched -/
theorem Rl_W {S T S' T' : St} (h : Rl S T) (hS : ∀ c i, c ≠ 24 → c ≠ 25 → c ≠ 26 → (c ≠ 29 ∨ i ≠ 4) → rd S' c i = rd S c i) (hT : ∀ c i, c ≠ 17 → c ≠ 18 → c ≠ 19 → c ≠ 21 → (c ≠ 0 ∨ (i ≠ 2 ∧ (i < 37 ∨ 42 < i))) → rd T' c i = rd T c i) (h18 : ∀ v, rd T' 18 v = 0) (hL : rdL T' = rdL T) : Rl S' T' := by
  obtain ⟨h1, h2, h3, h4, h5, h6, h7, h8, h9⟩ := h
  exact ⟨relT_fr h1 (fun c i q => hS c i (by omega) (by omega) (by omega) (by omega)) (fun c i q => hT c i (by omega) (by omega) (by omega) (by omega) (by omega)), relF_fr h2 (fun c i q => hS c i (by omega) (by omega) (by omega) (by omega)) (fun c i q => hT c i (by omega) (by omega) (by omega) (by omega) (by omega)), relR_fr h3 (fun c i q => hS c i (by omega) (by omega) (by omega) (by omega)) (fun c i q => hT c i (by omega) (by omega) (by omega) (by omega) (by omega)), relG_fr h4 (fun c i q => hS c i (by omega) (by omega) (by omega) (by omega)) (fun c i q => hT c i (by omega) (by omega) (by omega) (by omega) (by omega)), relW_fr h5 (fun c i q => hS c i (by omega) (by omega) (by omega) (by omega)) (fun c i q => hT c i (by omega) (by omega) (by omega) (by omega) (by omega)), relH_fr h6 (fun c i q => hS c i (by omega) (by omega) (by omega) (by omega)) (fun c i q => hT c i (by omega) (by omega) (by omega) (by omega) (by omega)), relU_fr h7 (fun c i q => hS c i (by omega) (by omega) (by omega) (by omega)) (fun c i q => hT c i (by omega) (by omega) (by omega) (by omega) (by omega)) hL, relM_fr h8 (fun c i q => hS c i (by omega) (by omega) (by omega) (by omega)) (fun c i q => hT c i (by omega) (by omega) (by omega) (by omega) (by omega)), ⟨h18, fun i hi => by rw [hT 13 i (by omega) (by omega) (by omega) (by omega) (by omega)]; exact h9.2 i hi⟩⟩
theorem st_lost : St_lost Rl := by
  intro S T h
  obtain ⟨J, P, en, ga, ou, mk, sh, b, hn, hx, hm⟩ := h.2.2.2.1
  obtain ⟨r, L, f, fk, to, nu, de, nx, hr1, hr, hrx, hrm⟩ := h.2.2.1
  have hP : P ≤ 12 := hn.2.1
  have hL4 : L ≤ 4 := hr.1
  unfold m_X9_lost f_X9_lost_0 m_X10_lost f_X10_lost_0
  simp (disch := omega) only [lt, rd_ne, (usR_rs hr1).1, hrx.1, hrm.1, nI_eq0]
  by_cases c0 : L = 0
  · simp only [if_pos c0]; exact ⟨_, _, _, rfl, rfl, Rl_0 h 0⟩
  · simp only [if_neg c0]
    obtain ⟨S5, s1, s2, s3, s4⟩ := pre_eq hn hx (usR_rs hr1).2
    rw [s1]
    simp only [bV_some]
    have hx5 : gaX S5 J P en ga ou mk sh b := gaX_fr hx (fun c i w => s2 c i (by omega) (by omega))
    have hrx5 : ruX S5 r L f fk to nu de nx := ruX_fr hrx (fun c i w => s2 c i (by have := (usR_rs hr1).2; omega) (by have := (usR_rs hr1).2; omega))
    have hm1 : gaM (up T 0 2 0) J P en ga ou mk sh b := gaM_fr hm (fun c i w => rd_ne (by omega))
    have hrm1 : ruM (up T 0 2 0) L f fk to nu de nx := ruM_fr hrm (fun c i w => rd_ne (by omega))
    obtain ⟨⟨r1, S6⟩, a1, a2, a3⟩ := lostX hn hx5 hr hrx5 (by omega) (usR_rs hr1).2 ⟨s3, s4⟩ fuel 0 S5 (by unfold fuel; omega) (by omega) (fun _ _ _ _ => rfl)
    obtain ⟨⟨r2, T6⟩, b1, b2, b3, b4⟩ := lostM hn hm1 hr hrm1 (by omega) fuel 0 (up T 0 2 0) (by unfold fuel; omega) (by omega) ⟨rfl, fun _ _ _ _ _ _ => rfl⟩ (fun v => by rw [rd_ne (by omega)]; exact h.2.2.2.2.2.2.2.2.1 v)
    have a2 : r1 = _ := a2
    have b2 : r2 = _ := b2
    subst a2
    subst b2
    refine ⟨_, _, _, a1, b1, ?_⟩
    exact Rl_W h (fun c i q1 q2 q3 q4 => by rw [a3 c i q2 (by omega), s2 c i q3 (by omega)]) (fun c i q1 q2 q3 q4 q5 => by rw [b3.2 c i q1 q2 q3 (by omega), rd_ne (by omega)]) b4 b3.1
