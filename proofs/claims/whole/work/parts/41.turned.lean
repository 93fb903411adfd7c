/-! ===== how a walker turns, the reference ===== -/
def opM (ga : Nat → Nat) (sh τ π : Nat) : Bool := (ga π).testBit τ && !sh.testBit π
def opP (en ga : Nat → Nat) (N sh τ q : Nat) : Bool := opM ga sh τ (sdp en N q / 2)
theorem sshr_nI {a i : Nat} (ha : a < 2 ^ 31) (hi : i < 32) : sshr (nI a) (nI i) = nI (a / 2 ^ i) := pk_shrN ha _ i (s_l i hi)
theorem isOpen_eq {T : St} {J P : Nat} {en ga : Nat → Nat} {ou mk sh b : Nat} (hn : gaN J P en ga ou mk sh b) (hm : gaM T J P en ga ou mk sh b) {π t : Nat} (hp : π < P) (ht : t < 2 ^ 31) : m_X10_isOpen (nI π) (nI t) T = some (b2 (opM ga sh (t % b) π), T) := by
  obtain ⟨y1, y2⟩ := hm.2.2.2.2.2.1 π hp
  have hP : P ≤ 12 := hn.2.1
  have hb := hn.2.2.2.2.1
  have hg := hn.2.2.2.2.2.1 π hp
  have hmd := Nat.mod_lt t (show 0 < b by omega)
  unfold m_X10_isOpen f_X10_isOpen_0 opM
  simp (disch := omega) only [ck_nI, nI_clamp, y2, b2_0, hm.2.2.1, ckn_nI, y1, irem_nI, sshr_nI, and1_nI, tb_mod]
  cases sh.testBit π <;> cases (ga π).testBit (t % b) <;> rfl
theorem td_loop {T : St} {J P : Nat} {en ga : Nat → Nat} {ou mk sh b : Nat} (hn : gaN J P en ga ou mk sh b) (hm : gaM T J P en ga ou mk sh b) {p t : Nat} (hp : p < 2 * P) (ht : t < 2 ^ 31) {lf h : Nat} (hlf : lf ≤ 9)
    (hH : Hit (fun k => opP en ga (2 * P) sh (t % b) (baj en (2 * P) (jnp en (2 * P) p) + k)) (esp en (2 * P) p) (p - baj en (2 * P) (jnp en (2 * P) p)) lf h) :
    ∀ m s, h + 1 - s < m → s ≤ h + 1 → g_X10_turned_112 m (nI (jnp en (2 * P) p)) (nI t) (nI (lf - crt (fun k => opP en ga (2 * P) sh (t % b) (baj en (2 * P) (jnp en (2 * P) p) + k)) (esp en (2 * P) p) (p - baj en (2 * P) (jnp en (2 * P) p)) s)) (nI ((p - baj en (2 * P) (jnp en (2 * P) p) + s) % esp en (2 * P) p)) T = some (nI ((p - baj en (2 * P) (jnp en (2 * P) p) + 1 + h) % esp en (2 * P) p), T) := by
  obtain ⟨n1, n2, n3, n4, n5, n6, n7, n8, n9⟩ := pvN hn hp
  have hJ : J ≤ 8 := hn.1
  have hP : P ≤ 12 := hn.2.1
  have v5 := (hm.2.2.2.2.1 _ n1).2.2.2
  have v6 : rd T 11 (jnp en (2 * P) p) = nI (esp en (2 * P) p) := (hm.2.2.2.2.1 _ n1).2.2.1
  intro m
  induction m with
  | zero => intro s q; omega
  | succ m ih =>
    intro s q1 q2
    generalize hO : (fun k => opP en ga (2 * P) sh (t % b) (baj en (2 * P) (jnp en (2 * P) p) + k)) = o at *
    have hend : crt o (esp en (2 * P) p) (p - baj en (2 * P) (jnp en (2 * P) p)) (h + 1) = lf := by rw [crt_succ]; have := hH.1; have w := hH.2; rw [show p - baj en (2 * P) (jnp en (2 * P) p) + h + 1 = p - baj en (2 * P) (jnp en (2 * P) p) + 1 + h by omega]; rw [if_pos this]; exact w
    show f_X10_turned_112 (g_X10_turned_112 m) _ _ _ _ T = _
    unfold f_X10_turned_112
    by_cases q : s = h + 1
    · subst q
      have e3 : (nI (lf - crt o (esp en (2 * P) p) (p - baj en (2 * P) (jnp en (2 * P) p)) (h + 1)) ≤ 0) := by rw [hend, Nat.sub_self]; decide
      rw [if_pos e3, show p - baj en (2 * P) (jnp en (2 * P) p) + (h + 1) = p - baj en (2 * P) (jnp en (2 * P) p) + 1 + h by omega]
    · have hs : s ≤ h := by omega
      have hc := crt_le (o := o) (n := esp en (2 * P) p) (e := p - baj en (2 * P) (jnp en (2 * P) p)) hs
      have hH2 := hH.2
      have hcs := crt_succ o (esp en (2 * P) p) (p - baj en (2 * P) (jnp en (2 * P) p)) s
      have ihe := ih (s + 1) (by omega) (by omega)
      have hr := mod_next (e := p - baj en (2 * P) (jnp en (2 * P) p)) (s := s) (show 0 < esp en (2 * P) p by omega)
      have hml := Nat.mod_lt (p - baj en (2 * P) (jnp en (2 * P) p) + s) (show 0 < esp en (2 * P) p by omega)
      have hml2 := Nat.mod_lt (p - baj en (2 * P) (jnp en (2 * P) p) + s + 1) (show 0 < esp en (2 * P) p by omega)
      generalize hK : (p - baj en (2 * P) (jnp en (2 * P) p) + s + 1) % esp en (2 * P) p = K at *
      have hq : baj en (2 * P) (jnp en (2 * P) p) + K < 2 * P := by omega
      have hs2 := (pvN hn hq).2.2.2.2.2.2.1
      have hoK : opM ga sh (t % b) (sdp en (2 * P) (baj en (2 * P) (jnp en (2 * P) p) + K) / 2) = o K := by rw [← hO]; rfl
      rw [if_neg (nI_nle (by omega) (by omega))]
      simp (disch := omega) only [ck_nI, nI_clamp, v6, v5, ckn_nI, nI_1, irem_nI, lt, hr, nI_add, (pvM hn hm hq).2.1, l_2, pk_div, isOpen_eq hn hm, hoK, bI_some, b2_0]
      by_cases w : o K = true
      · rw [if_neg (by simp [w])]
        rw [hcs, if_pos w] at ihe
        have : nI (lf - crt o (esp en (2 * P) p) (p - baj en (2 * P) (jnp en (2 * P) p)) s) + (-1) = nI (lf - (crt o (esp en (2 * P) p) (p - baj en (2 * P) (jnp en (2 * P) p)) s + 1)) := by
          rw [show lf - crt o (esp en (2 * P) p) (p - baj en (2 * P) (jnp en (2 * P) p)) s = (lf - (crt o (esp en (2 * P) p) (p - baj en (2 * P) (jnp en (2 * P) p)) s + 1)) + 1 by omega, pk_m1]
        rw [this]; exact ihe
      · have w2 : o K = false := by simpa using w
        rw [if_pos w2]
        rw [hcs, if_neg w, Nat.add_zero] at ihe
        exact ihe
theorem td_any {T : St} {J P : Nat} {en ga : Nat → Nat} {ou mk sh b : Nat} (hn : gaN J P en ga ou mk sh b) (hm : gaM T J P en ga ou mk sh b) {p t : Nat} (hp : p < 2 * P) (ht : t < 2 ^ 31) (x2 x5 : Int32) {o : Nat → Bool} (hO : (fun k => opP en ga (2 * P) sh (t % b) (baj en (2 * P) (jnp en (2 * P) p) + k)) = o) :
    ∀ m k, esp en (2 * P) p - k < m → k ≤ esp en (2 * P) p → g_X10_turned_48 m (nI (jnp en (2 * P) p)) x2 (nI t) x5 (b2 (decide (0 < fb_ct o k))) (nI k) T = if fb_ct o (esp en (2 * P) p) = 0 then some (-1, T) else g_X10_turned_112 fuel (nI (jnp en (2 * P) p)) (nI t) x5 x2 T := by
  obtain ⟨n1, n2, n3, n4, n5, n6, n7, n8, n9⟩ := pvN hn hp
  have hJ : J ≤ 8 := hn.1
  have hP : P ≤ 12 := hn.2.1
  have v5 := (hm.2.2.2.2.1 _ n1).2.2.2
  have v6 : rd T 11 (jnp en (2 * P) p) = nI (esp en (2 * P) p) := (hm.2.2.2.2.1 _ n1).2.2.1
  intro m
  induction m with
  | zero => intro s q; omega
  | succ m ih =>
    intro k q1 q2
    show f_X10_turned_48 (g_X10_turned_48 m) _ _ _ _ _ _ T = _
    unfold f_X10_turned_48
    simp (disch := omega) only [ck_nI, nI_clamp, v6, nI_leI, b2_d]
    by_cases q : k = esp en (2 * P) p
    · rw [if_pos (by omega)]
      subst q
      by_cases c : fb_ct o (esp en (2 * P) p) = 0
      · rw [if_pos (by omega), if_pos c]
      · rw [if_neg (by omega), if_neg c]
    · rw [if_neg (by omega)]
      have ihe := ih (k + 1) (by omega) (by omega)
      rw [fb_ct_succ] at ihe
      have hq : baj en (2 * P) (jnp en (2 * P) p) + k < 2 * P := by omega
      have hs2 := (pvN hn hq).2.2.2.2.2.2.1
      have hoK : opM ga sh (t % b) (sdp en (2 * P) (baj en (2 * P) (jnp en (2 * P) p) + k) / 2) = o k := by rw [← hO]; rfl
      by_cases c : 0 < fb_ct o k
      · rw [if_neg (by omega)]
        simp only [lt, nI_1]
        rw [show (decide (0 < fb_ct o k + if o k then 1 else 0)) = true by simp; omega] at ihe
        exact ihe
      · rw [if_pos c]
        simp (disch := omega) only [v5, ck_nI, nI_clamp, nI_add, (pvM hn hm hq).2.1, l_2, pk_div, isOpen_eq hn hm, hoK, bI_some, b2_0, lt, nI_1]
        by_cases w : o k = true
        · rw [if_neg (by simp [w])]
          rw [show (decide (0 < fb_ct o k + if o k then 1 else 0)) = true by simp [w]] at ihe
          exact ihe
        · have w2 : o k = false := by simpa using w
          rw [if_pos w2]
          rw [show (decide (0 < fb_ct o k + if o k then 1 else 0)) = false by simp [w2]; omega] at ihe
          exact ihe
def tdr (en ga : Nat → Nat) (N sh τ p nu : Nat) : Option Nat :=
  if nu = 0 ∧ opP en ga N sh τ p = true then some (p - baj en N (jnp en N p))
  else if fb_ct (fun k => opP en ga N sh τ (baj en N (jnp en N p) + k)) (esp en N p) = 0 then none
  else some ((p - baj en N (jnp en N p) + 1 + hit (fun k => opP en ga N sh τ (baj en N (jnp en N p) + k)) (esp en N p) (p - baj en N (jnp en N p)) (if nu = 0 then 1 else nu)) % esp en N p)
def oI (o : Option Nat) : Int32 := match o with
  | none => -1
  | some k => nI k
theorem td_eq {T : St} {J P : Nat} {en ga : Nat → Nat} {ou mk sh b : Nat} (hn : gaN J P en ga ou mk sh b) (hm : gaM T J P en ga ou mk sh b) {p t nu : Nat} (hp : p < 2 * P) (ht : t < 2 ^ 31) (hnu : nu < 10) : m_X10_turned (nI (jnp en (2 * P) p)) (nI (p - baj en (2 * P) (jnp en (2 * P) p))) (nI nu) (nI t) T = some (oI (tdr en ga (2 * P) sh (t % b) p nu), T) := by
  obtain ⟨n1, n2, n3, n4, n5, n6, n7, n8, n9⟩ := pvN hn hp
  have hJ : J ≤ 8 := hn.1
  have hP : P ≤ 12 := hn.2.1
  have v5 := (hm.2.2.2.2.1 _ n1).2.2.2
  have g34 : ¬ (nu = 0 ∧ opP en ga (2 * P) sh (t % b) p = true) → f_X10_turned_34 (nI (jnp en (2 * P) p)) (nI (p - baj en (2 * P) (jnp en (2 * P) p))) (nI t) (nI nu) T = some (oI (tdr en ga (2 * P) sh (t % b) p nu), T) := by
    intro hno
    have e0 : f_X10_turned_34 (nI (jnp en (2 * P) p)) (nI (p - baj en (2 * P) (jnp en (2 * P) p))) (nI t) (nI nu) T = g_X10_turned_48 fuel (nI (jnp en (2 * P) p)) (nI (p - baj en (2 * P) (jnp en (2 * P) p))) (nI t) (nI (if nu = 0 then 1 else nu)) 0 0 T := by
      unfold f_X10_turned_34
      by_cases w : nu = 0
      · rw [if_pos (by rw [w]; rfl), if_pos w]; rfl
      · rw [if_neg (nI_ne0 (by omega) (by omega)), if_neg w]
    have e1 := td_any hn hm hp ht (nI (p - baj en (2 * P) (jnp en (2 * P) p))) (nI (if nu = 0 then 1 else nu)) rfl fuel 0 (by unfold fuel; omega) (by omega)
    rw [e0]
    refine Eq.trans e1 ?_
    unfold tdr
    rw [if_neg hno]
    by_cases c : fb_ct (fun k => opP en ga (2 * P) sh (t % b) (baj en (2 * P) (jnp en (2 * P) p) + k)) (esp en (2 * P) p) = 0
    · rw [if_pos c, if_pos c]; rfl
    · rw [if_neg c, if_neg c]
      have hl1 : 1 ≤ (if nu = 0 then 1 else nu) ∧ (if nu = 0 then 1 else nu) ≤ 9 := by by_cases w : nu = 0 <;> simp [w] <;> omega
      obtain ⟨h1, h2⟩ := hit_ok (o := fun k => opP en ga (2 * P) sh (t % b) (baj en (2 * P) (jnp en (2 * P) p) + k)) (n := esp en (2 * P) p) (e := p - baj en (2 * P) (jnp en (2 * P) p)) n5 (by omega) hl1.1 hl1.2
      have e2 := td_loop hn hm hp ht hl1.2 h2 fuel 0 (by unfold fuel; omega) (by omega)
      have c00 : crt (fun k => opP en ga (2 * P) sh (t % b) (baj en (2 * P) (jnp en (2 * P) p) + k)) (esp en (2 * P) p) (p - baj en (2 * P) (jnp en (2 * P) p)) 0 = 0 := rfl
      rw [c00, Nat.sub_zero, Nat.add_zero, Nat.mod_eq_of_lt (show p - baj en (2 * P) (jnp en (2 * P) p) < esp en (2 * P) p by omega)] at e2
      exact e2
  unfold m_X10_turned f_X10_turned_0
  by_cases w : nu = 0
  · rw [if_pos (by rw [w]; rfl)]
    have hoK : opM ga sh (t % b) (sdp en (2 * P) p / 2) = opP en ga (2 * P) sh (t % b) p := rfl
    simp (disch := omega) only [ck_nI, nI_clamp, v5, nI_add, show baj en (2 * P) (jnp en (2 * P) p) + (p - baj en (2 * P) (jnp en (2 * P) p)) = p by omega, (pvM hn hm hp).2.1, l_2, pk_div, isOpen_eq hn hm, hoK, bI_some, b2_0]
    by_cases c : opP en ga (2 * P) sh (t % b) p = true
    · rw [if_neg (by simp [c])]
      unfold tdr
      rw [if_pos ⟨w, c⟩]; rfl
    · have c2 : opP en ga (2 * P) sh (t % b) p = false := by simpa using c
      rw [if_pos c2]; exact g34 (fun u => c u.2)
  · rw [if_neg (nI_ne0 (by omega) (by omega))]
    exact g34 (fun u => w u.1)
/-- where one is then -/
theorem tdr_trn {J P : Nat} {en ga : Nat → Nat} {ou mk sh b : Nat} (hn : gaN J P en ga ou mk sh b) {p τ nu : Nat} (hp : p < 2 * P) : (tdr en ga (2 * P) sh τ p nu = none → trn en (2 * P) (opP en ga (2 * P) sh τ) p nu = p) ∧ (∀ k, tdr en ga (2 * P) sh τ p nu = some k → baj en (2 * P) (jnp en (2 * P) p) + k < 2 * P ∧ k < esp en (2 * P) p ∧ trn en (2 * P) (opP en ga (2 * P) sh τ) p nu = otp en (2 * P) (baj en (2 * P) (jnp en (2 * P) p) + k)) := by
  obtain ⟨n1, n2, n3, n4, n5, n6, n7, n8, n9⟩ := pvN hn hp
  unfold tdr trn
  by_cases c : nu = 0 ∧ opP en ga (2 * P) sh τ p = true
  · rw [if_pos c]
    have hc : ¬ fb_ct (fun k => opP en ga (2 * P) sh τ (baj en (2 * P) (jnp en (2 * P) p) + k)) (esp en (2 * P) p) = 0 := by
      intro w
      have := fb_ct_zero.mp w (p - baj en (2 * P) (jnp en (2 * P) p)) (by omega)
      rw [show baj en (2 * P) (jnp en (2 * P) p) + (p - baj en (2 * P) (jnp en (2 * P) p)) = p by omega, c.2] at this
      cases this
    refine ⟨fun w => (by cases w), fun k hk => ?_⟩
    cases hk
    rw [if_neg hc, if_pos c, show baj en (2 * P) (jnp en (2 * P) p) + (p - baj en (2 * P) (jnp en (2 * P) p)) = p by omega]
    exact ⟨hp, by omega, rfl⟩
  · rw [if_neg c]
    by_cases d : fb_ct (fun k => opP en ga (2 * P) sh τ (baj en (2 * P) (jnp en (2 * P) p) + k)) (esp en (2 * P) p) = 0
    · rw [if_pos d, if_pos d]
      exact ⟨fun _ => rfl, fun k hk => by cases hk⟩
    · rw [if_neg d, if_neg d, if_neg c]
      refine ⟨fun w => (by cases w), fun k hk => ?_⟩
      have hk := Option.some.inj hk
      subst hk
      have := Nat.mod_lt (p - baj en (2 * P) (jnp en (2 * P) p) + 1 + hit (fun k => opP en ga (2 * P) sh τ (baj en (2 * P) (jnp en (2 * P) p) + k)) (esp en (2 * P) p) (p - baj en (2 * P) (jnp en (2 * P) p)) (if nu = 0 then 1 else nu)) n4
      exact ⟨by omega, this, rfl⟩
