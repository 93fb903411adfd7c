/-! ===== places as both sides see them; tale and turn ===== -/
def esp (en : Nat → Nat) (N p : Nat) : Nat := ctj en (jnp en N p) N
def bdp (en : Nat → Nat) (N p k : Nat) : Nat := otp en N (baj en N (jnp en N p) + (p - baj en N (jnp en N p) + k) % esp en N p)
theorem pvX {S : St} {J P : Nat} {en ga : Nat → Nat} {ou mk sh b : Nat} (hn : gaN J P en ga ou mk sh b) (hx : gaX S J P en ga ou mk sh b) {p : Nat} (hp : p < 2 * P) : rd S 10 p = nI (jnp en (2 * P) p) ∧ rd S 11 p = nI (p - baj en (2 * P) (jnp en (2 * P) p)) ∧ rd S 12 p = nI (sdp en (2 * P) p / 2) ∧ rd S 13 p = nI (otp en (2 * P) p) := by
  obtain ⟨s1, s2⟩ := sdp_lt hn.2.2.1 hp
  obtain ⟨x1, x2, x3⟩ := hx.2.2.2.2.2.2.2.2.2 _ s1
  obtain ⟨j1, j2, j3, j4⟩ := jnp_in hn.2.2.1 hp
  unfold nuxR at x1
  rw [s2] at x1 x2
  rw [j4]
  exact ⟨x1.1, x1.2.1, x1.2.2.1, x2⟩
theorem pvM {T : St} {J P : Nat} {en ga : Nat → Nat} {ou mk sh b : Nat} (hn : gaN J P en ga ou mk sh b) (hm : gaM T J P en ga ou mk sh b) {p : Nat} (hp : p < 2 * P) : rd T 8 p = nI (jnp en (2 * P) p) ∧ rd T 9 p = nI (sdp en (2 * P) p) ∧ rd T 10 (sdp en (2 * P) p ^^^ 1) = nI (otp en (2 * P) p) := by
  obtain ⟨s1, s2⟩ := sdp_lt hn.2.2.1 hp
  obtain ⟨y1, y2⟩ := hm.2.2.2.2.2.2 _ s1
  unfold numR at y2
  rw [s2] at y2
  exact ⟨y2.1, y2.2.1, (hm.2.2.2.2.2.2 _ (x1_lt s1)).2.2.2⟩
theorem pvN {J P : Nat} {en ga : Nat → Nat} {ou mk sh b : Nat} (hn : gaN J P en ga ou mk sh b) {p : Nat} (hp : p < 2 * P) : jnp en (2 * P) p < J ∧ baj en (2 * P) (jnp en (2 * P) p) ≤ p ∧ p < baj en (2 * P) (jnp en (2 * P) p) + esp en (2 * P) p ∧ 1 ≤ esp en (2 * P) p ∧ esp en (2 * P) p ≤ 6 ∧ otp en (2 * P) p < 2 * P ∧ sdp en (2 * P) p < 2 * P ∧ (sdp en (2 * P) p ^^^ 1) < 2 * P ∧ baj en (2 * P) (jnp en (2 * P) p) + esp en (2 * P) p ≤ 2 * P := by
  obtain ⟨j1, j2, j3, j4⟩ := jnp_in hn.2.2.1 hp
  have h1 := hn.2.2.2.1 _ j1
  have h2 := otp_lt hn.2.2.1 hp
  have h3 := sdp_lt hn.2.2.1 hp
  have h4 := baj_mono en (2 * P) j1
  rw [baj_all hn.2.2.1] at h4
  unfold esp
  exact ⟨j1, j2, j3, by omega, h1, h2, h3.1, x1_lt h3.1, h4⟩
theorem bdp_in {J P : Nat} {en ga : Nat → Nat} {ou mk sh b : Nat} (hn : gaN J P en ga ou mk sh b) {p : Nat} (hp : p < 2 * P) (k : Nat) : baj en (2 * P) (jnp en (2 * P) p) + (p - baj en (2 * P) (jnp en (2 * P) p) + k) % esp en (2 * P) p < 2 * P ∧ bdp en (2 * P) p k < 2 * P := by
  obtain ⟨n1, n2, n3, n4, n5, n6, n7, n8, n9⟩ := pvN hn hp
  have := Nat.mod_lt (p - baj en (2 * P) (jnp en (2 * P) p) + k) n4
  have h1 : baj en (2 * P) (jnp en (2 * P) p) + (p - baj en (2 * P) (jnp en (2 * P) p) + k) % esp en (2 * P) p < 2 * P := by omega
  exact ⟨h1, otp_lt hn.2.2.1 h1⟩
theorem endsAt_eq {S : St} {J P : Nat} {en ga : Nat → Nat} {ou mk sh b : Nat} (hn : gaN J P en ga ou mk sh b) (hx : gaX S J P en ga ou mk sh b) {p : Nat} (hp : p < 2 * P) : m_X0_endsAt (nI p) S = some (nI (esp en (2 * P) p), S) := by
  obtain ⟨n1, n2, n3, n4, n5, n6, n7, n8, n9⟩ := pvN hn hp
  have hJ : J ≤ 8 := hn.1
  have hP : P ≤ 12 := hn.2.1
  unfold m_X0_endsAt f_X0_endsAt_0
  simp (disch := omega) only [ck_nI, nI_clamp, (pvX hn hx hp).1]
  rw [(hx.2.2.2.2.2.2.2.2.1 _ n1).1]; rfl
theorem beyond_eq {S : St} {J P : Nat} {en ga : Nat → Nat} {ou mk sh b : Nat} (hn : gaN J P en ga ou mk sh b) (hx : gaX S J P en ga ou mk sh b) {p : Nat} (hp : p < 2 * P) {k : Nat} (hk : k < 1000) : m_X0_beyond (nI p) (nI k) S = some (nI (bdp en (2 * P) p k), S) := by
  obtain ⟨n1, n2, n3, n4, n5, n6, n7, n8, n9⟩ := pvN hn hp
  obtain ⟨b1, b2⟩ := bdp_in hn hp k
  have hJ : J ≤ 8 := hn.1
  have hP : P ≤ 12 := hn.2.1
  obtain ⟨v1, v2, v3, v4⟩ := pvX hn hx hp
  have v5 := (hx.2.2.2.2.2.2.2.2.1 _ n1).2
  unfold m_X0_beyond f_X0_beyond_0
  rw [endsAt_eq hn hx hp]
  simp (disch := omega) only [bI_some, l_1, nI_leI, ck_nI, nI_clamp, v1, v2, v5, ckn_nI, nI_add, irem_nI, (pvX hn hx b1).2.2.2]
  rw [if_pos n4]; rfl
theorem led_eq {T : St} {J P : Nat} {en ga : Nat → Nat} {ou mk sh b : Nat} (hn : gaN J P en ga ou mk sh b) (hm : gaM T J P en ga ou mk sh b) {p : Nat} (hp : p < 2 * P) {k : Nat} (hk : k < 1000) : m_X10_led (nI p) (nI k) T = some (nI (bdp en (2 * P) p k), T) := by
  obtain ⟨n1, n2, n3, n4, n5, n6, n7, n8, n9⟩ := pvN hn hp
  obtain ⟨b1, b2⟩ := bdp_in hn hp k
  have hJ : J ≤ 8 := hn.1
  have hP : P ≤ 12 := hn.2.1
  obtain ⟨v1, v2, v3⟩ := pvM hn hm hp
  obtain ⟨v4, v5⟩ := (hm.2.2.2.2.1 _ n1).2.2
  have v4 : rd T 11 (jnp en (2 * P) p) = nI (esp en (2 * P) p) := v4
  obtain ⟨w1, w2, w3⟩ := pvM hn hm b1
  have w4 := (pvN hn b1).2.2.2.2.2.2.2.1
  unfold m_X10_led f_X10_led_0
  simp (disch := omega) only [lt, ck_nI, nI_clamp, v1, v4, v5, ckn_nI, pk_sub, nI_add, irem_nI, w2, l_1, fb_xorI, w3]
  rfl
/-! sets as bits -/
def bset (f : Nat → Bool) : Nat → Nat
  | 0 => 0
  | n + 1 => if f n then sb (bset f n) n else bset f n
theorem bset_tb (f : Nat → Bool) : ∀ n k, (bset f n).testBit k = (decide (k < n) && f k)
  | 0, k => by simp [bset]
  | n + 1, k => by
    show (if f n then sb (bset f n) n else bset f n).testBit k = _
    have h := bset_tb f n k
    by_cases q : f n = true
    · rw [if_pos q, sb_tb, h]
      by_cases w : k = n
      · subst w; simp [q]
      · have : (decide (k < n)) = decide (k < n + 1) := by by_cases u : k < n <;> simp [u] <;> omega
        simp [w, this]
    · rw [if_neg q, h]
      by_cases w : k = n
      · subst w; simp [q]
      · have : (decide (k < n)) = decide (k < n + 1) := by by_cases u : k < n <;> simp [u] <;> omega
        simp [this]
theorem bset_lt (f : Nat → Bool) : ∀ n, bset f n < 2 ^ n
  | 0 => by simp [bset]
  | n + 1 => by
    have h := bset_lt f n
    have h2 : bset f n < 2 ^ (n + 1) := Nat.lt_of_lt_of_le h (Nat.pow_le_pow_right (by decide) (by omega))
    show (if f n then sb (bset f n) n else bset f n) < _
    by_cases q : f n = true
    · rw [if_pos q]; exact sb_lt h2 (by omega)
    · rw [if_neg q]; exact h2
theorem pwE_loop {S : St} {J P : Nat} {en ga : Nat → Nat} {ou mk sh b : Nat} (hn : gaN J P en ga ou mk sh b) (hx : gaX S J P en ga ou mk sh b) {e : Nat} (he : e < 2 ^ 31) :
    ∀ n p, 2 * P - p < n → p ≤ 2 * P → g_X0_placesWithEnds_4 n (nI e) (nI (bset (fun p => esp en (2 * P) p == e) p)) (nI p) S = some (nI (bset (fun p => esp en (2 * P) p == e) (2 * P)), S) := by
  intro n
  induction n with
  | zero => intro p q; omega
  | succ n ih =>
    intro p h1 h2
    have hP : P ≤ 12 := hn.2.1
    show f_X0_placesWithEnds_4 (g_X0_placesWithEnds_4 n) _ _ _ S = _
    unfold f_X0_placesWithEnds_4
    simp (disch := omega) only [hx.2.2.1, nI_leI]
    by_cases q : p = 2 * P
    · subst q; rw [if_pos (by omega)]
    · rw [if_neg (by omega), endsAt_eq hn hx (by omega)]
      have n5 := (pvN hn (show p < 2 * P by omega)).2.2.2.2.1
      simp (disch := omega) only [bI_some, nI_eq, with1_eq, lt, nI_1]
      have ihe := ih (p + 1) (by omega) (by omega)
      by_cases w : esp en (2 * P) p = e
      · rw [if_pos w]
        have : bset (fun p => esp en (2 * P) p == e) (p + 1) = sb (bset (fun p => esp en (2 * P) p == e) p) p := if_pos (by simp [w])
        rw [this] at ihe; exact ihe
      · rw [if_neg w]
        have : bset (fun p => esp en (2 * P) p == e) (p + 1) = bset (fun p => esp en (2 * P) p == e) p := if_neg (by simp [w])
        rw [this] at ihe; exact ihe
theorem pwE_eq {S : St} {J P : Nat} {en ga : Nat → Nat} {ou mk sh b : Nat} (hn : gaN J P en ga ou mk sh b) (hx : gaX S J P en ga ou mk sh b) {e : Nat} (he : e < 2 ^ 31) : m_X0_placesWithEnds (nI e) S = some (nI (bset (fun p => esp en (2 * P) p == e) (2 * P)), S) :=
  pwE_loop hn hx he fuel 0 (by have : P ≤ 12 := hn.2.1; unfold fuel; omega) (by omega)
theorem lshl1 {k : Nat} (hk : k < 64) : lshl 1 (nI k) = lN (2 ^ k) := by
  unfold lshl
  have := wb_shl 1 hk
  rw [Nat.one_mul] at this
  exact this
theorem lor0 (x : Int64) : x ||| 0 = x := by simp
theorem see_loop {T : St} {J P : Nat} {en ga : Nat → Nat} {ou mk sh b : Nat} (hn : gaN J P en ga ou mk sh b) (hm : gaM T J P en ga ou mk sh b) {e : Nat} (he : e < 2 ^ 31) :
    ∀ n p, 2 * P - p < n → p ≤ 2 * P → g_X10_seeing_5 n (nI e) (lN (bset (fun p => esp en (2 * P) p == e) p)) (nI p) T = some (lN (bset (fun p => esp en (2 * P) p == e) (2 * P)), T) := by
  intro n
  induction n with
  | zero => intro p q; omega
  | succ n ih =>
    intro p h1 h2
    have hP : P ≤ 12 := hn.2.1
    have hJ : J ≤ 8 := hn.1
    show f_X10_seeing_5 (g_X10_seeing_5 n) _ _ _ T = _
    unfold f_X10_seeing_5
    simp (disch := omega) only [hm.2.2.2.1, nI_leI]
    by_cases q : p = 2 * P
    · subst q; rw [if_pos (by omega)]
    · rw [if_neg (by omega)]
      have hp : p < 2 * P := by omega
      obtain ⟨n1, n2, n3, n4, n5, n6⟩ := pvN hn hp
      have v4 : rd T 11 (jnp en (2 * P) p) = nI (esp en (2 * P) p) := (hm.2.2.2.2.1 _ n1).2.2.1
      simp (disch := omega) only [ck_nI, nI_clamp, (pvM hn hm hp).1, v4, nI_eq, lshl1, fb_orL, lt, nI_1, lor0]
      have ihe := ih (p + 1) (by omega) (by omega)
      by_cases w : esp en (2 * P) p = e
      · rw [if_pos w]
        have : bset (fun p => esp en (2 * P) p == e) (p + 1) = sb (bset (fun p => esp en (2 * P) p == e) p) p := if_pos (by simp [w])
        rw [this] at ihe; exact ihe
      · rw [if_neg w]
        have : bset (fun p => esp en (2 * P) p == e) (p + 1) = bset (fun p => esp en (2 * P) p == e) p := if_neg (by simp [w])
        rw [this] at ihe; exact ihe
theorem see_eq {T : St} {J P : Nat} {en ga : Nat → Nat} {ou mk sh b : Nat} (hn : gaN J P en ga ou mk sh b) (hm : gaM T J P en ga ou mk sh b) {e : Nat} (he : e < 2 ^ 31) : m_X10_seeing (nI e) T = some (lN (bset (fun p => esp en (2 * P) p == e) (2 * P)), T) :=
  see_loop hn hm he fuel 0 (by have : P ≤ 12 := hn.2.1; unfold fuel; omega) (by omega)
theorem Rl_Uu {S T S' T' : St} (h : Rl S T) (hU : relU S' T') (hS : ∀ c i, c ≠ 31 → rd S' c i = rd S c i) (hT : ∀ c i, (c ≠ 0 ∨ (i ≠ 2 ∧ i ≠ 48)) → rd T' c i = rd T c i) : Rl S' T' :=
  Rl_GU h (relG_fr h.2.2.2.1 (fun c i q => hS c i (by omega)) (fun c i q => hT c i (by omega))) hU (fun c i q1 q2 => hS c i q2) (fun c i q1 q2 => hT c i (by omega))
theorem b24 {P x : Nat} (hP : P ≤ 12) (h : x < 2 ^ (2 * P)) : x < 2 ^ 24 := Nat.lt_of_lt_of_le h (Nat.pow_le_pow_right (by decide) (by omega))
theorem st_tale : St_tale Rl := by
  intro a1 S T h
  obtain ⟨J, P, en, ga, ou, mk, sh, b, hn, hx, hm⟩ := h.2.2.2.1
  unfold m_X9_tale f_X9_tale_0 m_X10_tale f_X10_tale_0 m_X9_isSeeable f_X9_isSeeable_0
  simp only [lt]
  by_cases c : a1 < 0
  · simp only [if_pos c, bI_some, if_true]; exact ⟨_, _, _, rfl, rfl, Rl_0 h 0⟩
  · obtain ⟨e, he, rfl⟩ := nI_of c
    simp only [if_neg c]
    simp (disch := omega) only [l_6, nI_ltI, nI_leI]
    by_cases q : e ≤ 6
    · rw [if_neg (by omega), if_pos q]
      simp only [bI_some]
      rw [if_neg (by decide)]
      have hx1 : gaX (up S 31 1 0) J P en ga ou mk sh b := gaX_fr hx (fun c i w => rd_ne (by omega))
      have hm1 : gaM (up (up T 0 2 0) 0 48 0) J P en ga ou mk sh b := gaM_fr hm (fun c i w => by rw [rd_ne (by omega), rd_ne (by omega)])
      unfold m_X6_begin f_X6_begin_0
      simp only [lt]
      rw [pwE_eq hn hx1 he, see_eq hn hm1 he]
      have hb := b24 hn.2.1 (bset_lt (fun p => esp en (2 * P) p == e) (2 * P))
      simp only [bI_some, bV_some, bL_some, rd_same, rdL_upL, nI_l (show bset (fun p => esp en (2 * P) p == e) (2 * P) < 2 ^ 31 by omega)]
      refine ⟨_, _, _, rfl, rfl, ?_⟩
      refine Rl_Uu h (Or.inr ⟨0, _, by omega, ?_, ?_, hb, rd_same _ _ _ _, rfl⟩) (fun c i w => by simp (disch := omega) only [rd_ne]) (fun c i w => by simp (disch := omega) only [rd_upL, rd_ne])
      · simp (disch := omega) only [rd_ne, rd_same]; rfl
      · simp (disch := omega) only [rd_upL, rd_same]; rfl
    · rw [if_pos (by omega), if_neg q]
      simp only [bI_some, if_true]; exact ⟨_, _, _, rfl, rfl, Rl_0 h 0⟩
def accT (en : Nat → Nat) (N k h : Nat) : Nat → Nat
  | 0 => 0
  | p + 1 => if h.testBit p then sb (accT en N k h p) (bdp en N p k) else accT en N k h p
theorem accT_lt {J P : Nat} {en ga : Nat → Nat} {ou mk sh b : Nat} (hn : gaN J P en ga ou mk sh b) (k h : Nat) : ∀ p, p ≤ 2 * P → accT en (2 * P) k h p < 2 ^ 24
  | 0, _ => by simp [accT]
  | p + 1, hp => by
    have w := accT_lt hn k h p (by omega)
    have hP : P ≤ 12 := hn.2.1
    show (if h.testBit p then _ else _) < _
    by_cases q : h.testBit p = true
    · rw [if_pos q]; exact sb_lt w (by have := (bdp_in hn (show p < 2 * P by omega) k).2; omega)
    · rw [if_neg q]; exact w
theorem goOn_loop {S : St} {J P : Nat} {en ga : Nat → Nat} {ou mk sh b : Nat} (hn : gaN J P en ga ou mk sh b) (hx : gaX S J P en ga ou mk sh b) {k e h t : Nat} (hk : k < 1000) (he : e < 2 ^ 31) (h0 : rd S 31 0 = nI h) (hh : h < 2 ^ 24) (h1 : rd S 31 1 = nI t) :
    ∀ n p, 2 * P - p < n → p ≤ 2 * P → g_X6_goOn_5 n (nI k) (nI e) (nI (accT en (2 * P) k h p)) (nI p) S = some (up (up S 31 1 (nI (t + 1))) 31 0 (nI (accT en (2 * P) k h (2 * P) &&& bset (fun p => esp en (2 * P) p == e) (2 * P)))) := by
  intro n
  induction n with
  | zero => intro p q; omega
  | succ n ih =>
    intro p q1 q2
    have hP : P ≤ 12 := hn.2.1
    show f_X6_goOn_5 (g_X6_goOn_5 n) _ _ _ _ S = _
    unfold f_X6_goOn_5
    simp (disch := omega) only [hx.2.2.1, nI_leI]
    by_cases q : p = 2 * P
    · subst q; rw [if_pos (by omega)]
      have hx1 : gaX (up S 31 1 (rd S 31 1 + 1)) J P en ga ou mk sh b := gaX_fr hx (fun c i w => rd_ne (by omega))
      simp only [lt]
      rw [pwE_eq hn hx1 he]
      simp only [bI_some, h1, nI_1, fa_and]
    · rw [if_neg (by omega), h0, hasBit_eq S (by omega) (by omega)]
      simp only [bI_some, b2_0]
      have ihe := ih (p + 1) (by omega) (by omega)
      by_cases w : h.testBit p = true
      · have hb := (bdp_in hn (show p < 2 * P by omega) k).2
        rw [if_neg (by simp [w]), beyond_eq hn hx (by omega) hk]
        simp (disch := omega) only [bI_some, with1_eq, lt, nI_1]
        have : accT en (2 * P) k h (p + 1) = sb (accT en (2 * P) k h p) (bdp en (2 * P) p k) := if_pos w
        rw [this] at ihe; exact ihe
      · have w2 : h.testBit p = false := by simpa using w
        rw [if_pos w2]
        simp only [lt, nI_1]
        have : accT en (2 * P) k h (p + 1) = accT en (2 * P) k h p := if_neg w
        rw [this] at ihe; exact ihe
theorem lcmp1 {x : Nat} (hx : x < 2) : (lg_cmp (lN x) 1 = 0) ↔ x = 1 := by
  have : x = 0 ∨ x = 1 := by omega
  rcases this with rfl | rfl
  · constructor
    · intro h; exact absurd h (by decide +kernel)
    · intro h; cases h
  · constructor
    · intro _; rfl
    · intro _; decide +kernel
theorem lbit {h p : Nat} (hh : h < 2 ^ 24) (hp : p < 64) : (lsshr (lN h) (nI p) &&& 1) = lN (h / 2 ^ p % 2) := by
  unfold lsshr
  rw [wb_c p hp, pf_shr (d := p) (by show ((BitVec.ofNat 64 p).smod 64).toNat = p; rw [wb_sm p hp]; show p % 2 ^ 64 = p; omega) (by omega)]
  exact wb_a1 (Nat.lt_of_le_of_lt (Nat.div_le_self _ _) (by omega))
theorem turn_loop {T : St} {J P : Nat} {en ga : Nat → Nat} {ou mk sh b : Nat} (hn : gaN J P en ga ou mk sh b) (hm : gaM T J P en ga ou mk sh b) {k e h t : Nat} (hk : k < 1000) (he : e < 2 ^ 31) (h0 : rdL T = lN h) (hh : h < 2 ^ 24) (h1 : rd T 0 48 = nI t) :
    ∀ n p, 2 * P - p < n → p ≤ 2 * P → g_X10_turn_50 n (nI k) (nI e) (lN (accT en (2 * P) k h p)) (nI p) T = some (lN (accT en (2 * P) k h (2 * P) &&& bset (fun p => esp en (2 * P) p == e) (2 * P)), up (upL T (lN (accT en (2 * P) k h (2 * P) &&& bset (fun p => esp en (2 * P) p == e) (2 * P)))) 0 48 (nI (t + 1))) := by
  intro n
  induction n with
  | zero => intro p q; omega
  | succ n ih =>
    intro p q1 q2
    have hP : P ≤ 12 := hn.2.1
    show f_X10_turn_50 (g_X10_turn_50 n) _ _ _ _ T = _
    unfold f_X10_turn_50
    simp (disch := omega) only [hm.2.2.2.1, nI_leI]
    by_cases q : p = 2 * P
    · subst q; rw [if_pos (by omega)]
      simp only [lt]
      rw [see_eq hn hm he]
      simp only [bL_some, h1, rd_upL, nI_1, fb_andL, rdL_up, rdL_upL]
    · have hl2 : h / 2 ^ p % 2 < 2 := Nat.mod_lt _ (by decide)
      rw [if_neg (by omega), h0, lbit hh (by omega)]
      simp only [lcmp1 hl2, tb_mod]
      have ihe := ih (p + 1) (by omega) (by omega)
      by_cases w : h.testBit p = true
      · have hb := (bdp_in hn (show p < 2 * P by omega) k).2
        rw [if_pos (by rw [w]; rfl), led_eq hn hm (by omega) hk]
        simp (disch := omega) only [bI_some, lshl1, fb_orL, lt, nI_1]
        have : accT en (2 * P) k h (p + 1) = sb (accT en (2 * P) k h p) (bdp en (2 * P) p k) := if_pos w
        rw [this] at ihe; exact ihe
      · have w2 : h.testBit p = false := by simpa using w
        rw [if_neg (by rw [w2]; decide)]
        simp only [lt, nI_1]
        have : accT en (2 * P) k h (p + 1) = accT en (2 * P) k h p := if_neg w
        rw [this] at ihe; exact ihe
theorem st_turn : St_turn Rl := by
  intro a1 a2 S T h
  obtain ⟨J, P, en, ga, ou, mk, sh, b, hn, hx, hm⟩ := h.2.2.2.1
  have hP : P ≤ 12 := hn.2.1
  unfold m_X9_turn f_X9_turn_0 m_X10_turn f_X10_turn_0 m_X6_canGoOn f_X6_canGoOn_0 m_X9_isSeeable f_X9_isSeeable_0
  simp (disch := omega) only [lt, rd_ne]
  rcases Rl_U h with ⟨u1, u2⟩ | ⟨t, w, u1, u2, u3, u4, u5, u6⟩
  · rw [if_pos u1, u2, if_pos m1_lt]
    simp only [bI_some, if_true]; exact ⟨_, _, _, rfl, rfl, Rl_0 h 0⟩
  · rw [u2, u3, if_neg (by rw [nI_ne_m1 (by omega)]; exact id), if_neg (nI_pos (show t < 2 ^ 31 by omega))]
    simp (disch := omega) only [l_8, nI_leI, nI_eq]
    by_cases q : t = 8
    · rw [if_pos (by omega), if_pos q]
      simp only [bI_some, if_true]; exact ⟨_, _, _, rfl, rfl, Rl_0 h 0⟩
    · rw [if_neg (by omega), if_neg q]
      simp only [bI_some]
      rw [if_neg (by decide)]
      by_cases c : a1 < 0
      · simp only [if_pos c]; exact ⟨_, _, _, rfl, rfl, Rl_0 h 0⟩
      · by_cases c2 : 9 < a1
        · simp only [if_neg c, if_pos c2]; exact ⟨_, _, _, rfl, rfl, Rl_0 h 0⟩
        · simp only [if_neg c, if_neg c2]
          obtain ⟨k, hk, rfl⟩ := nI_of c
          simp (disch := omega) only [l_9, nI_ltI] at c2
          by_cases d : a2 < 0
          · simp only [if_pos d, bI_some, if_true]; exact ⟨_, _, _, rfl, rfl, Rl_0 h 0⟩
          · obtain ⟨e, he, rfl⟩ := nI_of d
            simp only [if_neg d]
            simp (disch := omega) only [l_6, nI_ltI, nI_leI]
            by_cases d2 : e ≤ 6
            · rw [if_neg (by omega), if_pos d2]
              simp only [bI_some]
              rw [if_neg (by decide)]
              have hm1 : gaM (up T 0 2 0) J P en ga ou mk sh b := gaM_fr hm (fun c i w => by rw [rd_ne (by omega)])
              have g1 : m_X6_goOn (nI k) (nI e) S = _ := goOn_loop hn hx (show k < 1000 by omega) he u5 u4 u2 fuel 0 (by unfold fuel; omega) (by omega)
              have g2 := turn_loop hn hm1 (show k < 1000 by omega) he (t := t) (by rw [rdL_up]; exact u6) u4 (by rw [rd_ne (by omega)]; exact u3) fuel 0 (by unfold fuel; omega) (by omega)
              have hb := b24 hP (bset_lt (fun p => esp en (2 * P) p == e) (2 * P))
              have ha := accT_lt hn k w (2 * P) (Nat.le_refl _)
              have hab : accT en (2 * P) k w (2 * P) &&& bset (fun p => esp en (2 * P) p == e) (2 * P) < 2 ^ 24 := Nat.and_lt_two_pow _ hb
              rw [g1]
              simp only [bV_some, rd_same]
              refine ⟨_, _, _, rfl, by rw [nI_l (by omega)]; exact g2, ?_⟩
              · refine Rl_Uu h (Or.inr ⟨t + 1, _, by omega, ?_, ?_, hab, rd_same _ _ _ _, rfl⟩) (fun c i w => by simp (disch := omega) only [rd_ne]) (fun c i w => by simp (disch := omega) only [rd_upL, rd_ne])
                · simp (disch := omega) only [rd_ne, rd_same]
                · simp (disch := omega) only [rd_upL, rd_same]
            · rw [if_pos (by omega), if_neg d2]
              simp only [bI_some, if_true]; exact ⟨_, _, _, rfl, rfl, Rl_0 h 0⟩
