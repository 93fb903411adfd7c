/-! ===== how a walker turns ===== -/
def crt (o : Nat → Bool) (n e s : Nat) : Nat := fb_ct (fun i => o ((e + 1 + i) % n)) s
def Hit (o : Nat → Bool) (n e lf i : Nat) : Prop := o ((e + 1 + i) % n) = true ∧ crt o n e i + 1 = lf
def hit (o : Nat → Bool) (n e lf : Nat) : Nat := fa_first (fun i => o ((e + 1 + i) % n) && (crt o n e i + 1 == lf)) 100
theorem rot_1 {q : Nat → Bool} {n : Nat} (hq : ∀ i, q (i + n) = q i) (a : Nat) : fb_ct (fun i => q (a + 1 + i)) n = fb_ct (fun i => q (a + i)) n := by
  have h1 := fb_ct_succ (fun i => q (a + i)) n
  have h2 := fb_ct_split (fun i => q (a + i)) 1 n
  rw [Nat.add_comm 1 n, h1] at h2
  have h3 : fb_ct (fun i => q (a + i)) 1 = if q a then 1 else 0 := by rw [fb_ct_succ]; show 0 + _ = _; simp
  have h4 : fb_ct (fun k => (fun i => q (a + i)) (1 + k)) n = fb_ct (fun i => q (a + 1 + i)) n := fb_ct_cong (fun k _ => by show q (a + (1 + k)) = q (a + 1 + k); rw [Nat.add_assoc])
  have h5 : q (a + n) = q a := hq a
  rw [h3, h4, h5] at h2
  omega
theorem rot_all {q : Nat → Bool} {n : Nat} (hq : ∀ i, q (i + n) = q i) : ∀ a, fb_ct (fun i => q (a + i)) n = fb_ct q n
  | 0 => fb_ct_cong (fun k _ => by show q (0 + k) = q k; rw [Nat.zero_add])
  | a + 1 => by rw [rot_1 hq a]; exact rot_all hq a
theorem crt_n {o : Nat → Bool} {n : Nat} (e : Nat) : crt o n e n = fb_ct o n := by
  have h := rot_all (q := fun i => o (i % n)) (n := n) (fun i => by show o ((i + n) % n) = o (i % n); rw [Nat.add_mod_right]) (e + 1)
  unfold crt
  rw [h]
  exact fb_ct_cong (fun k hk => by show o (k % n) = o k; rw [Nat.mod_eq_of_lt hk])
theorem crt_add {o : Nat → Bool} {n : Nat} (e s : Nat) : crt o n e (s + n) = crt o n e s + fb_ct o n := by
  have h := fb_ct_split (fun i => o ((e + 1 + i) % n)) n s
  have h2 : fb_ct (fun k => (fun i => o ((e + 1 + i) % n)) (n + k)) s = crt o n e s := fb_ct_cong (fun k _ => by show o ((e + 1 + (n + k)) % n) = o ((e + 1 + k) % n); rw [show e + 1 + (n + k) = e + 1 + k + n by omega, Nat.add_mod_right])
  rw [h2] at h
  have h3 := crt_n (o := o) (n := n) e
  unfold crt at *
  rw [Nat.add_comm s n]
  omega
theorem crt_mul {o : Nat → Bool} {n : Nat} (e s : Nat) : ∀ m, crt o n e (s + m * n) = crt o n e s + m * fb_ct o n
  | 0 => by simp
  | m + 1 => by
    have h := crt_mul (o := o) (n := n) e s m
    have h2 := crt_add (o := o) (n := n) e (s + m * n)
    rw [show s + (m + 1) * n = s + m * n + n by rw [Nat.succ_mul]; omega, h2, h, Nat.succ_mul]
    omega
theorem Hit_one {o : Nat → Bool} {n e lf i j : Nat} (hi : Hit o n e lf i) (hj : Hit o n e lf j) : i = j := by
  have h : crt o n e i = crt o n e j := by have := hi.2; have := hj.2; omega
  exact fb_ct_kth_one (p := fun i => o ((e + 1 + i) % n)) hi.1 hj.1 h
theorem Hit_ex {o : Nat → Bool} {n e lf m : Nat} (h1 : 1 ≤ lf) (h2 : lf ≤ m * fb_ct o n) : ∃ i, i < m * n ∧ Hit o n e lf i := by
  have h3 := crt_mul (o := o) (n := n) e 0 m
  have h4 : crt o n e 0 = 0 := rfl
  rw [Nat.zero_add, h4, Nat.zero_add] at h3
  obtain ⟨i, i1, i2, i3⟩ := fb_ct_kth (p := fun i => o ((e + 1 + i) % n)) (k := lf - 1) (n := m * n) (by unfold crt at h3; omega)
  exact ⟨i, i1, i2, by unfold crt; omega⟩
theorem hit_of {o : Nat → Bool} {n e lf i : Nat} (h : Hit o n e lf i) (hi : i < 100) : hit o n e lf = i := by
  have h1 : hit o n e lf < 100 := by
    rcases Nat.lt_or_ge (hit o n e lf) 100 with q | q
    · exact q
    · have := fa_first_no (fun i => o ((e + 1 + i) % n) && (crt o n e i + 1 == lf)) 100 i (by unfold hit at q; omega)
      simp [h.1, h.2] at this
  have h2 := fa_first_yes (fun i => o ((e + 1 + i) % n) && (crt o n e i + 1 == lf)) 100 h1
  have h2 : Hit o n e lf (hit o n e lf) := by
    simp only [Bool.and_eq_true, beq_iff_eq] at h2
    exact h2
  exact Hit_one h2 h
theorem hit_ok {o : Nat → Bool} {n e lf : Nat} (hn : n ≤ 6) (hc : 1 ≤ fb_ct o n) (h1 : 1 ≤ lf) (h9 : lf ≤ 9) : hit o n e lf < 54 ∧ Hit o n e lf (hit o n e lf) := by
  have : 9 * 1 ≤ 9 * fb_ct o n := Nat.mul_le_mul_left 9 hc
  obtain ⟨i, i1, i2⟩ := Hit_ex (o := o) (n := n) (e := e) (m := 9) h1 (by omega)
  rw [hit_of i2 (by omega)]
  exact ⟨by omega, i2⟩
/-- the same end, once round or often -/
theorem hit_mod {o : Nat → Bool} {n e lf : Nat} (hn : n ≤ 6) (hc : 1 ≤ fb_ct o n) (h1 : 1 ≤ lf) (h9 : lf ≤ 9) : hit o n e ((lf - 1) % fb_ct o n + 1) < n ∧ (e + 1 + hit o n e lf) % n = (e + 1 + hit o n e ((lf - 1) % fb_ct o n + 1)) % n := by
  have hm := Nat.mod_lt (lf - 1) hc
  have hd := Nat.div_add_mod (lf - 1) (fb_ct o n)
  obtain ⟨i, i1, i2⟩ := Hit_ex (o := o) (n := n) (e := e) (m := 1) (lf := (lf - 1) % fb_ct o n + 1) (by omega) (by omega)
  have e1 := hit_of i2 (by omega)
  obtain ⟨l1, l2⟩ := hit_ok (e := e) hn hc h1 h9
  have h3 : Hit o n e lf (i + (lf - 1) / fb_ct o n * n) := by
    refine ⟨?_, ?_⟩
    · rw [show e + 1 + (i + (lf - 1) / fb_ct o n * n) = e + 1 + i + (lf - 1) / fb_ct o n * n by omega, Nat.add_mul_mod_self_right]; exact i2.1
    · rw [crt_mul]
      have := i2.2
      have : (lf - 1) / fb_ct o n * fb_ct o n = fb_ct o n * ((lf - 1) / fb_ct o n) := Nat.mul_comm _ _
      omega
  have e2 := Hit_one l2 h3
  rw [e1, e2]
  refine ⟨by omega, ?_⟩
  rw [show e + 1 + (i + (lf - 1) / fb_ct o n * n) = e + 1 + i + (lf - 1) / fb_ct o n * n by omega, Nat.add_mul_mod_self_right]
theorem crt_succ (o : Nat → Bool) (n e s : Nat) : crt o n e (s + 1) = crt o n e s + (if o ((e + s + 1) % n) then 1 else 0) := by
  unfold crt
  rw [fb_ct_succ]
  show _ + (if o ((e + 1 + s) % n) then 1 else 0) = _
  rw [show e + 1 + s = e + s + 1 by omega]
theorem crt_le {o : Nat → Bool} {n e s i : Nat} (h : s ≤ i) : crt o n e s ≤ crt o n e i := fb_ct_mono _ h
theorem mod_next {e s n : Nat} (hn : 0 < n) : ((e + s) % n + 1) % n = (e + s + 1) % n := by rw [Nat.mod_add_mod]
/-- who is at p and turns by nu where op says what is open -/
def trn (en : Nat → Nat) (N : Nat) (op : Nat → Bool) (p nu : Nat) : Nat :=
  if fb_ct (fun k => op (baj en N (jnp en N p) + k)) (esp en N p) = 0 then p
  else if nu = 0 ∧ op p = true then otp en N p
  else otp en N (baj en N (jnp en N p) + (p - baj en N (jnp en N p) + 1 + hit (fun k => op (baj en N (jnp en N p) + k)) (esp en N p) (p - baj en N (jnp en N p)) (if nu = 0 then 1 else nu)) % esp en N p)
theorem trn_lt {J P : Nat} {en ga : Nat → Nat} {ou mk sh b : Nat} (hn : gaN J P en ga ou mk sh b) {p : Nat} (hp : p < 2 * P) (op : Nat → Bool) (nu : Nat) : trn en (2 * P) op p nu < 2 * P := by
  obtain ⟨n1, n2, n3, n4, n5, n6, n7, n8, n9⟩ := pvN hn hp
  unfold trn
  split
  · exact hp
  · split
    · exact n6
    · refine otp_lt hn.2.2.1 ?_
      have := Nat.mod_lt (p - baj en (2 * P) (jnp en (2 * P) p) + 1 + hit (fun k => op (baj en (2 * P) (jnp en (2 * P) p) + k)) (esp en (2 * P) p) (p - baj en (2 * P) (jnp en (2 * P) p)) (if nu = 0 then 1 else nu)) n4
      omega
/-! the class -/
theorem pb_loop {S : St} {f n rg e lf h : Nat} (hn : n ≤ 6) (he : e < n) (hf : f + n ≤ 24) (hrg : rg < 64) (hH : Hit (fun k => rg.testBit k) n e lf h) (hh : h < n) (hlf : lf ≤ 9) :
    ∀ m s, h + 1 - s < m → s ≤ h + 1 → g_X8_placeBehind_118 m (nI f) (nI n) (nI rg) (nI ((e + s) % n)) (nI (lf - crt (fun k => rg.testBit k) n e s)) (nI s) S = some (rd S 13 (f + (e + 1 + h) % n), S) := by
  intro m
  induction m with
  | zero => intro s q; omega
  | succ m ih =>
    intro s q1 q2
    have hend : crt (fun k => rg.testBit k) n e (h + 1) = lf := by rw [crt_succ]; have := hH.1; have w := hH.2; rw [show e + h + 1 = e + 1 + h by omega]; rw [if_pos this]; exact w
    have hml := Nat.mod_lt (e + s) (show 0 < n by omega)
    show f_X8_placeBehind_118 (g_X8_placeBehind_118 m) _ _ _ _ _ _ S = _
    unfold f_X8_placeBehind_118 f_X8_placeBehind_147 f_X8_placeBehind_167
    by_cases q : s = h + 1
    · subst q
      have e3 : (nI (lf - crt (fun k => rg.testBit k) n e (h + 1)) ≤ 0) := by rw [hend, Nat.sub_self]; decide
      have e4 : (ck (nI f + nI ((e + (h + 1)) % n)) 24 (some (rd S 13 (nI f + nI ((e + (h + 1)) % n)).toNatClampNeg, S)) : Option (Int32 × St)) = some (rd S 13 (f + (e + 1 + h) % n), S) := by
        simp (disch := omega) only [nI_add, ck_nI, nI_clamp]
        rw [show e + (h + 1) = e + 1 + h by omega]
      rw [e4]
      simp only [if_pos e3]
      split <;> rfl
    · have hs : s ≤ h := by omega
      have hc := crt_le (o := fun k => rg.testBit k) (n := n) (e := e) hs
      have hH2 := hH.2
      have hcs := crt_succ (fun k => rg.testBit k) n e s
      have ihe := ih (s + 1) (by omega) (by omega)
      have hr := mod_next (e := e) (s := s) (show 0 < n by omega)
      have hml2 := Nat.mod_lt (e + s + 1) (show 0 < n by omega)
      have hb2 : rg / 2 ^ ((e + s + 1) % n) % 2 = if rg.testBit ((e + s + 1) % n) then 1 else 0 := by rw [tb_mod]; cases rg.testBit ((e + s + 1) % n) <;> rfl
      have step : nI (lf - crt (fun k => rg.testBit k) n e s) - (ush (nI rg) (nI ((e + s + 1) % n)) &&& 1) = nI (lf - crt (fun k => rg.testBit k) n e (s + 1)) := by
        rw [ush_nI (by omega) (by omega), and1_nI, hb2, pk_sub (by by_cases w : rg.testBit ((e + s + 1) % n) = true <;> simp [w] <;> omega), hcs]
        congr 1; by_cases w : rg.testBit ((e + s + 1) % n) = true <;> simp [w] <;> omega
      simp (disch := omega) only [nI_leI, l_0, l_1, nI_add]
      rw [if_neg (by omega), if_neg (by omega)]
      by_cases w : n ≤ (e + s) % n + 1
      · rw [if_pos w]
        have w0 : (e + s + 1) % n = 0 := by rw [← hr, show (e + s) % n + 1 = n by omega, Nat.mod_self]
        rw [show e + (s + 1) = e + s + 1 by omega] at ihe
        simp only [lt, l_1.symm, nI_1]
        rw [← w0, step]; exact ihe
      · rw [if_neg w]
        have w0 : (e + s + 1) % n = (e + s) % n + 1 := by rw [← hr, Nat.mod_eq_of_lt (by omega)]
        rw [show e + (s + 1) = e + s + 1 by omega] at ihe
        simp only [lt, l_1.symm, nI_1]
        rw [← w0, step]; exact ihe
theorem ring_tb {ob f n k : Nat} (hk : k < n) : (ob / 2 ^ f % 2 ^ n).testBit k = ob.testBit (f + k) := by
  rw [Nat.testBit_mod_two_pow, Nat.testBit_div_two_pow]
  simp [hk, Nat.add_comm]
theorem pb_eq {S : St} {J P : Nat} {en ga : Nat → Nat} {ou mk sh b : Nat} (hn : gaN J P en ga ou mk sh b) (hx : gaX S J P en ga ou mk sh b) {p nu ob : Nat} (hp : p < 2 * P) (hnu : nu < 10) (hob : ob < 2 ^ 24) : m_X8_placeBehind (nI p) (nI nu) (nI ob) S = some (nI (trn en (2 * P) (fun q => ob.testBit q) p nu), S) := by
  obtain ⟨n1, n2, n3, n4, n5, n6, n7, n8, n9⟩ := pvN hn hp
  obtain ⟨v1, v2, v3, v4⟩ := pvX hn hx hp
  have hJ : J ≤ 8 := hn.1
  have hP : P ≤ 12 := hn.2.1
  have v5 := (hx.2.2.2.2.2.2.2.2.1 _ n1).2
  have v6 : rd S 8 (jnp en (2 * P) p) = nI (esp en (2 * P) p) := (hx.2.2.2.2.2.2.2.2.1 _ n1).1
  unfold trn
  generalize hF : baj en (2 * P) (jnp en (2 * P) p) = F at *
  generalize hE : esp en (2 * P) p = E at *
  have hrg : ob / 2 ^ F % 2 ^ E < 64 := Nat.lt_of_lt_of_le (Nat.mod_lt _ (Nat.two_pow_pos E)) (Nat.pow_le_pow_right (by decide) n5 : 2 ^ E ≤ 2 ^ 6)
  have hring : ush (nI ob) (nI F) &&& (shl 1 (nI E) - 1) = nI (ob / 2 ^ F % 2 ^ E) := by
    rw [ush_nI (by omega) (by omega), shl1_nI (by omega), l_1, pk_sub (Nat.two_pow_pos E), fa_and, Nat.and_two_pow_sub_one_eq_mod]
  have hcong : ∀ k, k < E → (fun k => (ob / 2 ^ F % 2 ^ E).testBit k) k = (fun k => ob.testBit (F + k)) k := fun k hk => ring_tb hk
  have hct : fb_ct (fun k => (ob / 2 ^ F % 2 ^ E).testBit k) 8 = fb_ct (fun k => ob.testBit (F + k)) E := by
    rw [ct_cut (J := E) (Nat.mod_lt _ (Nat.two_pow_pos E)) (by omega)]
    exact fb_ct_cong hcong
  have hcl := fb_ct_le (fun k => ob.testBit (F + k)) E
  unfold m_X8_placeBehind f_X8_placeBehind_0
  simp (disch := omega) only [ck_nI, nI_clamp, lt, v1, v5, v6, hring, pop_eq, hct, bI_some, l_0, nI_eq, v2]
  by_cases c0 : fb_ct (fun k => ob.testBit (F + k)) E = 0
  · rw [if_pos c0, if_pos c0]
  · rw [if_neg c0, if_neg c0]
    have hend : p - F < E := by omega
    have hbit : (ob / 2 ^ F % 2 ^ E).testBit (p - F) = ob.testBit p := by rw [ring_tb hend]; congr 1; omega
    have goal97 : ∀ lf, lf = (if nu = 0 then 1 else nu) → f_X8_placeBehind_97 (nI nu) (nI F) (nI E) (nI (ob / 2 ^ F % 2 ^ E)) (nI (fb_ct (fun k => ob.testBit (F + k)) E)) (nI (p - F)) S = some (nI (otp en (2 * P) (F + (p - F + 1 + hit (fun k => ob.testBit (F + k)) E (p - F) lf) % E)), S) := by
      intro lf hlf
      have hl1 : 1 ≤ lf ∧ lf ≤ 9 := by rw [hlf]; by_cases w : nu = 0 <;> simp [w] <;> omega
      obtain ⟨m1, m2⟩ := hit_mod (o := fun k => ob.testBit (F + k)) (n := E) (e := p - F) (lf := lf) n5 (by omega) hl1.1 hl1.2
      have hmm := Nat.mod_lt (lf - 1) (show 0 < fb_ct (fun k => ob.testBit (F + k)) E by omega)
      obtain ⟨h1, h2⟩ := hit_ok (o := fun k => ob.testBit (F + k)) (n := E) (e := p - F) (lf := (lf - 1) % fb_ct (fun k => ob.testBit (F + k)) E + 1) n5 (by omega) (by omega) (by omega)
      have hHr : Hit (fun k => (ob / 2 ^ F % 2 ^ E).testBit k) E (p - F) ((lf - 1) % fb_ct (fun k => ob.testBit (F + k)) E + 1) (hit (fun k => ob.testBit (F + k)) E (p - F) ((lf - 1) % fb_ct (fun k => ob.testBit (F + k)) E + 1)) := by
        refine ⟨?_, ?_⟩
        · rw [← h2.1]; exact hcong _ (Nat.mod_lt _ n4)
        · have hc : ∀ s, crt (fun k => (ob / 2 ^ F % 2 ^ E).testBit k) E (p - F) s = crt (fun k => ob.testBit (F + k)) E (p - F) s := fun s => fb_ct_cong (fun k _ => hcong _ (Nat.mod_lt _ n4))
          rw [hc]; exact h2.2
      have lp := pb_loop (S := S) (f := F) n5 hend (by omega) hrg hHr m1 (by omega) fuel 0 (by unfold fuel; omega) (by omega)
      have c00 : crt (fun k => (ob / 2 ^ F % 2 ^ E).testBit k) E (p - F) 0 = 0 := rfl
      rw [Nat.add_zero, Nat.mod_eq_of_lt hend, c00, Nat.sub_zero] at lp
      have hq := Nat.mod_lt (p - F + 1 + hit (fun k => ob.testBit (F + k)) E (p - F) ((lf - 1) % fb_ct (fun k => ob.testBit (F + k)) E + 1)) n4
      rw [(pvX hn hx (show F + (p - F + 1 + hit (fun k => ob.testBit (F + k)) E (p - F) ((lf - 1) % fb_ct (fun k => ob.testBit (F + k)) E + 1)) % E < 2 * P by omega)).2.2.2, ← m2] at lp
      unfold f_X8_placeBehind_97
      by_cases w : nu = 0
      · rw [if_pos w] at hlf
        rw [hlf] at lp ⊢
        rw [if_pos (by rw [w]; rfl)]
        rw [show (1 - 1) % fb_ct (fun k => ob.testBit (F + k)) E + 1 = 1 by simp] at lp
        exact lp
      · rw [if_neg w] at hlf
        rw [if_neg (nI_ne0 (by omega) (by omega))]
        simp (disch := omega) only [ckn_nI, l_1, pk_sub, irem_nI, lt, nI_add]
        rw [← hlf]
        exact lp
    by_cases c1 : nu = 0
    · rw [if_pos c1, hasBit_eq S (by omega) (by omega)]
      simp only [bI_some, b2_n0, hbit]
      by_cases c2 : ob.testBit p = true
      · rw [if_neg (by simp [c2]), if_pos ⟨c1, c2⟩, v4]
      · have c3 : ob.testBit p = false := by simpa using c2
        rw [if_pos c3, if_neg (fun w => c2 w.2)]
        exact goal97 _ rfl
    · rw [if_neg c1, if_neg (fun w => c1 w.1)]
      exact goal97 _ rfl
