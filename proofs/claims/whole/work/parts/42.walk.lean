/-! ===== walks as rows of (place, state, marks) ===== -/
def actW (fk s m j : Nat) : Nat := 2 * s + (if m.testBit j || !fk.testBit s then 0 else 1)
def mkW (d m j : Nat) : Nat := if d = 1 then cb m j else if d = 2 then sb m j else m
def stW (en : Nat → Nat) (N : Nat) (op : Nat → Nat → Bool) (fk b : Nat) (nu de nx : Nat → Nat) (t : Nat) (x : Nat × Nat × Nat) : Nat × Nat × Nat :=
  (trn en N (op (t % b)) x.1 (nu (actW fk x.2.1 x.2.2 (jnp en N x.1))), nx (actW fk x.2.1 x.2.2 (jnp en N x.1)), mkW (de (actW fk x.2.1 x.2.2 (jnp en N x.1))) x.2.2 (jnp en N x.1))
def sqW (en : Nat → Nat) (N : Nat) (op : Nat → Nat → Bool) (fk b : Nat) (nu de nx : Nat → Nat) (x0 : Nat × Nat × Nat) : Nat → Nat × Nat × Nat
  | 0 => x0
  | t + 1 => stW en N op fk b nu de nx t (sqW en N op fk b nu de nx x0 t)
theorem act_ok {L f fk : Nat} {to : Nat → Bool} {nu de nx : Nat → Nat} (h : ruN L f fk to nu de nx) {s : Nat} (hs : s < 4) (ht : to s = true) (m j : Nat) : ruA to nu de nx (actW fk s m j) ∧ actW fk s m j < 8 := by
  obtain ⟨h1, h2⟩ := h.2.2.2 s hs ht
  unfold actW
  by_cases q : (m.testBit j || !fk.testBit s) = true
  · rw [if_pos q]; exact ⟨h1, by omega⟩
  · rw [if_neg q]
    have : fk.testBit s = true := by
      cases w : fk.testBit s
      · simp [w] at q
      · rfl
    exact ⟨h2 this, by omega⟩
theorem acX_ok {S : St} {r L f fk : Nat} {to : Nat → Bool} {nu de nx : Nat → Nat} (h : ruX S r L f fk to nu de nx) {s : Nat} (hs : s < 4) (ht : to s = true) (m j : Nat) : acX S r nu de nx (actW fk s m j) := by
  obtain ⟨h1, h2⟩ := h.2.2.2 s hs ht
  unfold actW
  by_cases q : (m.testBit j || !fk.testBit s) = true
  · rw [if_pos q]; exact h1
  · rw [if_neg q]
    have : fk.testBit s = true := by
      cases w : fk.testBit s
      · simp [w] at q
      · rfl
    exact h2 this
theorem mkW_lt {d m j n : Nat} (hm : m < 2 ^ n) (hj : j < n) : mkW d m j < 2 ^ n := by
  unfold mkW
  by_cases q : d = 1
  · rw [if_pos q]; exact Nat.lt_of_le_of_lt (cb_le m j) hm
  · rw [if_neg q]
    by_cases w : d = 2
    · rw [if_pos w]; exact sb_lt hm hj
    · rw [if_neg w]; exact hm
/-- what holds of each of the row -/
def okW (P : Nat) (to : Nat → Bool) (x : Nat × Nat × Nat) : Prop := x.1 < 2 * P ∧ x.2.1 < 4 ∧ to x.2.1 = true ∧ x.2.2 < 2 ^ 8
theorem stW_ok {J P : Nat} {en ga : Nat → Nat} {ou mk sh b : Nat} (hn : gaN J P en ga ou mk sh b) {L f fk : Nat} {to : Nat → Bool} {nu de nx : Nat → Nat} (hr : ruN L f fk to nu de nx) (op : Nat → Nat → Bool) (t : Nat) {x : Nat × Nat × Nat} (h : okW P to x) : okW P to (stW en (2 * P) op fk b nu de nx t x) := by
  obtain ⟨h1, h2, h3, h4⟩ := h
  obtain ⟨⟨a1, a2, a3, a4⟩, a5⟩ := act_ok hr h2 h3 x.2.2 (jnp en (2 * P) x.1)
  have hj := (pvN hn h1).1
  have hJ : J ≤ 8 := hn.1
  exact ⟨trn_lt hn h1 _ _, a3, a4, mkW_lt h4 (by omega)⟩
theorem sqW_ok {J P : Nat} {en ga : Nat → Nat} {ou mk sh b : Nat} (hn : gaN J P en ga ou mk sh b) {L f fk : Nat} {to : Nat → Bool} {nu de nx : Nat → Nat} (hr : ruN L f fk to nu de nx) (op : Nat → Nat → Bool) {x0 : Nat × Nat × Nat} (h : okW P to x0) : ∀ t, okW P to (sqW en (2 * P) op fk b nu de nx x0 t)
  | 0 => h
  | t + 1 => stW_ok hn hr op t (sqW_ok hn hr op h t)
theorem hit_cong {o o' : Nat → Bool} {n : Nat} (hn : 0 < n) (h : ∀ k, k < n → o k = o' k) (e lf : Nat) : hit o n e lf = hit o' n e lf := by
  have h1 : ∀ i, crt o n e i = crt o' n e i := fun i => fb_ct_cong (fun k _ => h _ (Nat.mod_lt _ hn))
  have h2 : (fun i => o ((e + 1 + i) % n) && (crt o n e i + 1 == lf)) = (fun i => o' ((e + 1 + i) % n) && (crt o' n e i + 1 == lf)) := funext (fun i => by rw [h _ (Nat.mod_lt _ hn), h1])
  unfold hit
  rw [h2]
theorem trn_cong {J P : Nat} {en ga : Nat → Nat} {ou mk sh b : Nat} (hn : gaN J P en ga ou mk sh b) {p : Nat} (hp : p < 2 * P) {op op' : Nat → Bool} (h : ∀ q, q < 2 * P → op q = op' q) (nu : Nat) : trn en (2 * P) op p nu = trn en (2 * P) op' p nu := by
  obtain ⟨n1, n2, n3, n4, n5, n6, n7, n8, n9⟩ := pvN hn hp
  have h1 : ∀ k, k < esp en (2 * P) p → (fun k => op (baj en (2 * P) (jnp en (2 * P) p) + k)) k = (fun k => op' (baj en (2 * P) (jnp en (2 * P) p) + k)) k := fun k hk => h _ (by omega)
  unfold trn
  rw [fb_ct_cong h1, h p hp, hit_cong n4 h1]
theorem sqW_cong {J P : Nat} {en ga : Nat → Nat} {ou mk sh b : Nat} (hn : gaN J P en ga ou mk sh b) {L f fk : Nat} {to : Nat → Bool} {nu de nx : Nat → Nat} (hr : ruN L f fk to nu de nx) {op op' : Nat → Nat → Bool} (hop : ∀ τ q, τ < b → q < 2 * P → op τ q = op' τ q) {x0 : Nat × Nat × Nat} (h : okW P to x0) : ∀ t, sqW en (2 * P) op fk b nu de nx x0 t = sqW en (2 * P) op' fk b nu de nx x0 t
  | 0 => rfl
  | t + 1 => by
    have ih := sqW_cong hn hr hop h t
    have ok := sqW_ok hn hr op' h (b := b) t
    have hb := hn.2.2.2.2.1
    show stW _ _ _ _ _ _ _ _ t _ = stW _ _ _ _ _ _ _ _ t _
    rw [ih]
    unfold stW
    rw [trn_cong hn ok.1 (fun q hq => hop (t % b) q (Nat.mod_lt _ (by omega)) hq)]
/-! the same at two beats: the same a beat later -/
def samW (X : Nat → Nat × Nat × Nat) (b i j : Nat) : Prop := X i = X j ∧ i % b = j % b
theorem sam_1 {en : Nat → Nat} {N : Nat} {op : Nat → Nat → Bool} {fk b : Nat} {nu de nx : Nat → Nat} {x0 : Nat × Nat × Nat} {i j : Nat} (h : samW (sqW en N op fk b nu de nx x0) b i j) : samW (sqW en N op fk b nu de nx x0) b (i + 1) (j + 1) := by
  obtain ⟨h1, h2⟩ := h
  refine ⟨?_, ?_⟩
  · show stW _ _ _ _ _ _ _ _ i _ = stW _ _ _ _ _ _ _ _ j _
    unfold stW
    rw [h1, h2]
  · rw [Nat.add_mod, h2, ← Nat.add_mod]
theorem sam_d {en : Nat → Nat} {N : Nat} {op : Nat → Nat → Bool} {fk b : Nat} {nu de nx : Nat → Nat} {x0 : Nat × Nat × Nat} {i j : Nat} (h : samW (sqW en N op fk b nu de nx x0) b i j) : ∀ d, samW (sqW en N op fk b nu de nx x0) b (i + d) (j + d)
  | 0 => h
  | d + 1 => sam_1 (sam_d h d)
/-- who has come round without being out never is -/
theorem sam_not {en : Nat → Nat} {N : Nat} {op : Nat → Nat → Bool} {fk b : Nat} {nu de nx : Nat → Nat} {x0 : Nat × Nat × Nat} {i c : Nat} (h : samW (sqW en N op fk b nu de nx x0) b i c) (hic : i < c) {out : Nat × Nat × Nat → Prop} (ho : ∀ t, t ≤ c → ¬ out (sqW en N op fk b nu de nx x0 t)) : ∀ t, ¬ out (sqW en N op fk b nu de nx x0 t) := by
  intro t
  induction t using Nat.strongRecOn with
  | _ t ih =>
    by_cases q : t ≤ c
    · exact ho t q
    · have h1 := (sam_d h (t - c)).1
      rw [show c + (t - c) = t by omega] at h1
      rw [← h1]
      exact ih _ (by omega)
/-! what the class writes of a beat -/
def pkW (x : Nat × Nat × Nat) (τ : Nat) : Nat := x.1 * 8192 + x.2.1 * 2048 + x.2.2 * 8 + τ
theorem pkW_inj {P : Nat} {to : Nat → Bool} {x y : Nat × Nat × Nat} {τ σ : Nat} (hx : okW P to x) (hy : okW P to y) (h1 : τ < 8) (h2 : σ < 8) (h : pkW x τ = pkW y σ) : x = y ∧ τ = σ := by
  obtain ⟨x1, x2, x3, x4⟩ := hx
  obtain ⟨y1, y2, y3, y4⟩ := hy
  unfold pkW at h
  have e1 : x.1 = y.1 := by omega
  have e2 : x.2.1 = y.2.1 := by omega
  have e3 : x.2.2 = y.2.2 := by omega
  exact ⟨Prod.ext e1 (Prod.ext e2 e3), by omega⟩
theorem pkW_lt {P : Nat} (hP : P ≤ 12) {to : Nat → Bool} {x : Nat × Nat × Nat} {τ : Nat} (hx : okW P to x) (h1 : τ < 8) : pkW x τ < 196608 := by
  obtain ⟨x1, x2, x3, x4⟩ := hx
  unfold pkW
  omega
theorem shl_nI {a k : Nat} (hk : k < 32) (h : a * 2 ^ k < 2 ^ 32) : shl (nI a) (nI k) = nI (a * 2 ^ k) := pk_shlN _ k (s_l k hk) h
theorem pk_nI {p s m τ : Nat} (hp : p < 24) (hs : s < 4) (hm : m < 256) (ht : τ < 8) : ((shl (nI p) 13 ||| shl (nI s) 11) ||| shl (nI m) 3) ||| nI τ = nI (p * 8192 + s * 2048 + m * 8 + τ) := by
  rw [l_13, l_11, l_3, shl_nI (by omega) (by omega), shl_nI (by omega) (by omega), shl_nI (by omega) (by omega), fa_or, fa_or, fa_or]
  congr 1
  have a1 := Nat.two_pow_add_eq_or_of_lt (i := 13) (b := s * 2 ^ 11) (by omega) p
  have a2 := Nat.two_pow_add_eq_or_of_lt (i := 11) (b := m * 2 ^ 3) (by omega) (4 * p + s)
  have a3 := Nat.two_pow_add_eq_or_of_lt (i := 3) (b := τ) (by omega) (1024 * p + 256 * s + m)
  rw [show p * 2 ^ 13 = 2 ^ 13 * p by omega, ← a1, show 2 ^ 13 * p + s * 2 ^ 11 = 2 ^ 11 * (4 * p + s) by omega, ← a2, show 2 ^ 11 * (4 * p + s) + m * 2 ^ 3 = 2 ^ 3 * (1024 * p + 256 * s + m) by omega, ← a3]
theorem actOf_eq {S : St} {r fk s : Nat} (hr : r = 16 ∨ r = 20) (h6 : rd S r 6 = nI fk) (hfk : fk < 16) (hs : s < 4) (m j : Nat) : m_X5_actOf r (nI s) (b2 (m.testBit j)) S = some (nI (actW fk s m j), S) := by
  unfold m_X5_actOf f_X5_actOf_0 actW
  simp only [b2_0]
  have e : (ckr r (bI (m_X9_hasBit (rd S r 6) (nI s) S) fun r4 S3 => if r4 = 0 then some (2 * nI s, S3) else some (2 * nI s + 1, S3)) : Option (Int32 × St)) = some (nI (2 * s + if fk.testBit s then 1 else 0), S) := by
    unfold ckr
    rw [if_pos hr, h6, hasBit_eq S (by omega) (by omega)]
    simp only [bI_some, b2_0, l_2, pk_mul, nI_1]
    cases fk.testBit s <;> rfl
  rw [e]
  cases m.testBit j <;> cases fk.testBit s <;> simp [l_2, pk_mul]
theorem mAft_eq {S : St} {r a d m j : Nat} (hr : r = 16 ∨ r = 20) (h2 : rd S (r + 2) a = nI d) (ha : a < 8) (hd : d < 3) (hj : j < 32) : m_X5_marksAfter r (nI a) (nI m) (nI j) S = some (nI (mkW d m j), S) := by
  unfold m_X5_marksAfter f_X5_marksAfter_0 mkW ckr
  rw [if_pos hr]
  simp (disch := omega) only [ck_nI, nI_clamp, h2, with0_eq, with1_eq, bI_some, l_1, l_2, nI_eq]
  rw [show (nI 1 : Int32) = 1 from rfl, with1_eq S hj]
  simp only [bI_some]
  split
  · rfl
  · split <;> rfl
