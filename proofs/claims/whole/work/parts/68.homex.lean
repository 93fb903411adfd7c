/-! ===== home, the class: turns to try, twins ===== -/
def gF (S0 S : St) : Prop := ∀ c i, 6 ≤ c → c ≤ 15 → rd S c i = rd S0 c i
theorem gF_up {S0 S : St} (h : gF S0 S) {k i : Nat} {v : Int32} (hk : 16 ≤ k) : gF S0 (up S k i v) := fun c j h1 h2 => by rw [rd_ne (by omega)]; exact h c j h1 h2
theorem gF_fr {S0 S S' : St} (h : gF S0 S) (hf : ∀ c i, c ≤ 15 → rd S' c i = rd S c i) : gF S0 S' := fun c j h1 h2 => by rw [hf c j h2]; exact h c j h1 h2
def gX (N : Nat) (es : Nat → Nat) (bd : Nat → Nat → Nat) (S : St) : Prop := rd S 6 2 = nI N ∧ (∀ p, p < N → m_X0_endsAt (nI p) S = some (nI (es p), S)) ∧ (∀ p k, p < N → k < 1000 → m_X0_beyond (nI p) (nI k) S = some (nI (bd p k), S)) ∧ ∀ e, e < 2 ^ 31 → m_X0_placesWithEnds (nI e) S = some (nI (bset (fun p => es p == e) N), S)
def hoA (N : Nat) (es : Nat → Nat) (bd : Nat → Nat → Nat) (S0 : St) : Prop := N ≤ 24 ∧ (∀ p, p < N → 1 ≤ es p ∧ es p ≤ 6) ∧ (∀ p k, p < N → bd p k < N) ∧ ∀ S, gF S0 S → gX N es bd S
theorem hoA_of {J P : Nat} {en ga : Nat → Nat} {ou mk sh b : Nat} {S : St} (hn : gaN J P en ga ou mk sh b) (hx : gaX S J P en ga ou mk sh b) : hoA (2 * P) (esp en (2 * P)) (bdp en (2 * P)) S := by
  have hP : P ≤ 12 := hn.2.1
  refine ⟨by omega, fun p hp => ⟨(pvN hn hp).2.2.2.1, (pvN hn hp).2.2.2.2.1⟩, fun p k hp => (bdp_in hn hp k).2, fun S' hF => ?_⟩
  have hx' := gaX_fr hx (fun c i q => hF c i q.1 q.2)
  exact ⟨hx'.2.2.1, fun p hp => endsAt_eq hn hx' hp, fun p k hp hk => beyond_eq hn hx' hp hk, fun e he => pwE_eq hn hx' he⟩
theorem aed_loop {S : St} {J k : Nat} {ct : Nat → Nat} (hJ : J ≤ 8) (h0 : rd S 6 0 = nI J) (h8 : ∀ j, j < J → rd S 8 j = nI (ct j) ∧ ct j ≤ 6) (hk : k ≤ 6) :
    ∀ m j, J - j < m → j ≤ J → ∃ b : Bool, g_X2_allEndsDivide_2 m (nI k) (nI j) S = some (b2 b, S) ∧ (b = true → ∀ i, j ≤ i → i < J → 0 < ct i → k % ct i = 0) := by
  intro m
  induction m with
  | zero => intro j h; omega
  | succ m ih =>
    intro j h1 h2
    show ∃ b : Bool, f_X2_allEndsDivide_2 (g_X2_allEndsDivide_2 m) (nI k) (nI j) S = _ ∧ _
    unfold f_X2_allEndsDivide_2
    rw [h0]
    by_cases c : J ≤ j
    · rw [if_pos ((nI_leI (by omega) (by omega)).mpr c)]
      exact ⟨true, rfl, fun _ i h3 h4 => by omega⟩
    · rw [if_neg (fun u => c ((nI_leI (by omega) (by omega)).mp u))]
      obtain ⟨e1, e2⟩ := h8 j (by omega)
      rw [ck_nI (by omega) (by omega), nI_clamp (by omega), e1]
      simp only [lt, nI_1, nI_add]
      obtain ⟨b, i1, i2⟩ := ih (j + 1) (by omega) (by omega)
      by_cases c1 : ct j ≤ 0
      · rw [if_pos (show nI (ct j) ≤ 0 from (nI_leI (a := ct j) (b := 0) (by omega) (by omega)).mpr c1)]
        refine ⟨b, i1, fun hb i h3 h4 h5 => ?_⟩
        by_cases q : i = j
        · subst q; omega
        · exact i2 hb i (by omega) h4 h5
      · rw [if_neg (show ¬ nI (ct j) ≤ 0 from fun u => c1 ((nI_leI (a := ct j) (b := 0) (by omega) (by omega)).mp u)), ckn_nI (by omega) (by omega), irem_nI (by omega) (by omega) (by omega)]
        have hm := Nat.mod_lt k (show 0 < ct j by omega)
        by_cases c2 : k % ct j = 0
        · rw [if_pos (show nI (k % ct j) = 0 by rw [c2]; rfl)]
          refine ⟨b, i1, fun hb i h3 h4 h5 => ?_⟩
          by_cases q : i = j
          · subst q; exact c2
          · exact i2 hb i (by omega) h4 h5
        · rw [if_neg (fun u => c2 ((nI_eq0 (by omega)).mp u))]
          exact ⟨false, rfl, fun u => by cases u⟩
theorem cht5 {J : Nat} {ct : Nat → Nat} (hJ : J ≤ 8) : ∀ m K (S : St), 6 - K < m → 1 ≤ K → K ≤ 6 → rd S 32 3 = nI K → rd S 6 0 = nI J → (∀ j, j < J → rd S 8 j = nI (ct j) ∧ ct j ≤ 6) → ∃ K' S', g_X2_chooseTurns_5 m S = g_X2_chooseTurns_40 fuel 0 S' ∧ rd S' 32 3 = nI K' ∧ 1 ≤ K' ∧ K' ≤ 6 ∧ (K' < 6 → ∀ j, j < J → 0 < ct j → K' % ct j = 0) ∧ ∀ c i, (c ≠ 32 ∨ i ≠ 3) → rd S' c i = rd S c i := by
  intro m
  induction m with
  | zero => intro K S h; omega
  | succ m ih =>
    intro K S h1 h2 h3 h4 h5 h6
    show ∃ K' S', f_X2_chooseTurns_5 (g_X2_chooseTurns_5 m) S = _ ∧ _
    unfold f_X2_chooseTurns_5
    rw [h4]
    by_cases c : 6 ≤ K
    · rw [if_pos (show 6 ≤ nI K from (nI_leI (a := 6) (b := K) (by omega) (by omega)).mpr c)]
      exact ⟨K, S, rfl, h4, h2, h3, fun u => by omega, fun _ _ _ => rfl⟩
    · rw [if_neg (show ¬ 6 ≤ nI K from fun u => c ((nI_leI (a := 6) (b := K) (by omega) (by omega)).mp u))]
      obtain ⟨b, b1, b2'⟩ := aed_loop (S := S) (k := K) hJ h5 h6 h3 fuel 0 (by unfold fuel; omega) (by omega)
      have b1 : m_X2_allEndsDivide (nI K) S = some (b2 b, S) := b1
      rw [b1]
      simp only [bI_some, lt, h4, nI_1, nI_add]
      cases b
      · rw [if_pos b2_f]
        obtain ⟨K', S', a1, a2, a3, a4, a5, a6⟩ := ih (K + 1) (up S 32 3 (nI (K + 1))) (by omega) (by omega) (by omega) (rd_same _ _ _ _) (by rw [rd_ne (by omega)]; exact h5) (fun j hj => by rw [rd_ne (by omega)]; exact h6 j hj)
        exact ⟨K', S', a1, a2, a3, a4, a5, fun c i u => by rw [a6 c i u, rd_ne u]⟩
      · rw [if_neg (by decide)]
        exact ⟨K, S, rfl, h4, h2, h3, fun _ j hj hc => b2' rfl j (by omega) hj hc, fun _ _ _ => rfl⟩
theorem cht50 {N : Nat} {es : Nat → Nat} {bd : Nat → Nat → Nat} {S0 : St} (hA : hoA N es bd S0) {k : Nat} (hk : k < 6) {k40 : Int32 → St → Option St} : ∀ m p (S : St), N - p < m → p ≤ N → gF S0 S → ∃ S', g_X2_chooseTurns_50 k40 m (nI k) (nI p) S = k40 (nI (k + 1)) S' ∧ (∀ q, p ≤ q → q < N → rd S' 34 (k * 24 + q) = nI (bd q k)) ∧ ∀ c i, (c ≠ 34 ∨ i < k * 24 + p ∨ k * 24 + N ≤ i) → rd S' c i = rd S c i := by
  intro m
  have hN := hA.1
  induction m with
  | zero => intro p S h; omega
  | succ m ih =>
    intro p S h1 h2 hF
    show ∃ S', f_X2_chooseTurns_50 k40 (g_X2_chooseTurns_50 k40 m) (nI k) (nI p) S = _ ∧ _
    obtain ⟨g1, g2, g3, g4⟩ := hA.2.2.2 S hF
    unfold f_X2_chooseTurns_50
    rw [g1]
    by_cases c : N ≤ p
    · rw [if_pos ((nI_leI (by omega) (by omega)).mpr c)]
      simp only [lt, nI_1, nI_add]
      exact ⟨S, rfl, fun q _ _ => by omega, fun _ _ _ => rfl⟩
    · rw [if_neg (fun u => c ((nI_leI (by omega) (by omega)).mp u)), g3 p k (by omega) (by omega)]
      simp (disch := omega) only [bI_some, l_24, pk_mul, nI_add, ck_nI, nI_clamp, lt, nI_1]
      obtain ⟨S', a1, a2, a3⟩ := ih (p + 1) (up S 34 (k * 24 + p) (nI (bd p k))) (by omega) (by omega) (gF_up hF (by omega))
      refine ⟨S', a1, fun q u1 u2 => ?_, fun c i u => by rw [a3 c i (by omega), rd_ne (by omega)]⟩
      by_cases v : q = p
      · subst v; rw [a3 34 (k * 24 + q) (by omega), rd_same]
      · exact a2 q (by omega) u2
theorem cht40 {N : Nat} {es : Nat → Nat} {bd : Nat → Nat → Nat} {S0 : St} (hA : hoA N es bd S0) {K : Nat} (hK : K ≤ 6) : ∀ m k (S : St), K - k < m → k ≤ K → gF S0 S → rd S 32 3 = nI K → (∀ k' q, k' < k → q < N → rd S 34 (k' * 24 + q) = nI (bd q k')) → ∃ S', g_X2_chooseTurns_40 m (nI k) S = some S' ∧ (∀ k' q, k' < K → q < N → rd S' 34 (k' * 24 + q) = nI (bd q k')) ∧ ∀ c i, c ≠ 34 → rd S' c i = rd S c i := by
  intro m
  have hN := hA.1
  induction m with
  | zero => intro k S h; omega
  | succ m ih =>
    intro k S h1 h2 hF h3 h4
    show ∃ S', f_X2_chooseTurns_40 (g_X2_chooseTurns_40 m) (nI k) S = _ ∧ _
    unfold f_X2_chooseTurns_40
    rw [h3]
    by_cases c : K ≤ k
    · rw [if_pos ((nI_leI (by omega) (by omega)).mpr c)]
      exact ⟨S, rfl, fun k' q u1 u2 => h4 k' q (by omega) u2, fun _ _ _ => rfl⟩
    · rw [if_neg (fun u => c ((nI_leI (by omega) (by omega)).mp u))]
      obtain ⟨S', a1, a2, a3⟩ := cht50 hA (k := k) (by omega) (k40 := g_X2_chooseTurns_40 m) fuel 0 S (by unfold fuel; omega) (by omega) hF
      have a1 : g_X2_chooseTurns_50 (g_X2_chooseTurns_40 m) fuel (nI k) 0 S = g_X2_chooseTurns_40 m (nI (k + 1)) S' := a1
      rw [a1]
      obtain ⟨S2, b1, b2', b3⟩ := ih (k + 1) S' (by omega) (by omega) (gF_fr hF (fun c i u => a3 c i (by omega))) (by rw [a3 32 3 (by omega)]; exact h3) (fun k' q u1 u2 => by
        by_cases v : k' = k
        · subst v; exact a2 q (by omega) u2
        · rw [a3 34 (k' * 24 + q) (by omega)]; exact h4 k' q (by omega) u2)
      exact ⟨S2, b1, b2', fun c i u => by rw [b3 c i u, a3 c i (Or.inl u)]⟩
def hoK (N K : Nat) (bd : Nat → Nat → Nat) (S : St) : Prop := rd S 32 3 = nI K ∧ ∀ k q, k < K → q < N → rd S 34 (k * 24 + q) = nI (bd q k)
theorem hoK_fr {N K : Nat} {bd : Nat → Nat → Nat} {S S' : St} (h : hoK N K bd S) (hf : ∀ c i, (c = 32 ∧ i = 3 ∨ c = 34) → rd S' c i = rd S c i) : hoK N K bd S' := ⟨by rw [hf 32 3 (by omega)]; exact h.1, fun k q h1 h2 => by rw [hf 34 _ (by omega)]; exact h.2 k q h1 h2⟩
theorem choose_eq {J P : Nat} {en ga : Nat → Nat} {ou mk sh b : Nat} {S : St} (hn : gaN J P en ga ou mk sh b) (hx : gaX S J P en ga ou mk sh b) : ∃ K S', m_X2_chooseTurns S = some S' ∧ 1 ≤ K ∧ K ≤ 6 ∧ (∀ p k, p < 2 * P → k < 6 → bdp en (2 * P) p k = bdp en (2 * P) p (k % K)) ∧ hoK (2 * P) K (bdp en (2 * P)) S' ∧ ∀ c i, (c ≠ 32 ∨ i ≠ 3) → c ≠ 34 → rd S' c i = rd S c i := by
  have hA := hoA_of hn hx
  unfold m_X2_chooseTurns f_X2_chooseTurns_0
  simp only [lt]
  obtain ⟨K, S1, a1, a2, a3, a4, a5, a6⟩ := cht5 (ct := fun j => ctj en j (2 * P)) hn.1 fuel 1 (up S 32 3 1) (by unfold fuel; omega) (by omega) (by omega) (rd_same _ _ _ _) (by rw [rd_ne (by omega)]; exact hx.1) (fun j hj => by rw [rd_ne (by omega)]; exact ⟨(hx.2.2.2.2.2.2.2.2.1 j hj).1, hn.2.2.2.1 j hj⟩)
  rw [a1]
  obtain ⟨S2, b1, b2', b3⟩ := cht40 hA a4 fuel 0 S1 (by unfold fuel; omega) (by omega) (fun c i u1 u2 => by rw [a6 c i (by omega), rd_ne (by omega)]) a2 (fun k' q u => by omega)
  refine ⟨K, S2, b1, a3, a4, fun p k hp hk => ?_, ⟨by rw [b3 32 3 (by omega)]; exact a2, b2'⟩, fun c i u1 u2 => by rw [b3 c i u2, a6 c i u1, rd_ne u1]⟩
  by_cases c : K < 6
  · obtain ⟨n1, n2, n3, n4, _⟩ := pvN hn hp
    exact bdp_per (a5 c _ n1 n4)
  · rw [show K = 6 by omega, Nat.mod_eq_of_lt hk]
/-! twins -/
theorem bs24 {N : Nat} (hN : N ≤ 24) (f : Nat → Bool) : bset f N < 2 ^ 24 := Nat.lt_of_lt_of_le (bset_lt f N) (Nat.pow_le_pow_right (by decide) hN)
theorem bset_cong {f g : Nat → Bool} {N : Nat} (h : ∀ k, k < N → f k = g k) : bset f N = bset g N := by
  apply nat_ext (bset_lt f N) (bset_lt g N)
  intro k hk
  rw [bset_tb, bset_tb, h k hk]
theorem bs_one {f : Nat → Bool} {N p q : Nat} (h : bset f N = 2 ^ p) (hq : q < N) (hf : f q = true) : q = p := by
  have := bset_tb f N q
  rw [h, Nat.testBit_two_pow, hf] at this
  simp [hq] at this
  exact this.symm
theorem bs_two {f : Nat → Bool} {N p : Nat} (hp : p < N) (hf : f p = true) (h : bset f N ≠ 2 ^ p) : ∃ q, q < N ∧ q ≠ p ∧ f q = true := by
  apply Classical.byContradiction
  intro hc
  apply h
  apply nat_ext (bset_lt f N) (wb_lt2 hp)
  intro k hk
  rw [bset_tb, Nat.testBit_two_pow]
  by_cases q : k = p
  · subst q; simp [hk, hf]
  · have : f k = false := by
      cases w : f k
      · rfl
      · exact absurd ⟨k, hk, q, w⟩ hc
    simp [this]; omega
def twR (N K : Nat) (es : Nat → Nat) (bd : Nat → Nat → Nat) (d : Nat) (S : St) : Prop := ∀ p, p < N → rd S 36 (d * 24 + p) = nI (bset (fun q => twT es bd K d p q) N)
theorem atp_loop {N K d p q : Nat} {es : Nat → Nat} {bd : Nat → Nat → Nat} {S : St} (hN : N ≤ 24) (hd : d ≤ 5) (hK6 : K ≤ 6) (hb : ∀ p k, p < N → bd p k < N) (hp : p < N) (hq : q < N) (hK : hoK N K bd S) (hT : twR N K es bd d S) : ∀ m k, K - k < m → k ≤ K → alK (fun k => twT es bd K d (bd p k) (bd q k)) k = true → g_X2_anyTurnParts_3 m (nI p) (nI q) (nI (d * 24)) (nI k) S = some (b2 (!alK (fun k => twT es bd K d (bd p k) (bd q k)) K), S) := by
  intro m
  induction m with
  | zero => intro k h; omega
  | succ m ih =>
    intro k h1 h2 h3
    show f_X2_anyTurnParts_3 (g_X2_anyTurnParts_3 m) (nI p) (nI q) (nI (d * 24)) (nI k) S = _
    unfold f_X2_anyTurnParts_3
    rw [hK.1]
    by_cases c : K ≤ k
    · have : k = K := by omega
      subst this
      rw [if_pos ((nI_leI (by omega) (by omega)).mpr c), h3]; rfl
    · rw [if_neg (fun u => c ((nI_leI (by omega) (by omega)).mp u))]
      have b1 := hb p k hp
      have b2' := hb q k hq
      simp (disch := omega) only [lt, l_24, pk_mul, nI_add, ck_nI, nI_clamp, hK.2 k p (by omega) hp, hK.2 k q (by omega) hq, hT (bd p k) b1]
      rw [hasBit_eq S (Nat.lt_trans (bs24 hN _) (by decide)) (by omega), bset_tb]
      simp only [bI_some, nI_1, nI_add, show decide (bd q k < N) = true from by simp [b2'], Bool.true_and]
      cases w : twT es bd K d (bd p k) (bd q k)
      · rw [if_pos b2_f]
        have : alK (fun k => twT es bd K d (bd p k) (bd q k)) K = false := by
          cases w2 : alK (fun k => twT es bd K d (bd p k) (bd q k)) K
          · rfl
          · have := (alK_iff K).mp w2 k (by omega)
            rw [w] at this; cases this
        rw [this]; rfl
      · rw [if_neg (by decide)]
        exact ih (k + 1) (by omega) (by omega) (by show (alK _ k && twT es bd K d (bd p k) (bd q k)) = true; rw [h3, w]; rfl)
theorem atp_eq {N K d p q : Nat} {es : Nat → Nat} {bd : Nat → Nat → Nat} {S : St} (hN : N ≤ 24) (hd : d ≤ 5) (hK6 : K ≤ 6) (hb : ∀ p k, p < N → bd p k < N) (hp : p < N) (hq : q < N) (hK : hoK N K bd S) (hT : twR N K es bd d S) : m_X2_anyTurnParts (nI p) (nI q) (nI (d * 24)) S = some (b2 (!alK (fun k => twT es bd K d (bd p k) (bd q k)) K), S) := atp_loop hN hd hK6 hb hp hq hK hT fuel 0 (by unfold fuel; omega) (by omega) rfl
