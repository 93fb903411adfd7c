/-! ===== home, the class: twins parted, the least number of turns ===== -/
theorem pt25 {N K d p : Nat} {es : Nat → Nat} {bd : Nat → Nat → Nat} {S : St} (hN : N ≤ 24) (h62 : rd S 6 2 = nI N) (hd : d ≤ 4) (hK6 : K ≤ 6) (hb : ∀ p k, p < N → bd p k < N) (hp : p < N) (hK : hoK N K bd S) (hT : twR N K es bd d S) {k2 : Int32 → Int32 → St → Option St} : ∀ m i a, N - i < m → i ≤ N → a < 2 ^ 24 → (∀ q, a.testBit q = (decide (q < N) && (if q < i then twT es bd K (d + 1) p q else twT es bd K d p q))) → g_X2_partTwins_25 k2 m (nI (d * 24)) (nI p) (nI a) (nI i) S = k2 (nI (d * 24)) (nI (p + 1)) (up S 36 ((d + 1) * 24 + p) (nI (bset (fun q => twT es bd K (d + 1) p q) N))) := by
  intro m
  induction m with
  | zero => intro i a h; omega
  | succ m ih =>
    intro i a h1 h2 h3 h4
    show f_X2_partTwins_25 k2 (g_X2_partTwins_25 k2 m) (nI (d * 24)) (nI p) (nI a) (nI i) S = _
    unfold f_X2_partTwins_25
    rw [h62]
    by_cases c : N ≤ i
    · rw [if_pos ((nI_leI (by omega) (by omega)).mpr c)]
      simp (disch := omega) only [l_24, nI_add, ck_nI, nI_clamp, lt, nI_1]
      have e : a = bset (fun q => twT es bd K (d + 1) p q) N := by
        apply nat_ext h3 (bs24 hN _)
        intro k _
        rw [h4, bset_tb]
        by_cases q : k < N
        · simp [q, show k < i by omega]
        · simp [q]
      rw [e, show d * 24 + 24 + p = (d + 1) * 24 + p by omega]
    · rw [if_neg (fun u => c ((nI_leI (by omega) (by omega)).mp u))]
      simp only [lt, nI_1, nI_add]
      have hi := h4 i
      rw [show decide (i < N) = true from by simp; omega, if_neg (by omega), Bool.true_and] at hi
      have hs : twT es bd K (d + 1) p i = (twT es bd K d p i && alK (fun k => twT es bd K d (bd p k) (bd i k)) K) := rfl
      have keep : twT es bd K (d + 1) p i = twT es bd K d p i → ∀ q, a.testBit q = (decide (q < N) && (if q < i + 1 then twT es bd K (d + 1) p q else twT es bd K d p q)) := fun w q => by
        rw [h4 q]
        by_cases v : q = i
        · subst v; rw [if_neg (by omega), if_pos (by omega), w]
        · by_cases v2 : q < i
          · rw [if_pos v2, if_pos (by omega)]
          · rw [if_neg v2, if_neg (by omega)]
      by_cases c1 : i = p
      · rw [if_pos (by rw [c1])]
        refine ih (i + 1) a (by omega) (by omega) h3 (keep ?_)
        rw [c1, twT_refl, twT_refl]
      · rw [if_neg (fun u => c1 ((nI_eq (by omega) (by omega)).mp u)), hasBit_eq S (by omega) (by omega), hi]
        simp only [bI_some]
        cases w : twT es bd K d p i
        · rw [if_pos b2_f]
          exact ih (i + 1) a (by omega) (by omega) h3 (keep (by rw [hs, w]; rfl))
        · rw [if_neg (by decide), atp_eq hN (by omega) hK6 hb hp (by omega) hK hT]
          simp only [bI_some]
          cases w2 : alK (fun k => twT es bd K d (bd p k) (bd i k)) K
          · rw [if_neg (by decide), with0_eq S (by omega)]
            simp only [bI_some]
            refine ih (i + 1) (cb a i) (by omega) (by omega) (Nat.lt_of_le_of_lt (cb_le a i) h3) (fun q => ?_)
            rw [cb_tb, h4 q]
            by_cases v : q = i
            · subst v; rw [if_pos (show q < q + 1 by omega), hs, w2]; simp
            · by_cases v2 : q < i
              · rw [if_pos v2, if_pos (by omega)]; simp [v]
              · rw [if_neg v2, if_neg (by omega)]; simp [v]
          · rw [if_pos (by decide)]
            exact ih (i + 1) a (by omega) (by omega) h3 (keep (by rw [hs, w, w2]; rfl))
theorem pt2 {N K d : Nat} {es : Nat → Nat} {bd : Nat → Nat → Nat} {S0 : St} (hA : hoA N es bd S0) (hd : d ≤ 4) (hK6 : K ≤ 6) : ∀ m p (S : St), N - p < m → p ≤ N → gF S0 S → hoK N K bd S → twR N K es bd d S → ∃ S', g_X2_partTwins_2 m (nI (d * 24)) (nI p) S = some S' ∧ (∀ q, p ≤ q → q < N → rd S' 36 ((d + 1) * 24 + q) = nI (bset (fun z => twT es bd K (d + 1) q z) N)) ∧ ∀ c i, (c ≠ 36 ∨ i < (d + 1) * 24 + p ∨ (d + 1) * 24 + N ≤ i) → rd S' c i = rd S c i := by
  intro m
  have hN := hA.1
  induction m with
  | zero => intro p S h; omega
  | succ m ih =>
    intro p S h1 h2 hF hK hT
    show ∃ S', f_X2_partTwins_2 (g_X2_partTwins_2 m) (nI (d * 24)) (nI p) S = _ ∧ _
    have g1 := (hA.2.2.2 S hF).1
    unfold f_X2_partTwins_2
    rw [g1]
    by_cases c : N ≤ p
    · rw [if_pos ((nI_leI (by omega) (by omega)).mpr c)]
      exact ⟨S, rfl, fun q _ _ => by omega, fun _ _ _ => rfl⟩
    · rw [if_neg (fun u => c ((nI_leI (by omega) (by omega)).mp u))]
      simp (disch := omega) only [nI_add, ck_nI, nI_clamp, lt, hT p (by omega)]
      have a1 := pt25 (p := p) hN g1 hd hK6 hA.2.2.1 (by omega) hK hT (k2 := g_X2_partTwins_2 m) fuel 0 _ (by unfold fuel; omega) (by omega) (bs24 hN _) (fun q => by rw [bset_tb, if_neg (by omega)])
      have a1 : g_X2_partTwins_25 (g_X2_partTwins_2 m) fuel (nI (d * 24)) (nI p) (nI (bset (fun q => twT es bd K d p q) N)) 0 S = _ := a1
      rw [a1]
      obtain ⟨S', b1, b2', b3⟩ := ih (p + 1) (up S 36 ((d + 1) * 24 + p) (nI (bset (fun q => twT es bd K (d + 1) p q) N))) (by omega) (by omega) (gF_up hF (by omega)) (hoK_fr hK (fun c i u => rd_ne (by omega))) (fun q hq => by rw [rd_ne (by omega)]; exact hT q hq)
      refine ⟨S', b1, fun q u1 u2 => ?_, fun c i u => by rw [b3 c i (by omega), rd_ne (by omega)]⟩
      by_cases v : q = p
      · subst v; rw [b3 36 ((d + 1) * 24 + q) (by omega), rd_same]
      · exact b2' q (by omega) u2
def HasT (N K : Nat) (es : Nat → Nat) (bd : Nat → Nat → Nat) (d : Nat) : Prop := ∃ p q, p < N ∧ q < N ∧ p ≠ q ∧ twT es bd K d p q = true
theorem hat_loop {N K d : Nat} {es : Nat → Nat} {bd : Nat → Nat → Nat} {S : St} (hN : N ≤ 24) (h62 : rd S 6 2 = nI N) (hd : d ≤ 5) (hT : twR N K es bd d S) : ∀ m p, N - p < m → p ≤ N → ∃ b : Bool, g_X2_hasTwins_2 m (nI (d * 24)) (nI p) S = some (b2 b, S) ∧ (b = true → HasT N K es bd d) ∧ (b = false → ∀ q, p ≤ q → q < N → bset (fun z => twT es bd K d q z) N = 2 ^ q) := by
  intro m
  induction m with
  | zero => intro p h; omega
  | succ m ih =>
    intro p h1 h2
    show ∃ b : Bool, f_X2_hasTwins_2 (g_X2_hasTwins_2 m) (nI (d * 24)) (nI p) S = _ ∧ _
    unfold f_X2_hasTwins_2
    rw [h62]
    by_cases c : N ≤ p
    · rw [if_pos ((nI_leI (by omega) (by omega)).mpr c)]
      exact ⟨false, rfl, (fun u => by cases u), fun _ q _ _ => by omega⟩
    · rw [if_neg (fun u => c ((nI_leI (by omega) (by omega)).mp u))]
      simp (disch := omega) only [nI_add, ck_nI, nI_clamp, lt, hT p (by omega), shl1_nI, nI_1]
      have hb := bs24 hN (fun q => twT es bd K d p q)
      have h2p : 2 ^ p < 2 ^ 24 := wb_lt2 (by omega)
      have e := nI_eq (a := bset (fun q => twT es bd K d p q) N) (b := 2 ^ p) (Nat.lt_trans hb (by decide)) (Nat.lt_trans h2p (by decide))
      by_cases c1 : bset (fun q => twT es bd K d p q) N = 2 ^ p
      · rw [if_pos (e.mpr c1)]
        obtain ⟨b, b1, b2', b3⟩ := ih (p + 1) (by omega) (by omega)
        refine ⟨b, b1, b2', fun u q u1 u2 => ?_⟩
        by_cases v : q = p
        · subst v; exact c1
        · exact b3 u q (by omega) u2
      · rw [if_neg (fun u => c1 (e.mp u))]
        refine ⟨true, rfl, fun _ => ?_, fun u => by cases u⟩
        obtain ⟨q, q1, q2, q3⟩ := bs_two (f := fun q => twT es bd K d p q) (show p < N by omega) (twT_refl d p) c1
        exact ⟨p, q, by omega, q1, fun u => q2 u.symm, q3⟩
theorem lt63 {N K : Nat} {es : Nat → Nat} {bd : Nat → Nat → Nat} {S : St} (hN : N ≤ 24) (h62 : rd S 6 2 = nI N) (hT : ∀ d, d ≤ 5 → twR N K es bd d S) : ∀ m d, 6 - d < m → d ≤ 6 → (∀ e, e < d → HasT N K es bd e) → ∃ r, g_X2_leastTurns_63 m (nI d) S = some (r, S) ∧ ((r = -1 ∧ ∀ e, e ≤ 5 → HasT N K es bd e) ∨ ∃ L, L ≤ 5 ∧ r = nI L ∧ (∀ e, e < L → HasT N K es bd e) ∧ ∀ q, q < N → bset (fun z => twT es bd K L q z) N = 2 ^ q) := by
  intro m
  induction m with
  | zero => intro d h; omega
  | succ m ih =>
    intro d h1 h2 h3
    show ∃ r, f_X2_leastTurns_63 (g_X2_leastTurns_63 m) (nI d) S = _ ∧ _
    unfold f_X2_leastTurns_63
    by_cases c : 5 < d
    · rw [if_pos (show 5 < nI d from (nI_ltI (a := 5) (b := d) (by omega) (by omega)).mpr c)]
      exact ⟨-1, rfl, Or.inl ⟨rfl, fun e he => h3 e (by omega)⟩⟩
    · rw [if_neg (show ¬ 5 < nI d from fun u => c ((nI_ltI (a := 5) (b := d) (by omega) (by omega)).mp u))]
      obtain ⟨b, b1, b2', b3⟩ := hat_loop hN h62 (show d ≤ 5 by omega) (hT d (by omega)) fuel 0 (by unfold fuel; omega) (by omega)
      have b1 : m_X2_hasTwins (nI (d * 24)) S = some (b2 b, S) := b1
      rw [l_24, pk_mul, b1]
      simp only [bI_some, lt, nI_1, nI_add]
      cases b
      · rw [if_pos b2_f]
        exact ⟨nI d, rfl, Or.inr ⟨d, by omega, rfl, h3, fun q hq => b3 rfl q (by omega) hq⟩⟩
      · rw [if_neg (by decide)]
        exact ih (d + 1) (by omega) (by omega) (fun e he => by
          by_cases v : e = d
          · subst v; exact b2' rfl
          · exact h3 e (by omega))
theorem lt42 {N K : Nat} {es : Nat → Nat} {bd : Nat → Nat → Nat} {S0 : St} (hA : hoA N es bd S0) (hK6 : K ≤ 6) : ∀ m d (S : St), 5 - d < m → d ≤ 5 → gF S0 S → hoK N K bd S → (∀ e, e ≤ d → twR N K es bd e S) → ∃ S', g_X2_leastTurns_42 m (nI d) S = g_X2_leastTurns_63 fuel 0 S' ∧ (∀ e, e ≤ 5 → twR N K es bd e S') ∧ ∀ c i, c ≠ 36 → rd S' c i = rd S c i := by
  intro m
  have hN := hA.1
  induction m with
  | zero => intro d S h; omega
  | succ m ih =>
    intro d S h1 h2 hF hK hT
    show ∃ S', f_X2_leastTurns_42 (g_X2_leastTurns_42 m) (nI d) S = _ ∧ _
    unfold f_X2_leastTurns_42
    by_cases c : 5 ≤ d
    · rw [if_pos (show 5 ≤ nI d from (nI_leI (a := 5) (b := d) (by omega) (by omega)).mpr c)]
      exact ⟨S, rfl, fun e he => hT e (by omega), fun _ _ _ => rfl⟩
    · rw [if_neg (show ¬ 5 ≤ nI d from fun u => c ((nI_leI (a := 5) (b := d) (by omega) (by omega)).mp u))]
      obtain ⟨S1, a1, a2, a3⟩ := pt2 hA (show d ≤ 4 by omega) hK6 fuel 0 S (by unfold fuel; omega) (by omega) hF hK (hT d (by omega))
      have a1 : m_X2_partTwins (nI (d * 24)) S = some S1 := a1
      rw [l_24, pk_mul, a1]
      simp only [bV_some, lt, nI_1, nI_add]
      obtain ⟨S', b1, b2', b3⟩ := ih (d + 1) S1 (by omega) (by omega) (gF_fr hF (fun c i u => a3 c i (by omega))) (hoK_fr hK (fun c i u => a3 c i (by omega))) (fun e he p hp => by
        by_cases v : e = d + 1
        · subst v; exact a2 p (by omega) hp
        · rw [a3 36 (e * 24 + p) (by omega)]; exact hT e (by omega) p hp)
      exact ⟨S', b1, b2', fun c i u => by rw [b3 c i u, a3 c i (Or.inl u)]⟩
theorem lt2 {N K : Nat} {es : Nat → Nat} {bd : Nat → Nat → Nat} {S0 : St} (hA : hoA N es bd S0) : ∀ m p (S : St), N - p < m → p ≤ N → gF S0 S → (∀ q, q < p → rd S 36 (0 * 24 + q) = nI (bset (fun z => twT es bd K 0 q z) N)) → ∃ S', g_X2_leastTurns_2 m (nI p) S = g_X2_leastTurns_42 fuel 0 S' ∧ twR N K es bd 0 S' ∧ ∀ c i, c ≠ 36 → rd S' c i = rd S c i := by
  intro m
  have hN := hA.1
  induction m with
  | zero => intro p S h; omega
  | succ m ih =>
    intro p S h1 h2 hF hT
    show ∃ S', f_X2_leastTurns_2 (g_X2_leastTurns_2 m) (nI p) S = _ ∧ _
    obtain ⟨g1, g2, g3, g4⟩ := hA.2.2.2 S hF
    unfold f_X2_leastTurns_2
    rw [g1]
    by_cases c : N ≤ p
    · rw [if_pos ((nI_leI (by omega) (by omega)).mpr c)]
      exact ⟨S, rfl, fun q hq => hT q (by omega), fun _ _ _ => rfl⟩
    · have he := (hA.2.1 p (by omega)).2
      rw [if_neg (fun u => c ((nI_leI (by omega) (by omega)).mp u)), g2 p (by omega)]
      simp only [bI_some]
      rw [g4 (es p) (by omega)]
      simp (disch := omega) only [bI_some, ck_nI, nI_clamp, lt, nI_1, nI_add]
      obtain ⟨S', b1, b2', b3⟩ := ih (p + 1) (up S 36 p (nI (bset (fun q => es q == es p) N))) (by omega) (by omega) (gF_up hF (by omega)) (fun q hq => by
        by_cases v : q = p
        · subst v
          rw [show 0 * 24 + q = q by omega, rd_same, bset_cong (g := fun z => twT es bd K 0 q z) (fun k _ => by show (es k == es q) = (es q == es k); exact Bool.beq_comm)]
        · rw [rd_ne (by omega)]; exact hT q (by omega))
      exact ⟨S', b1, b2', fun c i u => by rw [b3 c i u, rd_ne (Or.inl u)]⟩
theorem least_eq {N K : Nat} {es : Nat → Nat} {bd : Nat → Nat → Nat} {S0 S : St} (hA : hoA N es bd S0) (hK6 : K ≤ 6) (hF : gF S0 S) (hK : hoK N K bd S) : ∃ r S', m_X2_leastTurns S = some (r, S') ∧ (∀ d, d ≤ 5 → twR N K es bd d S') ∧ (∀ c i, c ≠ 36 → rd S' c i = rd S c i) ∧ ((r = -1 ∧ ∀ e, e ≤ 5 → HasT N K es bd e) ∨ ∃ L, L ≤ 5 ∧ r = nI L ∧ (∀ e, e < L → HasT N K es bd e) ∧ ∀ q, q < N → bset (fun z => twT es bd K L q z) N = 2 ^ q) := by
  have hN := hA.1
  unfold m_X2_leastTurns f_X2_leastTurns_0
  obtain ⟨S1, a1, a2, a3⟩ := lt2 (K := K) hA fuel 0 S (by unfold fuel; omega) (by omega) hF (fun q hq => by omega)
  have a1 : g_X2_leastTurns_2 fuel 0 S = _ := a1
  obtain ⟨S2, b1, b2', b3⟩ := lt42 hA hK6 fuel 0 S1 (by unfold fuel; omega) (by omega) (gF_fr hF (fun c i u => a3 c i (by omega))) (hoK_fr hK (fun c i u => a3 c i (by omega))) (fun e he => by
    have : e = 0 := by omega
    subst this; exact a2)
  have b1 : g_X2_leastTurns_42 fuel 0 S1 = _ := b1
  have hF2 : gF S0 S2 := gF_fr hF (fun c i u => by rw [b3 c i (by omega), a3 c i (by omega)])
  obtain ⟨r, c1, c2⟩ := lt63 hN (hA.2.2.2 S2 hF2).1 b2' fuel 0 (by unfold fuel; omega) (by omega) (fun e he => by omega)
  have c1 : g_X2_leastTurns_63 fuel 0 S2 = _ := c1
  rw [a1, b1, c1]
  exact ⟨r, S2, rfl, b2', fun c i u => by rw [b3 c i u, a3 c i u], c2⟩
/-! rows of a tale: where one is, what looks the same, who is unsure -/
def unT (N : Nat) (es : Nat → Nat) (bd : Nat → Nat → Nat) (t : Nat → Nat) (m p : Nat) : Bool := decide (bset (fun q => smT es bd t m p q) N ≠ 2 ^ p)
def roT (N : Nat) (es : Nat → Nat) (bd : Nat → Nat → Nat) (t : Nat → Nat) (m : Nat) (S : St) : Prop := rd S 39 m = nI (bset (fun p => unT N es bd t m p) N) ∧ ∀ p, p < N → unT N es bd t m p = true → rd S 37 (m * 24 + p) = nI (goT bd t p m) ∧ rd S 38 (m * 24 + p) = nI (bset (fun q => smT es bd t m p q) N)
theorem unT_iff {N : Nat} {es : Nat → Nat} {bd : Nat → Nat → Nat} {t : Nat → Nat} {m p : Nat} (hp : p < N) : unT N es bd t m p = true ↔ ∃ q, q < N ∧ q ≠ p ∧ smT es bd t m p q = true := by
  unfold unT
  rw [decide_eq_true_iff]
  constructor
  · exact fun h => bs_two (f := fun q => smT es bd t m p q) hp smT_refl h
  · rintro ⟨q, q1, q2, q3⟩ h
    exact q2 (bs_one h q1 q3)
theorem unT_dn {N : Nat} {es : Nat → Nat} {bd : Nat → Nat → Nat} {t : Nat → Nat} {m p : Nat} (hp : p < N) (h : unT N es bd t (m + 1) p = true) : unT N es bd t m p = true := by
  obtain ⟨q, q1, q2, q3⟩ := (unT_iff hp).mp h
  exact (unT_iff hp).mpr ⟨q, q1, q2, smT_dn q3⟩
theorem unT_sm {N : Nat} {es : Nat → Nat} {bd : Nat → Nat → Nat} {t : Nat → Nat} {m p q : Nat} (hp : p < N) (hq : q < N) (hne : q ≠ p) (h : smT es bd t m p q = true) : unT N es bd t m q = true := (unT_iff hq).mpr ⟨p, hp, fun u => hne u.symm, smT_sym h⟩
theorem beg9 {N K : Nat} {es : Nat → Nat} {bd : Nat → Nat → Nat} {S0 : St} (hA : hoA N es bd S0) (t : Nat → Nat) : ∀ m p (S : St), N - p < m → p ≤ N → gF S0 S → twR N K es bd 0 S → rd S 39 0 = nI (bset (fun p => unT N es bd t 0 p) p) → (∀ q, q < p → rd S 37 q = nI q ∧ rd S 38 q = nI (bset (fun z => smT es bd t 0 q z) N)) → ∃ S', g_X2_begin_9 m (nI p) S = some S' ∧ roT N es bd t 0 S' ∧ ∀ c i, c ≠ 37 → c ≠ 38 → c ≠ 39 → rd S' c i = rd S c i := by
  intro m
  have hN := hA.1
  induction m with
  | zero => intro p S h; omega
  | succ m ih =>
    intro p S h1 h2 hF hT h39 hq
    show ∃ S', f_X2_begin_9 (g_X2_begin_9 m) (nI p) S = _ ∧ _
    unfold f_X2_begin_9
    rw [(hA.2.2.2 S hF).1]
    by_cases c : N ≤ p
    · have : p = N := by omega
      subst this
      rw [if_pos ((nI_leI (by omega) (by omega)).mpr c)]
      refine ⟨S, rfl, ⟨h39, fun q hq' _ => ?_⟩, fun _ _ _ _ _ => rfl⟩
      rw [show 0 * 24 + q = q by omega]; exact hq q hq'
    · rw [if_neg (fun u => c ((nI_leI (by omega) (by omega)).mp u))]
      have hTp : rd S 36 p = nI (bset (fun z => smT es bd t 0 p z) N) := by
        have := hT p (by omega)
        rw [show 0 * 24 + p = p by omega] at this
        exact this
      have hb := bs24 hN (fun z => smT es bd t 0 p z)
      have h2p : 2 ^ p < 2 ^ 24 := wb_lt2 (by omega)
      have e := nI_eq (a := bset (fun z => smT es bd t 0 p z) N) (b := 2 ^ p) (Nat.lt_trans hb (by decide)) (Nat.lt_trans h2p (by decide))
      unfold f_X2_begin_68
      simp (disch := omega) only [ck_nI, nI_clamp, lt, rd_ne, hTp, shl1_nI, tc_0, h39, nI_1, nI_add]
      have key : ∀ v : Nat, v = bset (fun p => unT N es bd t 0 p) (p + 1) → ∃ S', g_X2_begin_9 m (nI (p + 1)) (up (up (up S 37 p (nI p)) 38 p (nI (bset (fun z => smT es bd t 0 p z) N))) 39 0 (nI v)) = some S' ∧ roT N es bd t 0 S' ∧ ∀ c i, c ≠ 37 → c ≠ 38 → c ≠ 39 → rd S' c i = rd S c i := fun v hv => by
        obtain ⟨S', b1, b2', b3⟩ := ih (p + 1) (up (up (up S 37 p (nI p)) 38 p (nI (bset (fun z => smT es bd t 0 p z) N))) 39 0 (nI v)) (by omega) (by omega) (gF_up (gF_up (gF_up hF (by omega)) (by omega)) (by omega)) (fun q hq => by rw [rd_ne (by omega), rd_ne (by omega), rd_ne (by omega)]; exact hT q hq) (by rw [rd_same, hv]) (fun q hq' => by
          by_cases v : q = p
          · subst v; rw [rd_ne (by omega), rd_ne (by omega), rd_same, rd_ne (by omega), rd_same]; exact ⟨rfl, rfl⟩
          · rw [rd_ne (by omega), rd_ne (by omega), rd_ne (by omega), rd_ne (by omega), rd_ne (by omega), rd_ne (by omega)]; exact hq q (by omega))
        exact ⟨S', b1, b2', fun c i u1 u2 u3 => by rw [b3 c i u1 u2 u3, rd_ne (Or.inl u3), rd_ne (Or.inl u2), rd_ne (Or.inl u1)]⟩
      by_cases c1 : bset (fun z => smT es bd t 0 p z) N = 2 ^ p
      · rw [if_pos (e.mpr c1), with0_eq _ (by omega)]
        simp only [bI_some]
        apply key
        have : unT N es bd t 0 p = false := by unfold unT; rw [c1]; simp
        show _ = (if unT N es bd t 0 p then sb _ p else _)
        rw [this]
        apply nat_ext (n := 24) (Nat.lt_of_le_of_lt (cb_le _ _) (bs24 (by omega) _)) (bs24 (show p ≤ 24 by omega) _)
        intro k _
        rw [cb_tb]
        have b := bset_tb (fun p => unT N es bd t 0 p) p k
        rw [b]
        by_cases v : k = p
        · subst v; simp
        · simp [v]
      · rw [if_neg (fun u => c1 (e.mp u)), with1_eq _ (by omega)]
        simp only [bI_some]
        apply key
        have : unT N es bd t 0 p = true := by unfold unT; simp [c1]
        show _ = (if unT N es bd t 0 p then sb _ p else _)
        rw [this]; rfl
theorem begin_eq {N K : Nat} {es : Nat → Nat} {bd : Nat → Nat → Nat} {S0 S : St} (hA : hoA N es bd S0) (t : Nat → Nat) (hF : gF S0 S) (hT : twR N K es bd 0 S) : ∃ S', m_X2_begin S = some S' ∧ roT N es bd t 0 S' ∧ ∀ c i, c ≠ 37 → c ≠ 38 → c ≠ 39 → rd S' c i = rd S c i := by
  have hN := hA.1
  unfold m_X2_begin f_X2_begin_0
  simp only [lt, tc_0]
  obtain ⟨S', b1, b2', b3⟩ := beg9 hA t fuel 0 (up S 39 0 0) (by unfold fuel; omega) (by omega) (gF_up hF (by omega)) (fun q hq => by rw [rd_ne (by omega)]; exact hT q hq) (rd_same _ _ _ _) (fun q hq => by omega)
  exact ⟨S', b1, b2', fun c i u1 u2 u3 => by rw [b3 c i u1 u2 u3, rd_ne (Or.inl u3)]⟩
