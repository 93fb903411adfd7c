/-! ===== home, the class: a turn made, is it hopeless ===== -/
theorem mt24 {x1 x2 x3 x4 : Int32} : ∀ n e (S : St), 7 - e < n → e ≤ 7 → ∃ S', g_X2_makeTurn_24 n x1 x2 x3 x4 (nI e) S = g_X2_makeTurn_48 fuel x1 x2 x3 x4 0 S' ∧ (∀ j, e ≤ j → j ≤ 6 → rd S' 40 j = 0) ∧ ∀ c i, (c ≠ 40 ∨ i < e) → rd S' c i = rd S c i := by
  intro n
  induction n with
  | zero => intro e S h; omega
  | succ n ih =>
    intro e S h1 h2
    show ∃ S', f_X2_makeTurn_24 (g_X2_makeTurn_24 n) x1 x2 x3 x4 (nI e) S = _ ∧ _
    unfold f_X2_makeTurn_24
    by_cases c : 6 < e
    · rw [if_pos (show 6 < nI e from (nI_ltI (a := 6) (b := e) (by omega) (by omega)).mpr c)]
      exact ⟨S, rfl, fun j _ _ => by omega, fun _ _ _ => rfl⟩
    · rw [if_neg (show ¬ 6 < nI e from fun u => c ((nI_ltI (a := 6) (b := e) (by omega) (by omega)).mp u)), ck_nI (by omega) (by omega), nI_clamp (by omega), lt_v, lt_v, nI_1]
      obtain ⟨S', a1, a2, a3⟩ := ih (e + 1) (up S 40 e 0) (by omega) (by omega)
      refine ⟨S', a1, fun j u1 u2 => ?_, fun c i u => by rw [a3 c i (by omega), rd_ne (by omega)]⟩
      by_cases v : j = e
      · subst v; rw [a3 40 j (by omega), rd_same]
      · exact a2 j (by omega) u2
def seT (N : Nat) (es : Nat → Nat) (bd : Nat → Nat → Nat) (t : Nat → Nat) (m e q : Nat) : Bool := unT N es bd t m q && (es (goT bd t q (m + 1)) == e)
theorem mt48 {N K : Nat} {es : Nat → Nat} {bd : Nat → Nat → Nat} {S0 : St} (hA : hoA N es bd S0) {t : Nat → Nat} {m : Nat} (hm : m < 5) (hK6 : K ≤ 6) (ht : t m < K) : ∀ n p (S : St), N - p < n → p ≤ N → gF S0 S → hoK N K bd S → roT N es bd t m S → (∀ q, q < p → unT N es bd t m q = true → rd S 37 (m * 24 + 24 + q) = nI (goT bd t q (m + 1))) → (∀ e, e ≤ 6 → rd S 40 e = nI (bset (fun q => seT N es bd t m e q) p)) →
    ∃ S', g_X2_makeTurn_48 n (nI m) (nI (m * 24)) (nI (m * 24 + 24)) (nI (t m * 24)) (nI p) S = g_X2_makeTurn_143 fuel (nI m) (nI (m * 24)) (nI (m * 24 + 24)) 0 (up S' 39 (m + 1) 0) ∧ (∀ q, q < N → unT N es bd t m q = true → rd S' 37 (m * 24 + 24 + q) = nI (goT bd t q (m + 1))) ∧ (∀ e, e ≤ 6 → rd S' 40 e = nI (bset (fun q => seT N es bd t m e q) N)) ∧ ∀ c i, (c ≠ 37 ∨ i < m * 24 + 24) → c ≠ 40 → rd S' c i = rd S c i := by
  intro n
  have hN := hA.1
  induction n with
  | zero => intro p S h; omega
  | succ n ih =>
    intro p S h1 h2 hF hK hR h37 h40
    show ∃ S', f_X2_makeTurn_48 (g_X2_makeTurn_48 n) (nI m) (nI (m * 24)) (nI (m * 24 + 24)) (nI (t m * 24)) (nI p) S = _ ∧ _
    unfold f_X2_makeTurn_48
    rw [(hA.2.2.2 S hF).1]
    by_cases c : N ≤ p
    · have : p = N := by omega
      subst this
      rw [if_pos ((nI_leI (by omega) (by omega)).mpr c), nI_1, ck_nI (by omega) (by omega), nI_clamp (by omega), lt_v]
      exact ⟨S, rfl, h37, h40, fun _ _ _ _ => rfl⟩
    · rw [if_neg (fun u => c ((nI_leI (by omega) (by omega)).mp u)), ck_nI (by omega) (by omega), nI_clamp (by omega), hR.1, hasBit_eq S (Nat.lt_trans (bs24 hN _) (by decide)) (by omega), bset_tb, show decide (p < N) = true from by simp; omega, Bool.true_and]
      simp only [bI_some, lt_v, nI_1, nI_add]
      cases w : unT N es bd t m p
      · rw [if_pos b2_f]
        refine ih (p + 1) S (by omega) (by omega) hF hK hR (fun q u1 u2 => ?_) (fun e he => ?_)
        · by_cases v : q = p
          · subst v; rw [w] at u2; cases u2
          · exact h37 q (by omega) u2
        · rw [h40 e he]
          show _ = nI (if seT N es bd t m e p then sb _ p else _)
          rw [show seT N es bd t m e p = false from by unfold seT; rw [w]; rfl]; rfl
      · rw [if_neg (by decide)]
        obtain ⟨r1, r2⟩ := hR.2 p (by omega) w
        have g1 := goT_lt hA.2.2.1 t (show p < N by omega) m
        have g2 : goT bd t p (m + 1) < N := goT_lt hA.2.2.1 t (show p < N by omega) (m + 1)
        have hb := hK.2 (t m) (goT bd t p m) ht g1
        simp (disch := omega) only [ck_nI, nI_clamp, r1, nI_add, hb]
        have hF2 : gF S0 (up S 37 (m * 24 + 24 + p) (nI (bd (goT bd t p m) (t m)))) := gF_up hF (by omega)
        have he6 := hA.2.1 _ g2
        rw [show bd (goT bd t p m) (t m) = goT bd t p (m + 1) from rfl] at *
        rw [(hA.2.2.2 _ hF2).2.1 (goT bd t p (m + 1)) g2]
        simp (disch := omega) only [bI_some, ck_nI, nI_clamp, rd_ne, h40 (es (goT bd t p (m + 1))) he6.2, shl1_nI, fa_or]
        obtain ⟨S', a1, a2, a3, a4⟩ := ih (p + 1) (up (up S 37 (m * 24 + 24 + p) (nI (goT bd t p (m + 1)))) 40 (es (goT bd t p (m + 1))) (nI (bset (fun q => seT N es bd t m (es (goT bd t p (m + 1))) q) p ||| 2 ^ p))) (by omega) (by omega) (gF_up hF2 (by omega)) (hoK_fr hK (fun c i u => by rw [rd_ne (by omega), rd_ne (by omega)])) ⟨by rw [rd_ne (by omega), rd_ne (by omega)]; exact hR.1, fun q u1 u2 => by rw [rd_ne (by omega), rd_ne (by omega), rd_ne (by omega), rd_ne (by omega)]; exact hR.2 q u1 u2⟩ (fun q u1 u2 => by
          by_cases v : q = p
          · subst v; rw [rd_ne (by omega), rd_same]
          · rw [rd_ne (by omega), rd_ne (by omega)]; exact h37 q (by omega) u2) (fun e he => by
          by_cases v : e = es (goT bd t p (m + 1))
          · subst v
            rw [rd_same]
            show _ = nI (if seT N es bd t m (es (goT bd t p (m + 1))) p then sb _ p else _)
            rw [show seT N es bd t m (es (goT bd t p (m + 1))) p = true from by unfold seT; rw [w]; simp]; rfl
          · rw [rd_ne (by omega), rd_ne (by omega), h40 e he]
            show _ = nI (if seT N es bd t m e p then sb _ p else _)
            rw [show seT N es bd t m e p = false from by unfold seT; rw [w]; simp; omega]; rfl)
        exact ⟨S', a1, a2, a3, fun c i u1 u2 => by rw [a4 c i u1 u2, rd_ne (by omega), rd_ne (by omega)]⟩
theorem sameT {N : Nat} {es : Nat → Nat} {bd : Nat → Nat → Nat} {t : Nat → Nat} {m p : Nat} (hN : N ≤ 24) (hp : p < N) (w : unT N es bd t m p = true) : bset (fun q => smT es bd t m p q) N &&& bset (fun q => seT N es bd t m (es (goT bd t p (m + 1))) q) N = bset (fun q => smT es bd t (m + 1) p q) N := by
  apply nat_ext (n := 24) (Nat.lt_of_le_of_lt Nat.and_le_left (bs24 hN _)) (bs24 hN _)
  intro k _
  rw [Nat.testBit_and, bset_tb, bset_tb, bset_tb]
  by_cases hk : k < N
  · have e : smT es bd t (m + 1) p k = (smT es bd t m p k && (es (goT bd t p (m + 1)) == es (goT bd t k (m + 1)))) := rfl
    rw [e]
    unfold seT
    cases q : smT es bd t m p k
    · simp
    · have : unT N es bd t m k = true := by
        by_cases v : k = p
        · subst v; exact w
        · exact unT_sm hp hk v q
      rw [this]
      simp [hk]
      exact Bool.beq_comm
  · simp [hk]
theorem mt143 {N : Nat} {es : Nat → Nat} {bd : Nat → Nat → Nat} {S0 : St} (hA : hoA N es bd S0) {t : Nat → Nat} {m : Nat} (hm : m < 5) : ∀ n p (S : St), N - p < n → p ≤ N → gF S0 S → roT N es bd t m S → (∀ q, q < N → unT N es bd t m q = true → rd S 37 (m * 24 + 24 + q) = nI (goT bd t q (m + 1))) → (∀ e, e ≤ 6 → rd S 40 e = nI (bset (fun q => seT N es bd t m e q) N)) → rd S 39 (m + 1) = nI (bset (fun q => unT N es bd t (m + 1) q) p) → (∀ q, q < p → unT N es bd t m q = true → rd S 38 (m * 24 + 24 + q) = nI (bset (fun z => smT es bd t (m + 1) q z) N)) →
    ∃ S', g_X2_makeTurn_143 n (nI m) (nI (m * 24)) (nI (m * 24 + 24)) (nI p) S = some S' ∧ roT N es bd t (m + 1) S' ∧ ∀ c i, (c ≠ 38 ∨ i < m * 24 + 24) → (c ≠ 39 ∨ i ≠ m + 1) → rd S' c i = rd S c i := by
  intro n
  have hN := hA.1
  induction n with
  | zero => intro p S h; omega
  | succ n ih =>
    intro p S h1 h2 hF hR h37 h40 h39 h38
    show ∃ S', f_X2_makeTurn_143 (g_X2_makeTurn_143 n) (nI m) (nI (m * 24)) (nI (m * 24 + 24)) (nI p) S = _ ∧ _
    unfold f_X2_makeTurn_143
    rw [(hA.2.2.2 S hF).1]
    by_cases c : N ≤ p
    · have : p = N := by omega
      subst this
      rw [if_pos ((nI_leI (by omega) (by omega)).mpr c)]
      refine ⟨S, rfl, ⟨h39, fun q u1 u2 => ?_⟩, fun _ _ _ _ => rfl⟩
      have u3 := unT_dn u1 u2
      rw [show (m + 1) * 24 + q = m * 24 + 24 + q by omega]
      exact ⟨h37 q u1 u3, h38 q u1 u3⟩
    · rw [if_neg (fun u => c ((nI_leI (by omega) (by omega)).mp u)), ck_nI (by omega) (by omega), nI_clamp (by omega), hR.1, hasBit_eq S (Nat.lt_trans (bs24 hN _) (by decide)) (by omega), bset_tb, show decide (p < N) = true from by simp; omega, Bool.true_and]
      simp only [bI_some, lt_v, nI_1, nI_add]
      have hp : p < N := by omega
      cases w : unT N es bd t m p
      · rw [if_pos b2_f]
        refine ih (p + 1) S (by omega) (by omega) hF hR h37 h40 ?_ (fun q u1 u2 => ?_)
        · rw [h39]
          show _ = nI (if unT N es bd t (m + 1) p then sb _ p else _)
          have : unT N es bd t (m + 1) p = false := by
            cases v : unT N es bd t (m + 1) p
            · rfl
            · rw [unT_dn hp v] at w; cases w
          rw [this]; rfl
        · by_cases v : q = p
          · subst v; rw [w] at u2; cases u2
          · exact h38 q (by omega) u2
      · rw [if_neg (by decide)]
        obtain ⟨r1, r2⟩ := hR.2 p hp w
        have g2 : goT bd t p (m + 1) < N := goT_lt hA.2.2.1 t hp (m + 1)
        have he6 := hA.2.1 _ g2
        have h37p := h37 p hp w
        simp (disch := omega) only [ck_nI, nI_clamp, h37p]
        rw [(hA.2.2.2 _ hF).2.1 (goT bd t p (m + 1)) g2]
        simp (disch := omega) only [bI_some, ck_nI, nI_clamp, r2, h40 (es (goT bd t p (m + 1))) he6.2, fa_and, rd_ne, h39, shl1_nI]
        rw [sameT hN hp w]
        have hb := bs24 hN (fun z => smT es bd t (m + 1) p z)
        have h2p : 2 ^ p < 2 ^ 24 := wb_lt2 (by omega)
        have e := nI_eq (a := bset (fun z => smT es bd t (m + 1) p z) N) (b := 2 ^ p) (Nat.lt_trans hb (by decide)) (Nat.lt_trans h2p (by decide))
        unfold f_X2_makeTurn_244
        have key : ∀ v : Nat, v = bset (fun p => unT N es bd t (m + 1) p) (p + 1) → ∃ S', g_X2_makeTurn_143 n (nI m) (nI (m * 24)) (nI (m * 24 + 24)) (nI (p + 1)) (up (up S 38 (m * 24 + 24 + p) (nI (bset (fun z => smT es bd t (m + 1) p z) N))) 39 (m + 1) (nI v)) = some S' ∧ roT N es bd t (m + 1) S' ∧ ∀ c i, (c ≠ 38 ∨ i < m * 24 + 24) → (c ≠ 39 ∨ i ≠ m + 1) → rd S' c i = rd S c i := fun v hv => by
          obtain ⟨S', b1, b2', b3⟩ := ih (p + 1) (up (up S 38 (m * 24 + 24 + p) (nI (bset (fun z => smT es bd t (m + 1) p z) N))) 39 (m + 1) (nI v)) (by omega) (by omega) (gF_up (gF_up hF (by omega)) (by omega)) ⟨by rw [rd_ne (by omega), rd_ne (by omega)]; exact hR.1, fun q u1 u2 => by rw [rd_ne (by omega), rd_ne (by omega), rd_ne (by omega), rd_ne (by omega)]; exact hR.2 q u1 u2⟩ (fun q u1 u2 => by rw [rd_ne (by omega), rd_ne (by omega)]; exact h37 q u1 u2) (fun e he => by rw [rd_ne (by omega), rd_ne (by omega)]; exact h40 e he) (by rw [rd_same, hv]) (fun q u1 u2 => by
            by_cases v : q = p
            · subst v; rw [rd_ne (by omega), rd_same]
            · rw [rd_ne (by omega), rd_ne (by omega)]; exact h38 q (by omega) u2)
          exact ⟨S', b1, b2', fun c i u1 u2 => by rw [b3 c i u1 u2, rd_ne (by omega), rd_ne (by omega)]⟩
        by_cases c1 : bset (fun z => smT es bd t (m + 1) p z) N = 2 ^ p
        · rw [if_pos (e.mpr c1), with0_eq _ (by omega)]
          simp (disch := omega) only [bI_some, ck_nI, nI_clamp, lt_v, nI_1]
          apply key
          have : unT N es bd t (m + 1) p = false := by unfold unT; rw [c1]; simp
          show _ = (if unT N es bd t (m + 1) p then sb _ p else _)
          rw [this]
          apply nat_ext (n := 24) (Nat.lt_of_le_of_lt (cb_le _ _) (bs24 (by omega) _)) (bs24 (show p ≤ 24 by omega) _)
          intro k _
          rw [cb_tb]
          have b := bset_tb (fun p => unT N es bd t (m + 1) p) p k
          rw [b]
          by_cases v : k = p
          · subst v; simp
          · simp [v]
        · rw [if_neg (fun u => c1 (e.mp u)), with1_eq _ (by omega)]
          simp (disch := omega) only [bI_some, ck_nI, nI_clamp, lt_v, nI_1]
          apply key
          have : unT N es bd t (m + 1) p = true := by unfold unT; simp [c1]
          show _ = (if unT N es bd t (m + 1) p then sb _ p else _)
          rw [this]; rfl
theorem makeTurn_eq {N K : Nat} {es : Nat → Nat} {bd : Nat → Nat → Nat} {S0 S : St} (hA : hoA N es bd S0) {t : Nat → Nat} {m : Nat} (hm : m < 5) (hK6 : K ≤ 6) (ht : t m < K) (hF : gF S0 S) (hK : hoK N K bd S) (hR : roT N es bd t m S) (h35 : rd S 35 m = nI (t m)) : ∃ S', m_X2_makeTurn (nI m) S = some S' ∧ roT N es bd t (m + 1) S' ∧ ∀ c i, (c ≠ 37 ∨ i < m * 24 + 24) → (c ≠ 38 ∨ i < m * 24 + 24) → (c ≠ 39 ∨ i ≠ m + 1) → c ≠ 40 → rd S' c i = rd S c i := by
  have hN := hA.1
  unfold m_X2_makeTurn f_X2_makeTurn_0
  simp (disch := omega) only [lt_v, l_24, pk_mul, nI_add, ck_nI, nI_clamp, h35]
  obtain ⟨S1, a1, a2, a3⟩ := mt24 (x1 := nI m) (x2 := nI (m * 24)) (x3 := nI (m * 24 + 24)) (x4 := nI (t m * 24)) fuel 0 S (by unfold fuel; omega) (by omega)
  have a1 : g_X2_makeTurn_24 fuel (nI m) (nI (m * 24)) (nI (m * 24 + 24)) (nI (t m * 24)) 0 S = _ := a1
  obtain ⟨S2, b1, b2', b3, b4⟩ := mt48 hA hm hK6 ht fuel 0 S1 (by unfold fuel; omega) (by omega) (gF_fr hF (fun c i u => a3 c i (by omega))) (hoK_fr hK (fun c i u => a3 c i (by omega))) ⟨by rw [a3 39 m (by omega)]; exact hR.1, fun q u1 u2 => by rw [a3 37 _ (by omega), a3 38 _ (by omega)]; exact hR.2 q u1 u2⟩ (fun q u1 _ => by omega) (fun e he => by rw [a2 e (by omega) he]; rfl)
  have b1 : g_X2_makeTurn_48 fuel (nI m) (nI (m * 24)) (nI (m * 24 + 24)) (nI (t m * 24)) 0 S1 = _ := b1
  have f2 : ∀ c i, (c ≠ 37 ∨ i < m * 24 + 24) → (c ≠ 39 ∨ i ≠ m + 1) → c ≠ 40 → rd (up S2 39 (m + 1) 0) c i = rd S c i := fun c i u1 u2 u3 => by rw [rd_ne u2, b4 c i u1 u3, a3 c i (Or.inl u3)]
  obtain ⟨S3, c1, c2, c3⟩ := mt143 hA hm fuel 0 (up S2 39 (m + 1) 0) (by unfold fuel; omega) (by omega) (gF_fr hF (fun c i u => f2 c i (by omega) (by omega) (by omega))) ⟨by rw [f2 39 m (by omega) (by omega) (by omega)]; exact hR.1, fun q u1 u2 => by rw [f2 37 _ (by omega) (by omega) (by omega), f2 38 _ (by omega) (by omega) (by omega)]; exact hR.2 q u1 u2⟩ (fun q u1 u2 => by rw [rd_ne (by omega)]; exact b2' q u1 u2) (fun e he => by rw [rd_ne (by omega)]; exact b3 e he) (rd_same _ _ _ _) (fun q u1 _ => by omega)
  have c1 : g_X2_makeTurn_143 fuel (nI m) (nI (m * 24)) (nI (m * 24 + 24)) 0 _ = _ := c1
  rw [a1, b1, c1]
  exact ⟨S3, rfl, c2, fun c i u1 u2 u3 u4 => by rw [c3 c i u2 u3, f2 c i u1 u3 u4]⟩
theorem mtw_loop {N K d : Nat} {es : Nat → Nat} {bd : Nat → Nat → Nat} {t : Nat → Nat} {m p : Nat} {S : St} (hN : N ≤ 24) (hc : ∀ p k, p < N → bd p k < N) (h62 : rd S 6 2 = nI N) (hm : m ≤ 5) (hp : p < N) (hR : roT N es bd t m S) (hu : unT N es bd t m p = true) : ∀ n q, N - q < n → q ≤ N → p < q → ∃ b : Bool, g_X2_meetsTwin_5 n (nI (m * 24)) (nI p) (nI (bset (fun z => twT es bd K d (goT bd t p m) z) N)) (nI q) S = some (b2 b, S) ∧ (b = true ↔ ∃ q', q ≤ q' ∧ q' < N ∧ smT es bd t m p q' = true ∧ twT es bd K d (goT bd t p m) (goT bd t q' m) = true) := by
  intro n
  induction n with
  | zero => intro q h; omega
  | succ n ih =>
    intro q h1 h2 h3
    show ∃ b : Bool, f_X2_meetsTwin_5 (g_X2_meetsTwin_5 n) (nI (m * 24)) (nI p) (nI (bset (fun z => twT es bd K d (goT bd t p m) z) N)) (nI q) S = _ ∧ _
    unfold f_X2_meetsTwin_5
    rw [h62]
    by_cases c : N ≤ q
    · rw [if_pos ((nI_leI (by omega) (by omega)).mpr c)]
      exact ⟨false, rfl, (fun u => by cases u), fun ⟨q', u1, u2, _⟩ => by omega⟩
    · rw [if_neg (fun u => c ((nI_leI (by omega) (by omega)).mp u))]
      obtain ⟨r1, r2⟩ := hR.2 p hp hu
      simp (disch := omega) only [nI_add, ck_nI, nI_clamp, r2, lt_v, nI_1]
      rw [hasBit_eq S (Nat.lt_trans (bs24 hN _) (by decide)) (by omega), bset_tb, show decide (q < N) = true from by simp; omega, Bool.true_and]
      simp only [bI_some]
      obtain ⟨b, i1, i2⟩ := ih (q + 1) (by omega) (by omega) (by omega)
      have next : ¬ (smT es bd t m p q = true ∧ twT es bd K d (goT bd t p m) (goT bd t q m) = true) → ∃ b : Bool, g_X2_meetsTwin_5 n (nI (m * 24)) (nI p) (nI (bset (fun z => twT es bd K d (goT bd t p m) z) N)) (nI (q + 1)) S = some (b2 b, S) ∧ (b = true ↔ ∃ q', q ≤ q' ∧ q' < N ∧ smT es bd t m p q' = true ∧ twT es bd K d (goT bd t p m) (goT bd t q' m) = true) := fun hno => by
        refine ⟨b, i1, fun hb => ?_, fun ⟨q', u1, u2, u3, u4⟩ => i2.mpr ⟨q', ?_, u2, u3, u4⟩⟩
        · obtain ⟨q', u1, u2⟩ := i2.mp hb
          exact ⟨q', by omega, u2⟩
        · have : q' ≠ q := fun v => by subst v; exact hno ⟨u3, u4⟩
          omega
      cases w : smT es bd t m p q
      · rw [if_pos b2_f]
        exact next (by rw [w]; exact fun u => by cases u.1)
      · rw [if_neg (by decide)]
        have hq : q < N := by omega
        obtain ⟨r3, r4⟩ := hR.2 q hq (unT_sm hp hq (by omega) w)
        have g1 := goT_lt hc t hq m
        simp (disch := omega) only [ck_nI, nI_clamp, r3]
        rw [hasBit_eq S (Nat.lt_trans (bs24 hN _) (by decide)) (by omega), bset_tb, show decide (goT bd t q m < N) = true from by simp [g1], Bool.true_and]
        simp only [bI_some]
        cases w2 : twT es bd K d (goT bd t p m) (goT bd t q m)
        · rw [if_pos b2_f]
          exact next (by rw [w2]; exact fun u => by cases u.2)
        · rw [if_neg (by decide)]
          exact ⟨true, rfl, fun _ => ⟨q, by omega, hq, w, w2⟩, fun _ => rfl⟩
theorem hop_loop {N K d : Nat} {es : Nat → Nat} {bd : Nat → Nat → Nat} {t : Nat → Nat} {m : Nat} {S : St} (hN : N ≤ 24) (hc : ∀ p k, p < N → bd p k < N) (h62 : rd S 6 2 = nI N) (hm : m ≤ 5) (hd : d ≤ 5) (hR : roT N es bd t m S) (hT : twR N K es bd d S) : ∀ n p, N - p < n → p ≤ N → ∃ b : Bool, g_X2_isHopeless_8 n (nI m) (nI d) (nI (m * 24)) (nI p) S = some (b2 b, S) ∧ (b = true ↔ ∃ p' q', p ≤ p' ∧ p' < q' ∧ q' < N ∧ smT es bd t m p' q' = true ∧ twT es bd K d (goT bd t p' m) (goT bd t q' m) = true) := by
  intro n
  induction n with
  | zero => intro p h; omega
  | succ n ih =>
    intro p h1 h2
    show ∃ b : Bool, f_X2_isHopeless_8 (g_X2_isHopeless_8 n) (nI m) (nI d) (nI (m * 24)) (nI p) S = _ ∧ _
    unfold f_X2_isHopeless_8
    rw [h62]
    by_cases c : N ≤ p
    · rw [if_pos ((nI_leI (by omega) (by omega)).mpr c)]
      exact ⟨false, rfl, (fun u => by cases u), fun ⟨p', q', u1, u2, u3, _⟩ => by omega⟩
    · rw [if_neg (fun u => c ((nI_leI (by omega) (by omega)).mp u)), ck_nI (by omega) (by omega), nI_clamp (by omega), hR.1, hasBit_eq S (Nat.lt_trans (bs24 hN _) (by decide)) (by omega), bset_tb, show decide (p < N) = true from by simp; omega, Bool.true_and]
      simp only [bI_some, lt_v, nI_1]
      have hp : p < N := by omega
      obtain ⟨b, i1, i2⟩ := ih (p + 1) (by omega) (by omega)
      have next : ¬ (∃ q', p + 1 ≤ q' ∧ q' < N ∧ smT es bd t m p q' = true ∧ twT es bd K d (goT bd t p m) (goT bd t q' m) = true) → ∃ b : Bool, g_X2_isHopeless_8 n (nI m) (nI d) (nI (m * 24)) (nI (p + 1)) S = some (b2 b, S) ∧ (b = true ↔ ∃ p' q', p ≤ p' ∧ p' < q' ∧ q' < N ∧ smT es bd t m p' q' = true ∧ twT es bd K d (goT bd t p' m) (goT bd t q' m) = true) := fun hno => by
        refine ⟨b, i1, fun hb => ?_, fun ⟨p', q', u1, u2, u3⟩ => i2.mpr ⟨p', q', ?_, u2, u3⟩⟩
        · obtain ⟨p', q', u1, u2⟩ := i2.mp hb
          exact ⟨p', q', by omega, u2⟩
        · have : p' ≠ p := fun v => by subst v; exact hno ⟨q', u2, u3⟩
          omega
      cases w : unT N es bd t m p
      · rw [if_pos b2_f]
        refine next ?_
        rintro ⟨q', u1, u2, u3, _⟩
        rw [(unT_iff hp).mpr ⟨q', u2, by omega, u3⟩] at w; cases w
      · rw [if_neg (by decide)]
        obtain ⟨r1, r2⟩ := hR.2 p hp w
        have g1 := goT_lt hc t hp m
        simp (disch := omega) only [l_24, pk_mul, nI_add, ck_nI, nI_clamp, r1, hT (goT bd t p m) g1]
        obtain ⟨b1, j1, j2⟩ := mtw_loop (K := K) (d := d) hN hc h62 hm hp hR w fuel (p + 1) (by unfold fuel; omega) (by omega) (by omega)
        have j1 : m_X2_meetsTwin (nI (m * 24)) (nI p) (nI (bset (fun z => twT es bd K d (goT bd t p m) z) N)) S = some (b2 b1, S) := by
          unfold m_X2_meetsTwin f_X2_meetsTwin_0
          rw [lt_v, nI_1]; exact j1
        rw [j1]
        simp only [bI_some]
        cases b1
        · rw [if_pos b2_f]
          exact next (fun u => by have := j2.mpr u; cases this)
        · rw [if_neg (by decide)]
          obtain ⟨q', u1, u2⟩ := j2.mp rfl
          exact ⟨true, rfl, fun _ => ⟨p, q', by omega, by omega, u2⟩, fun _ => rfl⟩
theorem hop_eq {N K d : Nat} {es : Nat → Nat} {bd : Nat → Nat → Nat} {t : Nat → Nat} {m : Nat} {S : St} (hN : N ≤ 24) (hc : ∀ p k, p < N → bd p k < N) (h62 : rd S 6 2 = nI N) (hm : m ≤ 5) (hd : d ≤ 5) (hR : roT N es bd t m S) (hT : twR N K es bd d S) : ∃ b : Bool, m_X2_isHopeless (nI m) (nI d) S = some (b2 b, S) ∧ (b = true ↔ ∃ p' q', p' < q' ∧ q' < N ∧ smT es bd t m p' q' = true ∧ twT es bd K d (goT bd t p' m) (goT bd t q' m) = true) := by
  obtain ⟨b, i1, i2⟩ := hop_loop hN hc h62 hm hd hR hT fuel 0 (by unfold fuel; omega) (by omega)
  refine ⟨b, ?_, i2.trans ⟨fun ⟨p', q', u1, u2⟩ => ⟨p', q', u2⟩, fun ⟨p', q', u2⟩ => ⟨p', q', by omega, u2⟩⟩⟩
  unfold m_X2_isHopeless f_X2_isHopeless_0
  rw [lt_v, l_24, pk_mul]; exact i1
