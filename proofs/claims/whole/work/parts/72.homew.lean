/-! ===== home, the class: the tales of a length, the search ===== -/
def tlO (N K : Nat) (es : Nat → Nat) (bd : Nat → Nat → Nat) (n : Nat) (rb : Bool) (S' : St) : Prop := (rb = true ∧ ∃ t, trS n t S' ∧ dgs K t n ∧ TelT N es bd t n ∧ ∀ u, dgs K u n → cod K u n < cod K t n → ¬ TelT N es bd u n) ∨ (rb = false ∧ ∀ u, dgs K u n → ¬ TelT N es bd u n)
theorem end24 {x1 x3 : Int32} {F : Nat} {S : St} : g_X2_tellsWith_24 (F + 1) x1 (-1) x3 S = some (0, S) := by
  show f_X2_tellsWith_24 (g_X2_tellsWith_24 F) x1 (-1) x3 S = _
  unfold f_X2_tellsWith_24
  by_cases c : 7776 ≤ x3
  · rw [if_pos c]
  · rw [if_neg c, if_pos rfl]
theorem out24 {N K : Nat} {es : Nat → Nat} {bd : Nat → Nat → Nat} {S0 : St} (hA : hoA N es bd S0) {n : Nat} (hK : 1 ≤ K ∧ K ≤ 6) (hn : n ≤ 5) : ∀ F x m (t : Nat → Nat) (S : St), 7777 - x < F → x ≤ cod K t n → m < n → tlI N K es bd S0 n t m S → (∀ j, m < j → j < n → t j = 0) → (∀ u, dgs K u n → cod K u n < cod K t n → ¬ TelT N es bd u n) → ∃ (rb : Bool) (S' : St), g_X2_tellsWith_24 F (nI n) (nI m) (nI x) S = some (b2 rb, S') ∧ tlF S S' ∧ tlO N K es bd n rb S' := by
  intro F
  have hN := hA.1
  induction F with
  | zero => intro x m t S h; omega
  | succ F ih =>
    intro x m t S hF hx hm hI hz hinv
    have ht := hI.2.2.2.2.2
    have hlt : cod K t n < 7776 := by
      have h1 := cod_lt n ht
      have h2 : K ^ n ≤ 6 ^ n := Nat.pow_le_pow_left hK.2 n
      have h3 : 6 ^ n ≤ 6 ^ 5 := Nat.pow_le_pow_right (by decide) hn
      have h4 : (6 : Nat) ^ 5 = 7776 := by decide
      omega
    obtain ⟨hb, m', S1, c1, c2, c3, c4, c5, c6⟩ := in39 hA hK.2 hn (k24 := g_X2_tellsWith_24 F) (x3 := nI x) fuel m S (by unfold fuel; omega) hm hI
    have eg : g_X2_tellsWith_24 (F + 1) (nI n) (nI m) (nI x) S = f_X2_tellsWith_78 (g_X2_tellsWith_24 F) (nI n) (nI m') (nI x) (b2 hb) S1 := by
      rw [← c3]
      show f_X2_tellsWith_24 (g_X2_tellsWith_24 F) (nI n) (nI m) (nI x) S = _
      unfold f_X2_tellsWith_24
      rw [if_neg (show ¬ 7776 ≤ nI x from fun u => by have := (nI_leI (a := 7776) (b := x) (by omega) (by omega)).mp u; omega), if_neg (fun u => (nI_ne_m1 (by omega)).mp u)]
    rw [eg]
    unfold f_X2_tellsWith_78
    rcases c6 with ⟨rfl, d1, d2⟩ | ⟨rfl, d1⟩
    · rw [if_neg (by decide)]
      exact ⟨true, S1, rfl, c5, Or.inl ⟨rfl, t, c4.2.2.2.2.1, ht, tel_of d2, hinv⟩⟩
    · rw [if_pos b2_f]
      obtain ⟨k, rfl⟩ : ∃ k, m' = k + 1 := ⟨m' - 1, by omega⟩
      have hop := hop_no hA.2.2.1 c2 ht hinv d1
      have enx : m_X2_nextTale (nI (k + 1)) S1 = g_X2_nextTale_4 fuel (px (k + 1)) S1 := by
        unfold m_X2_nextTale f_X2_nextTale_0
        rw [lt_v, nI_pred]; rfl
      rw [enx]
      obtain ⟨dd, hdd⟩ : ∃ dd, n = k + 1 + dd := ⟨n - (k + 1), by omega⟩
      rcases nxt_loop hK hn (k + 1) fuel S1 t (by unfold fuel; omega) c2 c4.2.1.1 c4.2.2.2.2.1 ht (fun j u1 u2 => hz j (by omega) u2) with ⟨S2, a1, a2, a3⟩ | ⟨j, c', S2, a0, a1, a2, a3, a4, a5, a6, a7⟩
      · rw [a1]
        simp only [bI_some, lt_v]
        obtain ⟨F', rfl⟩ : ∃ g, F = g + 1 := ⟨F - 1, by omega⟩
        rw [end24]
        refine ⟨false, S2, rfl, fun c i u1 u2 u3 u4 u5 => by rw [a3 c i u5, c5 c i u1 u2 u3 u4 u5], Or.inr ⟨rfl, fun u hu => hop u hu ?_⟩⟩
        have := cod_lt (k + 1) (fun i hi => hu i (show i < n by omega))
        omega
      · rw [a1]
        simp only [bI_some, lt_v, nI_1]
        have hcz : cod K c' n = (cod K t (k + 1) + 1) * K ^ dd := by
          rw [hdd, cod_z dd (fun i u1 u2 => a5 i (by omega) (by omega)), a6]
        have hct : cod K t n < cod K c' n := by
          rw [hcz]
          have := (cod_up (B := K) (t := t) (m := k + 1) dd (by rw [← hdd]; exact ht)).2
          rw [← hdd] at this; exact this
        obtain ⟨rb, S3, e1, e2, e3⟩ := ih (x + 1) j c' S2 (by omega) (by omega) (by omega) ⟨gF_fr c4.1 (fun c i u => a7 c i (by omega)), hoK_fr c4.2.1 (fun c i u => a7 c i (by omega)), fun d hd p hp => by rw [a7 36 _ (by omega)]; exact c4.2.2.1 d hd p hp, fun i hi => roT_cg hA.2.2.1 (t := t) ⟨by rw [a7 39 i (by omega)]; exact (c4.2.2.2.1 i (by omega)).1, fun p hp w => by rw [a7 37 _ (by omega), a7 38 _ (by omega)]; exact (c4.2.2.2.1 i (by omega)).2 p hp w⟩ (fun q hq => (a4 q (by omega)).symm), a2, a3⟩ a5 (fun u hu hl => hop u hu (by
          have h1 := (cod_up (B := K) (t := u) (m := k + 1) dd (by rw [← hdd]; exact hu)).1
          rw [← hdd] at h1
          rw [hcz] at hl
          have := Nat.lt_of_mul_lt_mul_right (Nat.lt_of_le_of_lt h1 hl)
          omega))
        exact ⟨rb, S3, e1, fun c i u1 u2 u3 u4 u5 => by rw [e2 c i u1 u2 u3 u4 u5, a7 c i u5, c5 c i u1 u2 u3 u4 u5], e3⟩
theorem tw2 {n : Nat} (hn : n ≤ 5) : ∀ f i (S : St), n - i < f → i ≤ n → ∃ S', g_X2_tellsWith_2 f (nI n) (nI i) S = g_X2_tellsWith_24 fuel (nI n) 0 0 S' ∧ (∀ k, i ≤ k → k < n → rd S' 35 k = 0) ∧ ∀ c k, (c ≠ 35 ∨ k < i) → rd S' c k = rd S c k := by
  intro f
  induction f with
  | zero => intro i S h; omega
  | succ f ih =>
    intro i S h1 h2
    rw [show g_X2_tellsWith_2 (f + 1) = f_X2_tellsWith_2 (g_X2_tellsWith_2 f) from rfl]
    unfold f_X2_tellsWith_2
    by_cases c : n ≤ i
    · rw [if_pos ((nI_leI (by omega) (by omega)).mpr c)]
      exact ⟨S, rfl, fun k _ _ => by omega, fun _ _ _ => rfl⟩
    · rw [if_neg (fun u => c ((nI_leI (by omega) (by omega)).mp u)), ck_nI (by omega) (by omega), nI_clamp (by omega), lt_v, lt_v, nI_1]
      obtain ⟨S', a1, a2, a3⟩ := ih (i + 1) (up S 35 i 0) (by omega) (by omega)
      refine ⟨S', a1, fun k u1 u2 => ?_, fun c k u => by rw [a3 c k (by omega), rd_ne (by omega)]⟩
      by_cases v : k = i
      · subst v; rw [a3 35 k (by omega), rd_same]
      · exact a2 k (by omega) u2
theorem tells_0 {S : St} : m_X2_tellsWith (nI 0) S = some (1, S) := by
  unfold m_X2_tellsWith f_X2_tellsWith_0
  rw [show fuel = 99999 + 1 from rfl, show g_X2_tellsWith_2 (99999 + 1) = f_X2_tellsWith_2 (g_X2_tellsWith_2 99999) from rfl]
  unfold f_X2_tellsWith_2
  rw [if_pos (show nI 0 ≤ 0 by decide), show fuel = 99999 + 1 from rfl, show g_X2_tellsWith_24 (99999 + 1) = f_X2_tellsWith_24 (g_X2_tellsWith_24 99999) from rfl]
  unfold f_X2_tellsWith_24
  rw [if_neg (show ¬ (7776 : Int32) ≤ 0 by decide), if_neg (show ¬ (0 : Int32) = -1 by decide), show fuel = 99999 + 1 from rfl]
  generalize g_X2_tellsWith_24 99999 = k24
  rw [show g_X2_tellsWith_39 k24 (99999 + 1) = f_X2_tellsWith_39 k24 (g_X2_tellsWith_39 k24 99999) from rfl]
  unfold f_X2_tellsWith_39
  rw [if_pos (show nI 0 ≤ 0 by decide)]
  unfold f_X2_tellsWith_78
  rw [if_neg (by decide)]
theorem tells_n {N K : Nat} {es : Nat → Nat} {bd : Nat → Nat → Nat} {S0 S : St} (hA : hoA N es bd S0) {n : Nat} (hK : 1 ≤ K ∧ K ≤ 6) (hn : 1 ≤ n ∧ n ≤ 5) (hF : gF S0 S) (hk : hoK N K bd S) (hT : ∀ d, d ≤ 5 → twR N K es bd d S) (hR : roT N es bd (fun _ => 0) 0 S) : ∃ (rb : Bool) (S' : St), m_X2_tellsWith (nI n) S = some (b2 rb, S') ∧ tlF S S' ∧ tlO N K es bd n rb S' := by
  unfold m_X2_tellsWith f_X2_tellsWith_0
  obtain ⟨S1, a1, a2, a3⟩ := tw2 hn.2 fuel 0 S (by unfold fuel; omega) (by omega)
  have a1 : g_X2_tellsWith_2 fuel (nI n) 0 S = g_X2_tellsWith_24 fuel (nI n) 0 0 S1 := a1
  rw [a1]
  have dz : dgs K (fun _ => 0) n := fun _ _ => by show 0 < K; omega
  have cz : ∀ n, cod K (fun _ => 0) n = 0 := fun n => by
    induction n with
    | zero => rfl
    | succ n ih => show K * cod K (fun _ => 0) n + 0 = 0; rw [ih]; rfl
  obtain ⟨rb, S2, b1, b2', b3⟩ := out24 hA hK hn.2 fuel 0 0 (fun _ => 0) S1 (by unfold fuel; omega) (by omega) (by omega) ⟨gF_fr hF (fun c i u => a3 c i (by omega)), hoK_fr hk (fun c i u => a3 c i (by omega)), fun d hd p hp => by rw [a3 36 _ (by omega)]; exact hT d hd p hp, fun j hj => by
      have : j = 0 := by omega
      subst this
      exact ⟨by rw [a3 39 0 (by omega)]; exact hR.1, fun p hp w => by rw [a3 37 _ (by omega), a3 38 _ (by omega)]; exact hR.2 p hp w⟩, fun k hk => by rw [a2 k (by omega) hk]; rfl, dz⟩ (fun _ _ _ => rfl) (fun u _ hl => by rw [cz] at hl; omega)
  have b1 : g_X2_tellsWith_24 fuel (nI n) 0 0 S1 = _ := b1
  exact ⟨rb, S2, b1, fun c i u1 u2 u3 u4 u5 => by rw [b2' c i u1 u2 u3 u4 u5, a3 c i (Or.inl u5)], b3⟩
/-- what the search of the class ends with -/
def Fst6 (N : Nat) (es : Nat → Nat) (bd : Nat → Nat → Nat) (n : Nat) (t : Nat → Nat) : Prop := dgs 6 t n ∧ TelT N es bd t n ∧ ∀ u, dgs 6 u n → cod 6 u n < cod 6 t n → ¬ TelT N es bd u n
def Non6 (N : Nat) (es : Nat → Nat) (bd : Nat → Nat → Nat) (n : Nat) : Prop := ∀ u, dgs 6 u n → ¬ TelT N es bd u n
theorem rd_upA {S : St} {k c i : Nat} {f : Nat → Int32} : rd (upA S k f) c i = if c = k then f i else rd S c i := by
  unfold upA rd
  by_cases h : c = k
  · simp [h]
  · simp [h]
theorem cpy5 {S : St} {n i : Nat} (hi : i < n) (hn : n ≤ 5) : va_cpy (S.1 35) (S.1 33) (0 : Int32).toNatClampNeg (0 : Int32).toNatClampNeg (nI n).toNatClampNeg i = rd S 35 i := by
  rw [tc_0, nI_clamp (by omega)]
  unfold va_cpy rd
  rw [if_pos (by omega)]
  simp
def skO (N : Nat) (es : Nat → Nat) (bd : Nat → Nat → Nat) (r : Int32) (S S' : St) : Prop := (∀ c i, c < 32 → rd S' c i = rd S c i) ∧ ((r = -1 ∧ (∀ k, k ≤ 5 → Non6 N es bd k) ∧ rd S' 32 1 = rd S 32 1 ∧ ∀ i, rd S' 33 i = rd S 33 i) ∨ (∃ k t, k ≤ 5 ∧ r = nI k ∧ (∀ j, j < k → Non6 N es bd j) ∧ Fst6 N es bd k t ∧ rd S' 32 1 = nI k ∧ ∀ i, i < k → rd S' 33 i = nI (t i)))
theorem sk_got {S : St} {n : Nat} (hn : n ≤ 5) : (ckc 0 0 (nI n) 5 5 <| lt (upA S 33 (va_cpy (S.1 35) (S.1 33) (0 : Int32).toNatClampNeg (0 : Int32).toNatClampNeg (nI n).toNatClampNeg)) fun S7 => lt (up S7 32 1 (nI n)) fun S8 => some (nI n, S8)) = some (nI n, up (upA S 33 (va_cpy (S.1 35) (S.1 33) (0 : Int32).toNatClampNeg (0 : Int32).toNatClampNeg (nI n).toNatClampNeg)) 32 1 (nI n)) := by
  unfold ckc
  rw [if_neg, lt_v, lt_v]
  have h1 : ¬ (0 : Int32) < 0 := by decide
  have h2 : ¬ nI n < 0 := nI_pos (by omega)
  rw [tc_0, nI_clamp (by omega)]
  rintro (h | h | h | h | h)
  · exact h1 h
  · exact h1 h
  · exact h2 h
  · omega
  · omega
theorem sk22 {N K : Nat} {es : Nat → Nat} {bd : Nat → Nat → Nat} {S0 : St} (hA : hoA N es bd S0) (hK : 1 ≤ K ∧ K ≤ 6) (hP : ∀ p k, p < N → k < 6 → bd p k = bd p (k % K)) : ∀ f n (S : St), 6 - n < f → n ≤ 6 → gF S0 S → hoK N K bd S → (∀ d, d ≤ 5 → twR N K es bd d S) → roT N es bd (fun _ => 0) 0 S → (n = 0 → TelT N es bd (fun _ => 0) 0) → (∀ j, j < n → Non6 N es bd j) → ∃ r S', g_X2_seek_22 f (nI n) S = some (r, S') ∧ skO N es bd r S S' := by
  intro f
  induction f with
  | zero => intro n S h; omega
  | succ f ih =>
    intro n S h1 h2 hF hk hT hR h0 hlow
    rw [show g_X2_seek_22 (f + 1) = f_X2_seek_22 (g_X2_seek_22 f) from rfl]
    unfold f_X2_seek_22
    by_cases c : 5 < n
    · rw [if_pos (show 5 < nI n from (nI_ltI (a := 5) (b := n) (by omega) (by omega)).mpr c)]
      exact ⟨-1, S, rfl, fun _ _ _ => rfl, Or.inl ⟨rfl, fun k hk => hlow k (by omega), rfl, fun _ => rfl⟩⟩
    · rw [if_neg (show ¬ 5 < nI n from fun u => c ((nI_ltI (a := 5) (b := n) (by omega) (by omega)).mp u))]
      have got : ∀ (S1 : St) (t : Nat → Nat), tlF S S1 → trS n t S1 → Fst6 N es bd n t → ∃ S', (ckc 0 0 (nI n) 5 5 <| lt (upA S1 33 (va_cpy (S1.1 35) (S1.1 33) (0 : Int32).toNatClampNeg (0 : Int32).toNatClampNeg (nI n).toNatClampNeg)) fun S7 => lt (up S7 32 1 (nI n)) fun S8 => some (nI n, S8)) = some (nI n, S') ∧ skO N es bd (nI n) S S' := fun S1 t f1 f2 f3 => by
        refine ⟨_, sk_got (by omega), fun c i u => ?_, Or.inr ⟨n, t, by omega, rfl, hlow, f3, rd_same _ _ _ _, fun i hi => ?_⟩⟩
        · rw [rd_ne (by omega), rd_upA, if_neg (by omega), f1 c i (by omega) (by omega) (by omega) (by omega) (by omega)]
        · rw [rd_ne (by omega), rd_upA, if_pos rfl, cpy5 hi (by omega)]; exact f2 i hi
      by_cases z : n = 0
      · subst z
        rw [tells_0]
        simp only [bI_some]
        rw [if_neg (by decide)]
        obtain ⟨S', g1, g2⟩ := got S (fun _ => 0) (fun _ _ _ _ _ _ _ => rfl) (fun k hk => by omega) ⟨fun i hi => by omega, h0 rfl, fun u _ hl => by have : cod 6 u 0 = 0 := rfl
                                                                                                                                                    have : cod 6 (fun _ => 0) 0 = 0 := rfl
                                                                                                                                                    omega⟩
        exact ⟨_, S', g1, g2⟩
      · obtain ⟨rb, S1, a1, a2, a3⟩ := tells_n hA hK (show 1 ≤ n ∧ n ≤ 5 by omega) hF hk hT hR
        rw [a1]
        simp only [bI_some]
        rcases a3 with ⟨rfl, t, t1, t2, t3, t4⟩ | ⟨rfl, t1⟩
        · rw [if_neg (by decide)]
          obtain ⟨S', g1, g2⟩ := got S1 t a2 t1 ⟨fun i hi => Nat.lt_of_lt_of_le (t2 i hi) hK.2, t3, fst6 hA.2.2.1 hK hP t2 t4⟩
          exact ⟨_, S', g1, g2⟩
        · rw [if_pos b2_f, lt_v, nI_1]
          obtain ⟨r, S', e1, e2, e3⟩ := ih (n + 1) S1 (by omega) (by omega) (gF_fr hF (fun c i u => a2 c i (by omega) (by omega) (by omega) (by omega) (by omega))) (hoK_fr hk (fun c i u => a2 c i (by omega) (by omega) (by omega) (by omega) (by omega))) (fun d hd p hp => by rw [a2 36 _ (by omega) (by omega) (by omega) (by omega) (by omega)]; exact hT d hd p hp) ⟨by rw [a2 39 0 (by omega) (by omega) (by omega) (by omega) (by omega)]; exact hR.1, fun p hp w => by have := hA.1; rw [a2 37 _ (by omega) (by omega) (by omega) (by omega) (by omega), a2 38 _ (by omega) (by omega) (by omega) (by omega) (by omega)]; exact hR.2 p hp w⟩ (fun u => by omega) (fun j hj => by
            by_cases v : j = n
            · subst v; exact non6 hA.2.2.1 hK hP t1
            · exact hlow j (by omega))
          have f1 : ∀ c i, c ≤ 33 → rd S1 c i = rd S c i := fun c i u => a2 c i (by omega) (by omega) (by omega) (by omega) (by omega)
          refine ⟨r, S', e1, fun c i u => by rw [e2 c i u, f1 c i (by omega)], ?_⟩
          rcases e3 with ⟨q1, q2, q3, q4⟩ | q
          · exact Or.inl ⟨q1, q2, by rw [q3, f1 32 1 (by omega)], fun i => by rw [q4 i, f1 33 i (by omega)]⟩
          · exact Or.inr q
theorem seek_eq {J P : Nat} {en ga : Nat → Nat} {ou mk sh b : Nat} {S : St} (hn : gaN J P en ga ou mk sh b) (hx : gaX S J P en ga ou mk sh b) : ∃ r S', m_X2_seek S = some (r, S') ∧ skO (2 * P) (esp en (2 * P)) (bdp en (2 * P)) r S S' := by
  have hA := hoA_of hn hx
  unfold m_X2_seek f_X2_seek_0
  obtain ⟨K, S1, a1, a2, a3, a4, a5, a6⟩ := choose_eq hn hx
  have hF1 : gF S S1 := fun c i u1 u2 => a6 c i (by omega) (by omega)
  obtain ⟨r, S2, b1, b2', b3, b4⟩ := least_eq hA a3 hF1 a5
  have f2 : ∀ c i, (c ≠ 32 ∨ i ≠ 3) → c ≠ 34 → c ≠ 36 → rd S2 c i = rd S c i := fun c i u1 u2 u3 => by rw [b3 c i u3, a6 c i u1 u2]
  have hno : ∀ d, HasT (2 * P) K (esp en (2 * P)) (bdp en (2 * P)) d → Non6 (2 * P) (esp en (2 * P)) (bdp en (2 * P)) d := fun d ⟨p, q, u1, u2, u3, u4⟩ => non6 hA.2.2.1 ⟨a2, a3⟩ a4 (twT_no hA.2.2.1 u1 u2 u3 u4)
  rw [a1]
  simp only [bV_some]
  rw [b1]
  simp only [bI_some]
  rcases b4 with ⟨rfl, c1⟩ | ⟨L, c1, rfl, c2, c3⟩
  · rw [if_pos rfl]
    exact ⟨-1, S2, rfl, fun c i u => f2 c i (by omega) (by omega) (by omega), Or.inl ⟨rfl, fun k hk => hno k (c1 k hk), f2 32 1 (by omega) (by omega) (by omega), fun i => f2 33 i (by omega) (by omega) (by omega)⟩⟩
  · rw [if_neg (fun u => (nI_ne_m1 (by omega)).mp u)]
    have hF2 : gF S S2 := fun c i u1 u2 => f2 c i (by omega) (by omega) (by omega)
    obtain ⟨S3, d1, d2, d3⟩ := begin_eq hA (fun _ => 0) hF2 (b2' 0 (by omega))
    rw [d1]
    simp only [bV_some]
    obtain ⟨r, S4, e1, e2, e3⟩ := sk22 hA ⟨a2, a3⟩ a4 fuel L S3 (by unfold fuel; omega) (by omega) (gF_fr hF2 (fun c i u => d3 c i (by omega) (by omega) (by omega))) (hoK_fr (hoK_fr a5 (fun c i u => b3 c i (by omega))) (fun c i u => d3 c i (by omega) (by omega) (by omega))) (fun d hd p hp => by rw [d3 36 _ (by omega) (by omega) (by omega)]; exact b2' d hd p hp) d2 (fun z p q hp hq => by
      subst z
      cases w : smT (esp en (2 * P)) (bdp en (2 * P)) (fun _ => 0) 0 p q
      · rfl
      · have := bs_one (c3 p hp) (show q < 2 * P by omega) w
        omega) (fun j hj => hno j (c2 j hj))
    have f3 : ∀ c i, (c ≠ 32 ∨ i ≠ 3) → c < 34 → rd S3 c i = rd S c i := fun c i u1 u2 => by rw [d3 c i (by omega) (by omega) (by omega), f2 c i u1 (by omega) (by omega)]
    refine ⟨r, S4, e1, fun c i u => by rw [e2 c i u, f3 c i (by omega) (by omega)], ?_⟩
    rcases e3 with ⟨q1, q2, q3, q4⟩ | q
    · exact Or.inl ⟨q1, q2, by rw [q3, f3 32 1 (by omega) (by omega)], fun i => by rw [q4 i, f3 33 i (by omega) (by omega)]⟩
    · exact Or.inr q
