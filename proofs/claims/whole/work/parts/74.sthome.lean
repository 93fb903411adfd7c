/-! ===== home, both ===== -/
theorem hm79 {n : Nat} (hn : n ≤ 5) : ∀ f i (T : St), n - i < f → i ≤ n → ∃ T', g_X10_home_79 f (nI n) (nI i) T = some (nI n, T') ∧ (∀ k, i ≤ k → k < n → rd T' 23 k = rd T 24 k) ∧ rdL T' = rdL T ∧ ∀ c k, (c ≠ 23 ∨ k < i) → rd T' c k = rd T c k := by
  intro f
  induction f with
  | zero => intro i T h; omega
  | succ f ih =>
    intro i T h1 h2
    rw [show g_X10_home_79 (f + 1) = f_X10_home_79 (g_X10_home_79 f) from rfl]
    unfold f_X10_home_79
    by_cases c : n ≤ i
    · rw [if_pos ((nI_leI (by omega) (by omega)).mpr c)]
      exact ⟨T, rfl, fun k _ _ => by omega, rfl, fun _ _ _ => rfl⟩
    · rw [if_neg (fun u => c ((nI_leI (by omega) (by omega)).mp u)), ck_nI (by omega) (by omega), nI_clamp (by omega), lt_v, lt_v, nI_1]
      obtain ⟨T', a1, a2, a3, a4⟩ := ih (i + 1) (up T 23 i (rd T 24 i)) (by omega) (by omega)
      refine ⟨T', a1, fun k u1 u2 => ?_, a3, fun c k u => by rw [a4 c k (by omega), rd_ne (by omega)]⟩
      by_cases v : k = i
      · subst v; rw [a4 23 k (by omega), rd_same]
      · rw [a2 k (by omega) u2, rd_ne (by omega)]
/-- what stands behind the digits of a code -/
def tail30 (k17 : Int32 → Int32 → Int32 → St → Option (Int32 × St)) (x1 x2 x3 : Int32) (S : St) : Option (Int32 × St) :=
  bI (m_X10_tells x2 S) fun r3 S2 => if r3 = 0 then lt (x3 + 1 : Int32) fun y6 => k17 x1 x2 y6 S2 else lt (up S2 0 50 x2) fun S5 => g_X10_home_79 fuel x2 0 S5
theorem hm30 {k17 : Int32 → Int32 → Int32 → St → Option (Int32 × St)} {x1 x2 x3 : Int32} : ∀ i f v (T : St), i < f → i ≤ 5 → v < 6 ^ i → v < 10000 → ∃ t T', dgs 6 t i ∧ cod 6 t i = v ∧ g_X10_home_30 k17 f x1 x2 x3 (nI v) (px i) T = tail30 k17 x1 x2 x3 T' ∧ (∀ k, k < i → rd T' 24 k = nI (t k)) ∧ rdL T' = rdL T ∧ ∀ c k, (c ≠ 24 ∨ i ≤ k) → rd T' c k = rd T c k := by
  intro i
  induction i with
  | zero =>
    intro f v T hf _ hv _
    obtain ⟨g, rfl⟩ : ∃ g, f = g + 1 := ⟨f - 1, by omega⟩
    refine ⟨fun _ => 0, T, fun k hk => by omega, ?_, ?_, fun k hk => by omega, rfl, fun _ _ _ => rfl⟩
    · have : (6 : Nat) ^ 0 = 1 := rfl
      show 0 = v; omega
    · rw [show g_X10_home_30 k17 (g + 1) = f_X10_home_30 k17 (g_X10_home_30 k17 g) from rfl]
      unfold f_X10_home_30 tail30
      rw [if_pos (show px 0 < 0 from m1_lt)]
  | succ i ih =>
    intro f v T hf hi hv hv2
    obtain ⟨g, rfl⟩ : ∃ g, f = g + 1 := ⟨f - 1, by omega⟩
    rw [show g_X10_home_30 k17 (g + 1) = f_X10_home_30 k17 (g_X10_home_30 k17 g) from rfl]
    unfold f_X10_home_30
    rw [show px (i + 1) = nI i from rfl, if_neg (nI_pos (by omega)), ck_nI (by omega) (by omega), nI_clamp (by omega), lt_v, lt_v, lt_v, show (6 : Int32) = nI 6 from rfl, irem_nI (by omega) (by omega) (by omega), pk_div (by omega) (by omega) (by omega)]
    have ep : nI i + -1 = px i := by
      cases i with
      | zero => rfl
      | succ i => exact pk_m1 i
    rw [ep]
    rw [Nat.pow_succ] at hv
    obtain ⟨t, T', a1, a2, a3, a4, a5, a6⟩ := ih g (v / 6) (up T 24 i (nI (v % 6))) (by omega) (by omega) (by omega) (by omega)
    refine ⟨fun k => if k = i then v % 6 else t k, T', fun k hk => ?_, ?_, a3, fun k hk => ?_, a5, fun c k u => by rw [a6 c k (by omega), rd_ne (by omega)]⟩
    · show (if k = i then v % 6 else t k) < 6
      by_cases w : k = i
      · rw [if_pos w]; omega
      · rw [if_neg w]; exact a1 k (by omega)
    · show 6 * cod 6 (fun k => if k = i then v % 6 else t k) i + (if i = i then v % 6 else t i) = v
      rw [cod_eq (u := t) i (fun k hk => if_neg (by omega)), a2, if_pos rfl]; omega
    · show _ = nI (if k = i then v % 6 else t k)
      by_cases w : k = i
      · subst w; rw [a6 24 k (by omega), rd_same, if_pos rfl]
      · rw [if_neg w]; exact a4 k (by omega)
theorem hm17 {N : Nat} {es : Nat → Nat} {bd : Nat → Nat → Nat} {T0 : St} (hA : hoM N es bd T0) {n : Nat} (hn : n ≤ 5) (h6 : 6 ^ n ≤ 7776) {k9 : Int32 → Int32 → St → Option (Int32 × St)} : ∀ f c (T : St), 6 ^ n - c < f → c ≤ 6 ^ n → mF T0 T → (∀ u, dgs 6 u n → cod 6 u n < c → ¬ TelT N es bd u n) →
    (∃ T', Non6 N es bd n ∧ g_X10_home_17 k9 f (nI (6 ^ n)) (nI n) (nI c) T = k9 (nI (6 ^ (n + 1))) (nI (n + 1)) T' ∧ rdL T' = rdL T ∧ ∀ c i, c ≠ 24 → c ≠ 25 → c ≠ 26 → rd T' c i = rd T c i) ∨
    (∃ t T', Fst6 N es bd n t ∧ g_X10_home_17 k9 f (nI (6 ^ n)) (nI n) (nI c) T = some (nI n, T') ∧ rd T' 0 50 = nI n ∧ (∀ i, i < n → rd T' 23 i = nI (t i)) ∧ rdL T' = rdL T ∧ ∀ c i, (c ≠ 0 ∨ i ≠ 50) → c ≠ 23 → c ≠ 24 → c ≠ 25 → c ≠ 26 → rd T' c i = rd T c i) := by
  intro f
  induction f with
  | zero => intro c T h; omega
  | succ f ih =>
    intro c T h1 h2 hF hlow
    rw [show g_X10_home_17 k9 (f + 1) = f_X10_home_17 k9 (g_X10_home_17 k9 f) from rfl]
    unfold f_X10_home_17
    by_cases q : 6 ^ n ≤ c
    · rw [if_pos ((nI_leI (by omega) (by omega)).mpr q), lt_v, lt_v, nI_1, show (6 : Int32) = nI 6 from rfl, pk_mul, ← Nat.pow_succ]
      exact Or.inl ⟨T, fun u hu => hlow u hu (Nat.lt_of_lt_of_le (cod_lt n hu) q), rfl, rfl, fun _ _ _ _ _ => rfl⟩
    · rw [if_neg (fun u => q ((nI_leI (by omega) (by omega)).mp u)), lt_v]
      have ep : nI n - 1 = px n := by
        cases n with
        | zero => rfl
        | succ n => exact nI_pred n
      rw [ep]
      obtain ⟨t, T1, a1, a2, a3, a4, a5, a6⟩ := hm30 (k17 := g_X10_home_17 k9 f) (x1 := nI (6 ^ n)) (x2 := nI n) (x3 := nI c) n fuel c T (by unfold fuel; omega) hn (by omega) (by omega)
      rw [a3]
      unfold tail30
      have hF1 : mF T0 T1 := mF_fr hF (fun c i u _ => a6 c i (by omega))
      obtain ⟨b, T2, b1, b2', b3, b4⟩ := tellsM hA hF1 hn a1 a4
      rw [b1]
      simp only [bI_some]
      cases b
      · rw [if_pos b2_f, lt_v, nI_1]
        have hno : ¬ TelT N es bd t n := fun u => by have := b2'.mpr u; cases this
        rcases ih (c + 1) T2 (by omega) (by omega) (mF_fr hF1 (fun c i u _ => b4 c i (by omega) (by omega))) (fun u hu hl => by
            by_cases w : cod 6 u n = c
            · intro hT
              have e := cod_inj n hu a1 (by rw [w, a2])
              exact hno (TelT_eq hA.2.2.1 (fun i hi p _ => by rw [e i hi]) hT)
            · exact hlow u hu (by omega)) with ⟨T', c1, c2, c3, c4⟩ | ⟨t', T', c0, c1, c2, c3, c4, c5⟩
        · exact Or.inl ⟨T', c1, c2, by rw [c3, b3, a5], fun c i u1 u2 u3 => by rw [c4 c i u1 u2 u3, b4 c i u2 u3, a6 c i (Or.inl u1)]⟩
        · exact Or.inr ⟨t', T', c0, c1, c2, c3, by rw [c4, b3, a5], fun c i u0 u1 u2 u3 u4 => by rw [c5 c i u0 u1 u2 u3 u4, b4 c i u3 u4, a6 c i (Or.inl u2)]⟩
      · rw [if_neg (by decide), lt_v]
        obtain ⟨T', c1, c2, c3, c4⟩ := hm79 hn fuel 0 (up T2 0 50 (nI n)) (by unfold fuel; omega) (by omega)
        have c1 : g_X10_home_79 fuel (nI n) 0 (up T2 0 50 (nI n)) = _ := c1
        rw [c1]
        refine Or.inr ⟨t, T', ⟨a1, b2'.mp rfl, fun u hu hl => hlow u hu (by omega)⟩, rfl, ?_, fun i hi => ?_, by rw [c3, rdL_up, b3, a5], fun c i u0 u1 u2 u3 u4 => ?_⟩
        · rw [c4 0 50 (by omega), rd_same]
        · rw [c2 i (by omega) hi, rd_ne (by omega), b4 24 i (by omega) (by omega)]; exact a4 i hi
        · rw [c4 c i (Or.inl u1), rd_ne u0, b4 c i u3 u4, a6 c i (Or.inl u2)]
def hmO (N : Nat) (es : Nat → Nat) (bd : Nat → Nat → Nat) (r : Int32) (T T' : St) : Prop := rdL T' = rdL T ∧ ((r = -1 ∧ (∀ k, k ≤ 5 → Non6 N es bd k) ∧ ∀ c i, c ≠ 24 → c ≠ 25 → c ≠ 26 → rd T' c i = rd T c i) ∨
  (∃ k t, k ≤ 5 ∧ r = nI k ∧ (∀ j, j < k → Non6 N es bd j) ∧ Fst6 N es bd k t ∧ rd T' 0 50 = nI k ∧ (∀ i, i < k → rd T' 23 i = nI (t i)) ∧ ∀ c i, (c ≠ 0 ∨ i ≠ 50) → c ≠ 23 → c ≠ 24 → c ≠ 25 → c ≠ 26 → rd T' c i = rd T c i))
theorem hm9 {N : Nat} {es : Nat → Nat} {bd : Nat → Nat → Nat} {T0 : St} (hA : hoM N es bd T0) : ∀ f n (T : St), 6 - n < f → n ≤ 6 → mF T0 T → (∀ j, j < n → Non6 N es bd j) → ∃ r T', g_X10_home_9 f (nI (6 ^ n)) (nI n) T = some (r, T') ∧ hmO N es bd r T T' := by
  intro f
  induction f with
  | zero => intro n T h; omega
  | succ f ih =>
    intro n T h1 h2 hF hlow
    rw [show g_X10_home_9 (f + 1) = f_X10_home_9 (g_X10_home_9 f) from rfl]
    unfold f_X10_home_9
    by_cases c : 6 ≤ n
    · rw [if_pos (show 6 ≤ nI n from (nI_leI (a := 6) (b := n) (by omega) (by omega)).mpr c)]
      exact ⟨-1, T, rfl, rfl, Or.inl ⟨rfl, fun k hk => hlow k (by omega), fun _ _ _ _ _ => rfl⟩⟩
    · rw [if_neg (show ¬ 6 ≤ nI n from fun u => c ((nI_leI (a := 6) (b := n) (by omega) (by omega)).mp u))]
      have h6 : 6 ^ n ≤ 7776 := Nat.le_trans (Nat.pow_le_pow_right (by decide) (show n ≤ 5 by omega)) (by decide)
      rcases hm17 hA (show n ≤ 5 by omega) h6 (k9 := g_X10_home_9 f) fuel 0 T (by unfold fuel; omega) (Nat.zero_le _) hF (fun u _ hl => by omega) with ⟨T1, a1, a2, a3, a4⟩ | ⟨t, T1, a0, a1, a2, a3, a4, a5⟩
      · have a2 : g_X10_home_17 (g_X10_home_9 f) fuel (nI (6 ^ n)) (nI n) 0 T = _ := a2
        rw [a2]
        obtain ⟨r, T', b1, b2', b3⟩ := ih (n + 1) T1 (by omega) (by omega) (mF_fr hF (fun c i u _ => a4 c i (by omega) (by omega) (by omega))) (fun j hj => by
          by_cases v : j = n
          · subst v; exact a1
          · exact hlow j (by omega))
        refine ⟨r, T', b1, by rw [b2', a3], ?_⟩
        rcases b3 with ⟨c1, c2, c3⟩ | ⟨k, t, c1, c2, c3, c4, c5, c6, c7⟩
        · exact Or.inl ⟨c1, c2, fun c i u1 u2 u3 => by rw [c3 c i u1 u2 u3, a4 c i u1 u2 u3]⟩
        · exact Or.inr ⟨k, t, c1, c2, c3, c4, c5, c6, fun c i u0 u1 u2 u3 u4 => by rw [c7 c i u0 u1 u2 u3 u4, a4 c i u2 u3 u4]⟩
      · have a1 : g_X10_home_17 (g_X10_home_9 f) fuel (nI (6 ^ n)) (nI n) 0 T = _ := a1
        rw [a1]
        exact ⟨_, T1, rfl, a4, Or.inr ⟨n, t, by omega, rfl, hlow, a0, a2, a3, a5⟩⟩
/-- both find the same -/
theorem Fst6_eq {N : Nat} {es : Nat → Nat} {bd : Nat → Nat → Nat} {n : Nat} {t u : Nat → Nat} (h1 : Fst6 N es bd n t) (h2 : Fst6 N es bd n u) : ∀ i, i < n → t i = u i := by
  apply cod_inj n h1.1 h2.1
  rcases Nat.lt_trichotomy (cod 6 t n) (cod 6 u n) with c | c | c
  · exact absurd h1.2.1 (h2.2.2 t h1.1 c)
  · exact c
  · exact absurd h2.2.1 (h1.2.2 u h2.1 c)
theorem Rl_M {S T S' T' : St} (h : Rl S T) (h8' : relM S' T') (hS : ∀ c i, c < 32 → rd S' c i = rd S c i) (hT : ∀ c i, (c ≠ 0 ∨ (i ≠ 2 ∧ i ≠ 50)) → c ≠ 23 → c ≠ 24 → c ≠ 25 → c ≠ 26 → rd T' c i = rd T c i) (hL : rdL T' = rdL T) : Rl S' T' := by
  obtain ⟨h1, h2, h3, h4, h5, h6, h7, h8, h9⟩ := h
  exact ⟨relT_fr h1 (fun c i q => hS c i (by omega)) (fun c i q => hT c i (by omega) (by omega) (by omega) (by omega) (by omega)), relF_fr h2 (fun c i q => hS c i (by omega)) (fun c i q => hT c i (by omega) (by omega) (by omega) (by omega) (by omega)), relR_fr h3 (fun c i q => hS c i (by omega)) (fun c i q => hT c i (by omega) (by omega) (by omega) (by omega) (by omega)), relG_fr h4 (fun c i q => hS c i (by omega)) (fun c i q => hT c i (by omega) (by omega) (by omega) (by omega) (by omega)), relW_fr h5 (fun c i q => hS c i (by omega)) (fun c i q => hT c i (by omega) (by omega) (by omega) (by omega) (by omega)), relH_fr h6 (fun c i q => hS c i (by omega)) (fun c i q => hT c i (by omega) (by omega) (by omega) (by omega) (by omega)), relU_fr h7 (fun c i q => hS c i (by omega)) (fun c i q => hT c i (by omega) (by omega) (by omega) (by omega) (by omega)) hL, h8', relC_fr h9 (fun c i q => hT c i (by omega) (by omega) (by omega) (by omega) (by omega))⟩
theorem st_home : St_home Rl := by
  intro S T h
  obtain ⟨J, P, en, ga, ou, mk, sh, b, hn, hx, hm⟩ := h.2.2.2.1
  obtain ⟨r, S', s1, s2, s3⟩ := seek_eq hn hx
  have hm0 : gaM (up T 0 2 0) J P en ga ou mk sh b := gaM_fr hm (fun c i q => rd_ne (by omega))
  obtain ⟨r2, T', t1, t2, t3⟩ := hm9 (hoM_of hn hm0) fuel 0 (up T 0 2 0) (by unfold fuel; omega) (by omega) (fun _ _ _ => rfl) (fun j hj => by omega)
  have t1 : g_X10_home_9 fuel 1 0 (up T 0 2 0) = some (r2, T') := t1
  have eS : m_X9_home S = some (r, S') := by
    unfold m_X9_home f_X9_home_0
    rw [s1]; rfl
  have eT : m_X10_home T = some (r2, T') := by
    unfold m_X10_home f_X10_home_0
    rw [lt_v]; exact t1
  rw [rdL_up] at t2
  rcases s3 with ⟨rfl, a1, a2, a3⟩ | ⟨k, t, a1, rfl, a2, a3, a4, a5⟩
  · rcases t3 with ⟨rfl, b1, b2'⟩ | ⟨k', t', b1, rfl, b2', b3, b4, b5, b6⟩
    · refine ⟨-1, S', T', eS, eT, Rl_M h ?_ s2 (fun c i u1 u2 u3 u4 u5 => by rw [b2' c i u3 u4 u5, rd_ne (by omega)]) t2⟩
      obtain ⟨k, k1, k2, k3, k4⟩ := h.2.2.2.2.2.2.2.1
      exact ⟨k, k1, by rw [a2]; exact k2, by rw [b2' 0 50 (by omega) (by omega) (by omega), rd_ne (by omega)]; exact k3, fun i hi => by rw [a3 i, b2' 23 i (by omega) (by omega) (by omega), rd_ne (by omega)]; exact k4 i hi⟩
    · exact absurd b3.2.1 (a1 k' b1 t' b3.1)
  · rcases t3 with ⟨rfl, b1, b2'⟩ | ⟨k', t', b1, rfl, b2', b3, b4, b5, b6⟩
    · exact absurd a3.2.1 (b1 k a1 t a3.1)
    · have ek : k = k' := by
        rcases Nat.lt_trichotomy k k' with c | c | c
        · exact absurd a3.2.1 (b2' k c t a3.1)
        · exact c
        · exact absurd b3.2.1 (a2 k' c t' b3.1)
      subst ek
      have e := Fst6_eq a3 b3
      exact ⟨nI k, S', T', eS, eT, Rl_M h ⟨k, a1, a4, b4, fun i hi => by rw [a5 i hi, b5 i hi, e i hi]⟩ s2 (fun c i u1 u2 u3 u4 u5 => by rw [b6 c i (by omega) u2 u3 u4 u5, rd_ne (by omega)]) t2⟩
