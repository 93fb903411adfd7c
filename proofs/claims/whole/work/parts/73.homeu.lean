/-! ===== home, the reference ===== -/
def mF (T0 T : St) : Prop := ∀ c i, (c = 0 ∧ 3 ≤ i ∧ i ≤ 16 ∨ 3 ≤ c ∧ c ≤ 12) → rd T c i = rd T0 c i
theorem mF_up {T0 T : St} (h : mF T0 T) {k i : Nat} {v : Int32} (hk : 13 ≤ k) : mF T0 (up T k i v) := fun c j u => by rw [rd_ne (by omega)]; exact h c j u
theorem mF_fr {T0 T T' : St} (h : mF T0 T) (hf : ∀ c i, c ≤ 12 → (c ≠ 0 ∨ i ≤ 16) → rd T' c i = rd T c i) : mF T0 T' := fun c j u => by rw [hf c j (by omega) (by omega)]; exact h c j u
def gM (N : Nat) (es : Nat → Nat) (bd : Nat → Nat → Nat) (T : St) : Prop := rd T 0 16 = nI N ∧ (∀ p, p < N → ∃ j, j < 8 ∧ rd T 8 p = nI j ∧ rd T 11 j = nI (es p)) ∧ ∀ p k, p < N → k < 1000 → m_X10_led (nI p) (nI k) T = some (nI (bd p k), T)
def hoM (N : Nat) (es : Nat → Nat) (bd : Nat → Nat → Nat) (T0 : St) : Prop := N ≤ 24 ∧ (∀ p, p < N → 1 ≤ es p ∧ es p ≤ 6) ∧ (∀ p k, p < N → bd p k < N) ∧ (∀ p q k, p < N → q < N → bd p k = bd q k → p = q) ∧ ∀ T, mF T0 T → gM N es bd T
theorem hoM_of {J P : Nat} {en ga : Nat → Nat} {ou mk sh b : Nat} {T : St} (hn : gaN J P en ga ou mk sh b) (hm : gaM T J P en ga ou mk sh b) : hoM (2 * P) (esp en (2 * P)) (bdp en (2 * P)) T := by
  have hP : P ≤ 12 := hn.2.1
  have hJ : J ≤ 8 := hn.1
  refine ⟨by omega, fun p hp => ⟨(pvN hn hp).2.2.2.1, (pvN hn hp).2.2.2.2.1⟩, fun p k hp => (bdp_in hn hp k).2, fun p q k hp hq h => bdp_inj hn hp hq h, fun T' hF => ?_⟩
  have hm' := gaM_fr hm (fun c i q => hF c i (by omega))
  exact ⟨hm'.2.2.2.1, fun p hp => ⟨jnp en (2 * P) p, by have := (pvN hn hp).1; omega, (pvM hn hm' hp).1, (hm'.2.2.2.2.1 _ (pvN hn hp).1).2.2.1⟩, fun p k hp hk => led_eq hn hm' hp hk⟩
def sgT (es : Nat → Nat) (bd : Nat → Nat → Nat) (t : Nat → Nat) (p : Nat) : Nat → Nat
  | 0 => es p
  | k + 1 => 7 * sgT es bd t p k + es (goT bd t p (k + 1))
theorem sgT_lt {N : Nat} {es : Nat → Nat} {bd : Nat → Nat → Nat} (he : ∀ p, p < N → 1 ≤ es p ∧ es p ≤ 6) (hc : ∀ p k, p < N → bd p k < N) {t : Nat → Nat} {p : Nat} (hp : p < N) : ∀ k, sgT es bd t p k < 7 ^ (k + 1)
  | 0 => by have := he p hp; show es p < 7; omega
  | k + 1 => by
    have h1 := sgT_lt he hc (t := t) hp k
    have h2 := he _ (goT_lt hc t hp (k + 1))
    show 7 * sgT es bd t p k + es (goT bd t p (k + 1)) < 7 ^ (k + 2)
    rw [Nat.pow_succ]; omega
theorem sgT_iff {N : Nat} {es : Nat → Nat} {bd : Nat → Nat → Nat} (he : ∀ p, p < N → 1 ≤ es p ∧ es p ≤ 6) (hc : ∀ p k, p < N → bd p k < N) {t : Nat → Nat} {p q : Nat} (hp : p < N) (hq : q < N) : ∀ k, sgT es bd t p k = sgT es bd t q k ↔ smT es bd t k p q = true
  | 0 => by show es p = es q ↔ (es p == es q) = true; rw [beq_iff_eq]
  | k + 1 => by
    have h1 := sgT_iff he hc (t := t) hp hq k
    have h2 := he _ (goT_lt hc t hp (k + 1))
    have h3 := he _ (goT_lt hc t hq (k + 1))
    show 7 * sgT es bd t p k + es (goT bd t p (k + 1)) = 7 * sgT es bd t q k + es (goT bd t q (k + 1)) ↔ (smT es bd t k p q && (es (goT bd t p (k + 1)) == es (goT bd t q (k + 1)))) = true
    rw [hor_eq (by omega) (by omega), Bool.and_eq_true, beq_iff_eq, h1]
theorem sg31 {N : Nat} {es : Nat → Nat} {bd : Nat → Nat → Nat} (he : ∀ p, p < N → 1 ≤ es p ∧ es p ≤ 6) (hc : ∀ p k, p < N → bd p k < N) {t : Nat → Nat} {p k : Nat} (hp : p < N) (hk : k ≤ 5) : sgT es bd t p k < 2 ^ 31 := by
  have h1 := sgT_lt he hc (t := t) hp k
  have h2 : 7 ^ (k + 1) ≤ 7 ^ 6 := Nat.pow_le_pow_right (by decide) (by omega)
  exact Nat.lt_of_lt_of_le h1 (Nat.le_trans h2 (by decide))
theorem goT_inj {N : Nat} {bd : Nat → Nat → Nat} (hc : ∀ p k, p < N → bd p k < N) (hi : ∀ p q k, p < N → q < N → bd p k = bd q k → p = q) {t : Nat → Nat} {p q : Nat} (hp : p < N) (hq : q < N) : ∀ k, goT bd t p k = goT bd t q k → p = q
  | 0, h => h
  | k + 1, h => goT_inj hc hi hp hq k (hi _ _ (t k) (goT_lt hc t hp k) (goT_lt hc t hq k) h)
def nwR (N : Nat) (es : Nat → Nat) (bd : Nat → Nat → Nat) (t : Nat → Nat) (k : Nat) (q : Nat) (T : St) : Prop := rd T 25 q = nI (goT bd t q k) ∧ rd T 26 q = nI (sgT es bd t q k)
theorem tel2 {N : Nat} {es : Nat → Nat} {bd : Nat → Nat → Nat} {T0 : St} (hA : hoM N es bd T0) {x1 : Int32} (t : Nat → Nat) : ∀ f p (T : St), N - p < f → p ≤ N → mF T0 T → (∀ q, q < p → nwR N es bd t 0 q T) → ∃ T', g_X10_tells_2 f x1 (nI p) T = g_X10_tells_42 fuel x1 0 T' ∧ (∀ q, q < N → nwR N es bd t 0 q T') ∧ rdL T' = rdL T ∧ ∀ c i, c ≠ 25 → c ≠ 26 → rd T' c i = rd T c i := by
  intro f
  have hN := hA.1
  induction f with
  | zero => intro p T h; omega
  | succ f ih =>
    intro p T h1 h2 hF hq
    rw [show g_X10_tells_2 (f + 1) = f_X10_tells_2 (g_X10_tells_2 f) from rfl]
    unfold f_X10_tells_2
    obtain ⟨g1, g2, g3⟩ := hA.2.2.2.2 T hF
    rw [g1]
    by_cases c : N ≤ p
    · rw [if_pos ((nI_leI (by omega) (by omega)).mpr c)]
      exact ⟨T, rfl, fun q hq' => hq q (by omega), rfl, fun _ _ _ _ => rfl⟩
    · rw [if_neg (fun u => c ((nI_leI (by omega) (by omega)).mp u)), ck_nI (by omega) (by omega), nI_clamp (by omega), lt_v]
      obtain ⟨j, j1, j2, j3⟩ := g2 p (by omega)
      simp (disch := omega) only [rd_ne, j2, ck_nI, nI_clamp, j3, lt_v, nI_1]
      obtain ⟨T', a1, a2, a3, a4⟩ := ih (p + 1) (up (up T 25 p (nI p)) 26 p (nI (es p))) (by omega) (by omega) (mF_up (mF_up hF (by omega)) (by omega)) (fun q hq' => by
        unfold nwR
        by_cases v : q = p
        · subst v; rw [rd_ne (by omega), rd_same, rd_same]; exact ⟨rfl, rfl⟩
        · rw [rd_ne (by omega), rd_ne (by omega), rd_ne (by omega), rd_ne (by omega)]; exact hq q (by omega))
      exact ⟨T', a1, a2, a3, fun c i u1 u2 => by rw [a4 c i u1 u2, rd_ne (Or.inl u2), rd_ne (Or.inl u1)]⟩
theorem tel49 {N : Nat} {es : Nat → Nat} {bd : Nat → Nat → Nat} {T0 : St} (hA : hoM N es bd T0) {x1 : Int32} {t : Nat → Nat} {k : Nat} (hk : k < 5) (ht : t k < 1000) {k42 : Int32 → Int32 → St → Option (Int32 × St)} : ∀ f p (T : St), N - p < f → p ≤ N → mF T0 T → rd T 24 k = nI (t k) → (∀ q, q < p → nwR N es bd t (k + 1) q T) → (∀ q, p ≤ q → q < N → nwR N es bd t k q T) → ∃ T', g_X10_tells_49 k42 f x1 (nI k) (nI p) T = k42 x1 (nI (k + 1)) T' ∧ (∀ q, q < N → nwR N es bd t (k + 1) q T') ∧ rdL T' = rdL T ∧ ∀ c i, c ≠ 25 → c ≠ 26 → rd T' c i = rd T c i := by
  intro f
  have hN := hA.1
  induction f with
  | zero => intro p T h; omega
  | succ f ih =>
    intro p T h1 h2 hF h24 hq hq2
    rw [show g_X10_tells_49 k42 (f + 1) = f_X10_tells_49 k42 (g_X10_tells_49 k42 f) from rfl]
    unfold f_X10_tells_49
    obtain ⟨g1, g2, g3⟩ := hA.2.2.2.2 T hF
    rw [g1]
    by_cases c : N ≤ p
    · rw [if_pos ((nI_leI (by omega) (by omega)).mpr c), lt_v, nI_1]
      exact ⟨T, rfl, fun q hq' => hq q (by omega), rfl, fun _ _ _ _ => rfl⟩
    · have hp : p < N := by omega
      obtain ⟨r1, r2⟩ := hq2 p (by omega) hp
      have b1 := goT_lt hA.2.2.1 t hp k
      have b2' : goT bd t p (k + 1) < N := goT_lt hA.2.2.1 t hp (k + 1)
      rw [if_neg (fun u => c ((nI_leI (by omega) (by omega)).mp u)), ck_nI (by omega) (by omega), ck_nI (by omega) (by omega), nI_clamp (by omega), nI_clamp (by omega), r1, h24, g3 _ _ b1 ht]
      rw [show bd (goT bd t p k) (t k) = goT bd t p (k + 1) from rfl]
      obtain ⟨j, j1, j2, j3⟩ := g2 _ b2'
      simp (disch := omega) only [bI_some, lt_v, rd_same, ck_nI, nI_clamp, rd_ne, j2, j3, r2, show (7 : Int32) = nI 7 from rfl, pk_mul, nI_add, nI_1]
      rw [show 7 * sgT es bd t p k + es (goT bd t p (k + 1)) = sgT es bd t p (k + 1) from rfl]
      obtain ⟨T', a1, a2, a3, a4⟩ := ih (p + 1) (up (up T 25 p (nI (goT bd t p (k + 1)))) 26 p (nI (sgT es bd t p (k + 1)))) (by omega) (by omega) (mF_up (mF_up hF (by omega)) (by omega)) (by rw [rd_ne (by omega), rd_ne (by omega)]; exact h24) (fun q hq' => by
        unfold nwR
        by_cases v : q = p
        · subst v; rw [rd_ne (by omega), rd_same, rd_same]; exact ⟨rfl, rfl⟩
        · rw [rd_ne (by omega), rd_ne (by omega), rd_ne (by omega), rd_ne (by omega)]; exact hq q (by omega)) (fun q u1 u2 => by
        unfold nwR
        rw [rd_ne (by omega), rd_ne (by omega), rd_ne (by omega), rd_ne (by omega)]; exact hq2 q (by omega) u2)
      exact ⟨T', a1, a2, a3, fun c i u1 u2 => by rw [a4 c i u1 u2, rd_ne (Or.inl u2), rd_ne (Or.inl u1)]⟩
theorem tel42 {N : Nat} {es : Nat → Nat} {bd : Nat → Nat → Nat} {T0 : St} (hA : hoM N es bd T0) {t : Nat → Nat} {n : Nat} (hn : n ≤ 5) (ht : dgs 6 t n) : ∀ f k (T : St), n - k < f → k ≤ n → mF T0 T → (∀ i, i < n → rd T 24 i = nI (t i)) → (∀ q, q < N → nwR N es bd t k q T) → ∃ T', g_X10_tells_42 f (nI n) (nI k) T = g_X10_tells_125 fuel 0 T' ∧ (∀ q, q < N → nwR N es bd t n q T') ∧ rdL T' = rdL T ∧ ∀ c i, c ≠ 25 → c ≠ 26 → rd T' c i = rd T c i := by
  intro f
  have hN := hA.1
  induction f with
  | zero => intro k T h; omega
  | succ f ih =>
    intro k T h1 h2 hF h24 hq
    rw [show g_X10_tells_42 (f + 1) = f_X10_tells_42 (g_X10_tells_42 f) from rfl]
    unfold f_X10_tells_42
    by_cases c : n ≤ k
    · have : k = n := by omega
      subst this
      rw [if_pos ((nI_leI (by omega) (by omega)).mpr c)]
      exact ⟨T, rfl, hq, rfl, fun _ _ _ _ => rfl⟩
    · rw [if_neg (fun u => c ((nI_leI (by omega) (by omega)).mp u))]
      obtain ⟨T1, a1, a2, a3, a4⟩ := tel49 hA (x1 := nI n) (k := k) (t := t) (by omega) (by have := ht k (by omega); omega) (k42 := g_X10_tells_42 f) fuel 0 T (by unfold fuel; omega) (by omega) hF (h24 k (by omega)) (fun q hq' => by omega) (fun q _ u => hq q u)
      have a1 : g_X10_tells_49 (g_X10_tells_42 f) fuel (nI n) (nI k) 0 T = _ := a1
      rw [a1]
      obtain ⟨T', b1, b2', b3, b4⟩ := ih (k + 1) T1 (by omega) (by omega) (mF_fr hF (fun c i u _ => a4 c i (by omega) (by omega))) (fun i hi => by rw [a4 24 i (by omega) (by omega)]; exact h24 i hi) a2
      exact ⟨T', b1, b2', by rw [b3, a3], fun c i u1 u2 => by rw [b4 c i u1 u2, a4 c i u1 u2]⟩
theorem tel135 {N : Nat} {es : Nat → Nat} {bd : Nat → Nat → Nat} {T0 T : St} (hA : hoM N es bd T0) {t : Nat → Nat} {n p : Nat} (hn : n ≤ 5) (hp : p < N) (hq : ∀ q, q < N → nwR N es bd t n q T) {k125 : Int32 → St → Option (Int32 × St)} : ∀ f q, p - q < f → q ≤ p → ((∀ z, q ≤ z → z < p → smT es bd t n p z = false) ∧ g_X10_tells_135 k125 f (nI p) (nI q) T = k125 (nI (p + 1)) T) ∨ ((∃ z, z < p ∧ smT es bd t n p z = true) ∧ g_X10_tells_135 k125 f (nI p) (nI q) T = some (0, T)) := by
  intro f
  have hN := hA.1
  induction f with
  | zero => intro q h; omega
  | succ f ih =>
    intro q h1 h2
    rw [show g_X10_tells_135 k125 (f + 1) = f_X10_tells_135 k125 (g_X10_tells_135 k125 f) from rfl]
    unfold f_X10_tells_135
    by_cases c : p ≤ q
    · rw [if_pos ((nI_leI (by omega) (by omega)).mpr c), lt_v, nI_1]
      exact Or.inl ⟨fun z _ _ => by omega, rfl⟩
    · have hq2 : q < N := by omega
      obtain ⟨r1, r2⟩ := hq p hp
      obtain ⟨r3, r4⟩ := hq q hq2
      have s1 := sg31 hA.2.1 hA.2.2.1 (t := t) hp hn
      have s2 := sg31 hA.2.1 hA.2.2.1 (t := t) hq2 hn
      have g1 := goT_lt hA.2.2.1 t hp n
      have g2 := goT_lt hA.2.2.1 t hq2 n
      have e1 := nI_eq s1 s2
      have e2 := sgT_iff hA.2.1 hA.2.2.1 (t := t) hp hq2 n
      have e3 : ¬ nI (goT bd t p n) = nI (goT bd t q n) := fun u => by
        have := goT_inj hA.2.2.1 hA.2.2.2.1 hp hq2 n ((nI_eq (by omega) (by omega)).mp u)
        omega
      rw [if_neg (fun u => c ((nI_leI (by omega) (by omega)).mp u)), ck_nI (by omega) (by omega), ck_nI (by omega) (by omega), nI_clamp (by omega), nI_clamp (by omega), r1, r2, r3, r4, lt_v, nI_1]
      cases w : smT es bd t n p q
      · rw [if_neg (fun u => by have := e2.mp (e1.mp u); rw [w] at this; cases this)]
        rcases ih (q + 1) (by omega) (by omega) with ⟨b1, b2'⟩ | b
        · refine Or.inl ⟨fun z u1 u2 => ?_, b2'⟩
          by_cases v : z = q
          · subst v; exact w
          · exact b1 z (by omega) u2
        · exact Or.inr b
      · rw [if_pos (e1.mpr (e2.mpr w)), if_neg e3]
        exact Or.inr ⟨⟨q, by omega, w⟩, rfl⟩
theorem tel125 {N : Nat} {es : Nat → Nat} {bd : Nat → Nat → Nat} {T0 T : St} (hA : hoM N es bd T0) (hF : mF T0 T) {t : Nat → Nat} {n : Nat} (hn : n ≤ 5) (hq : ∀ q, q < N → nwR N es bd t n q T) : ∀ f p, N - p < f → p ≤ N → (∀ p' q', p' < p → q' < p' → smT es bd t n p' q' = false) → ∃ b : Bool, g_X10_tells_125 f (nI p) T = some (b2 b, T) ∧ (b = true ↔ TelT N es bd t n) := by
  intro f
  have hN := hA.1
  induction f with
  | zero => intro p h; omega
  | succ f ih =>
    intro p h1 h2 h3
    rw [show g_X10_tells_125 (f + 1) = f_X10_tells_125 (g_X10_tells_125 f) from rfl]
    unfold f_X10_tells_125
    rw [(hA.2.2.2.2 T hF).1]
    by_cases c : N ≤ p
    · rw [if_pos ((nI_leI (by omega) (by omega)).mpr c)]
      exact ⟨true, rfl, fun _ p' q' u1 u2 => h3 p' q' (by omega) u2, fun _ => rfl⟩
    · have hp : p < N := by omega
      rw [if_neg (fun u => c ((nI_leI (by omega) (by omega)).mp u))]
      rcases tel135 hA hn hp hq (k125 := g_X10_tells_125 f) fuel 0 (by unfold fuel; omega) (by omega) with ⟨b1, b2'⟩ | ⟨⟨z, z1, z2⟩, b2'⟩
      · have b2' : g_X10_tells_135 (g_X10_tells_125 f) fuel (nI p) 0 T = _ := b2'
        rw [b2']
        refine ih (p + 1) (by omega) (by omega) (fun p' q' u1 u2 => ?_)
        by_cases v : p' = p
        · subst v; exact b1 q' (by omega) u2
        · exact h3 p' q' (by omega) u2
      · have b2' : g_X10_tells_135 (g_X10_tells_125 f) fuel (nI p) 0 T = _ := b2'
        rw [b2']
        refine ⟨false, rfl, (fun u => by cases u), fun u => ?_⟩
        have := u p z hp z1
        rw [z2] at this; cases this
theorem tellsM {N : Nat} {es : Nat → Nat} {bd : Nat → Nat → Nat} {T0 T : St} (hA : hoM N es bd T0) (hF : mF T0 T) {t : Nat → Nat} {n : Nat} (hn : n ≤ 5) (ht : dgs 6 t n) (h24 : ∀ i, i < n → rd T 24 i = nI (t i)) : ∃ (b : Bool) (T' : St), m_X10_tells (nI n) T = some (b2 b, T') ∧ (b = true ↔ TelT N es bd t n) ∧ rdL T' = rdL T ∧ ∀ c i, c ≠ 25 → c ≠ 26 → rd T' c i = rd T c i := by
  have hN := hA.1
  unfold m_X10_tells f_X10_tells_0
  obtain ⟨T1, a1, a2, a3, a4⟩ := tel2 hA (x1 := nI n) t fuel 0 T (by unfold fuel; omega) (by omega) hF (fun q hq => by omega)
  have a1 : g_X10_tells_2 fuel (nI n) 0 T = _ := a1
  have hF1 : mF T0 T1 := mF_fr hF (fun c i u _ => a4 c i (by omega) (by omega))
  obtain ⟨T2, b1, b2', b3, b4⟩ := tel42 hA hn ht fuel 0 T1 (by unfold fuel; omega) (by omega) hF1 (fun i hi => by rw [a4 24 i (by omega) (by omega)]; exact h24 i hi) a2
  have b1 : g_X10_tells_42 fuel (nI n) 0 T1 = _ := b1
  obtain ⟨b, c1, c2⟩ := tel125 hA (mF_fr hF1 (fun c i u _ => b4 c i (by omega) (by omega))) hn b2' fuel 0 (by unfold fuel; omega) (by omega) (fun p' q' u => by omega)
  have c1 : g_X10_tells_125 fuel 0 T2 = _ := c1
  rw [a1, b1, c1]
  exact ⟨b, T2, rfl, c2, by rw [b3, a3], fun c i u1 u2 => by rw [b4 c i u1 u2, a4 c i u1 u2]⟩
