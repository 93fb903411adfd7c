/-! ===== tales of turns: the plain mathematics ===== -/
def goT (bd : Nat → Nat → Nat) (t : Nat → Nat) (p : Nat) : Nat → Nat
  | 0 => p
  | i + 1 => bd (goT bd t p i) (t i)
def smT (es : Nat → Nat) (bd : Nat → Nat → Nat) (t : Nat → Nat) : Nat → Nat → Nat → Bool
  | 0, p, q => es p == es q
  | i + 1, p, q => smT es bd t i p q && (es (goT bd t p (i + 1)) == es (goT bd t q (i + 1)))
def alK (f : Nat → Bool) : Nat → Bool
  | 0 => true
  | k + 1 => alK f k && f k
def twT (es : Nat → Nat) (bd : Nat → Nat → Nat) (K : Nat) : Nat → Nat → Nat → Bool
  | 0, p, q => es p == es q
  | d + 1, p, q => twT es bd K d p q && alK (fun k => twT es bd K d (bd p k) (bd q k)) K
def TelT (N : Nat) (es : Nat → Nat) (bd : Nat → Nat → Nat) (t : Nat → Nat) (n : Nat) : Prop := ∀ p q, p < N → q < p → smT es bd t n p q = false
def cod (B : Nat) (t : Nat → Nat) : Nat → Nat
  | 0 => 0
  | n + 1 => B * cod B t n + t n
def dgs (B : Nat) (t : Nat → Nat) (n : Nat) : Prop := ∀ i, i < n → t i < B
theorem goT_lt {N : Nat} {bd : Nat → Nat → Nat} (hc : ∀ p k, p < N → bd p k < N) (t : Nat → Nat) {p : Nat} (hp : p < N) : ∀ n, goT bd t p n < N
  | 0 => hp
  | n + 1 => hc _ _ (goT_lt hc t hp n)
theorem goT_eq {N : Nat} {bd : Nat → Nat → Nat} (hc : ∀ p k, p < N → bd p k < N) {t u : Nat → Nat} {p : Nat} (hp : p < N) : ∀ n, (∀ i, i < n → ∀ p, p < N → bd p (t i) = bd p (u i)) → goT bd t p n = goT bd u p n
  | 0, _ => rfl
  | n + 1, h => by
    show bd (goT bd t p n) (t n) = bd (goT bd u p n) (u n)
    rw [goT_eq hc hp n (fun i hi => h i (by omega)), h n (by omega) _ (goT_lt hc u hp n)]
theorem smT_iff {es : Nat → Nat} {bd : Nat → Nat → Nat} {t : Nat → Nat} {p q : Nat} : ∀ n, smT es bd t n p q = true ↔ ∀ j, j ≤ n → es (goT bd t p j) = es (goT bd t q j)
  | 0 => by
    show (es p == es q) = true ↔ _
    rw [beq_iff_eq]
    exact ⟨fun h j hj => by have : j = 0 := by omega
                            subst this; exact h, fun h => h 0 (by omega)⟩
  | n + 1 => by
    show (smT es bd t n p q && (es (goT bd t p (n + 1)) == es (goT bd t q (n + 1)))) = true ↔ _
    rw [Bool.and_eq_true, beq_iff_eq, smT_iff n]
    refine ⟨fun h j hj => ?_, fun h => ⟨fun j hj => h j (by omega), h (n + 1) (by omega)⟩⟩
    by_cases c : j = n + 1
    · subst c; exact h.2
    · exact h.1 j (by omega)
theorem smT_eq {N : Nat} {es : Nat → Nat} {bd : Nat → Nat → Nat} (hc : ∀ p k, p < N → bd p k < N) {t u : Nat → Nat} {p q n : Nat} (hp : p < N) (hq : q < N) (h : ∀ i, i < n → ∀ p, p < N → bd p (t i) = bd p (u i)) : smT es bd t n p q = smT es bd u n p q := by
  apply Bool.eq_iff_iff.mpr
  rw [smT_iff, smT_iff]
  constructor
  · intro w j hj
    rw [← goT_eq hc hp j (fun i hi => h i (by omega)), ← goT_eq hc hq j (fun i hi => h i (by omega))]; exact w j hj
  · intro w j hj
    rw [goT_eq hc hp j (fun i hi => h i (by omega)), goT_eq hc hq j (fun i hi => h i (by omega))]; exact w j hj
theorem smT_sym {es : Nat → Nat} {bd : Nat → Nat → Nat} {t : Nat → Nat} {p q n : Nat} (h : smT es bd t n p q = true) : smT es bd t n q p = true := (smT_iff n).mpr (fun j hj => ((smT_iff n).mp h j hj).symm)
theorem smT_refl {es : Nat → Nat} {bd : Nat → Nat → Nat} {t : Nat → Nat} {p n : Nat} : smT es bd t n p p = true := (smT_iff n).mpr (fun _ _ => rfl)
theorem smT_dn {es : Nat → Nat} {bd : Nat → Nat → Nat} {t : Nat → Nat} {p q n : Nat} (h : smT es bd t (n + 1) p q = true) : smT es bd t n p q = true := (smT_iff n).mpr (fun j hj => (smT_iff (n + 1)).mp h j (by omega))
theorem TelT_eq {N : Nat} {es : Nat → Nat} {bd : Nat → Nat → Nat} (hc : ∀ p k, p < N → bd p k < N) {t u : Nat → Nat} {n : Nat} (h : ∀ i, i < n → ∀ p, p < N → bd p (t i) = bd p (u i)) (w : TelT N es bd t n) : TelT N es bd u n := fun p q hp hq => by
  rw [← smT_eq hc hp (Nat.lt_trans hq hp) h]; exact w p q hp hq
theorem TelT_no {N : Nat} {es : Nat → Nat} {bd : Nat → Nat → Nat} {t : Nat → Nat} {n p q : Nat} (hp : p < N) (hq : q < N) (hne : p ≠ q) (h : smT es bd t n p q = true) : ¬ TelT N es bd t n := fun w => by
  rcases Nat.lt_or_gt_of_ne hne with c | c
  · have := w q p hq c
    rw [smT_sym h] at this; cases this
  · have := w p q hp c
    rw [h] at this; cases this
theorem alK_iff {f : Nat → Bool} : ∀ K, alK f K = true ↔ ∀ k, k < K → f k = true
  | 0 => ⟨fun _ k hk => by omega, fun _ => rfl⟩
  | K + 1 => by
    show (alK f K && f K) = true ↔ _
    rw [Bool.and_eq_true, alK_iff K]
    refine ⟨fun h k hk => ?_, fun h => ⟨fun k hk => h k (by omega), h K (by omega)⟩⟩
    by_cases c : k = K
    · subst c; exact h.2
    · exact h.1 k (by omega)
theorem twT_refl {es : Nat → Nat} {bd : Nat → Nat → Nat} {K : Nat} : ∀ d p, twT es bd K d p p = true
  | 0, p => by show (es p == es p) = true; simp
  | d + 1, p => by
    show (twT es bd K d p p && alK (fun k => twT es bd K d (bd p k) (bd p k)) K) = true
    rw [twT_refl d p, Bool.true_and, alK_iff]
    exact fun k _ => twT_refl d _
theorem twT_0 {es : Nat → Nat} {bd : Nat → Nat → Nat} {K p q : Nat} : ∀ d, twT es bd K d p q = true → es p = es q
  | 0, h => beq_iff_eq.mp h
  | d + 1, h => by
    have h : (twT es bd K d p q && alK (fun k => twT es bd K d (bd p k) (bd q k)) K) = true := h
    rw [Bool.and_eq_true] at h
    exact twT_0 d h.1
theorem goT_add {bd : Nat → Nat → Nat} {t : Nat → Nat} {p i : Nat} : ∀ j, goT bd t p (i + j) = goT bd (fun k => t (i + k)) (goT bd t p i) j
  | 0 => rfl
  | j + 1 => by
    show bd (goT bd t p (i + j)) (t (i + j)) = bd (goT bd (fun k => t (i + k)) (goT bd t p i) j) (t (i + j))
    rw [goT_add j]
theorem twT_go {es : Nat → Nat} {bd : Nat → Nat → Nat} {K : Nat} : ∀ d p q (v : Nat → Nat), twT es bd K d p q = true → dgs K v d → ∀ j, j ≤ d → es (goT bd v p j) = es (goT bd v q j)
  | 0, p, q, v, h, _, j, hj => by
    have : j = 0 := by omega
    subst this; exact twT_0 0 h
  | d + 1, p, q, v, h, hv, 0, _ => twT_0 (d + 1) h
  | d + 1, p, q, v, h, hv, j + 1, hj => by
    have h : (twT es bd K d p q && alK (fun k => twT es bd K d (bd p k) (bd q k)) K) = true := h
    rw [Bool.and_eq_true, alK_iff] at h
    rw [show j + 1 = 1 + j by omega, goT_add j, goT_add j]
    exact twT_go d (bd p (v 0)) (bd q (v 0)) (fun k => v (1 + k)) (h.2 _ (hv 0 (by omega))) (fun i hi => hv (1 + i) (by omega)) j (by omega)
/-- what can't be told apart by what is left is not told apart -/
theorem prunT {N : Nat} {es : Nat → Nat} {bd : Nat → Nat → Nat} (hc : ∀ p k, p < N → bd p k < N) {K m d p q : Nat} {t u : Nat → Nat} (hp : p < N) (hq : q < N) (h1 : smT es bd t m p q = true) (h2 : twT es bd K d (goT bd t p m) (goT bd t q m) = true) (hu : ∀ i, i < m → u i = t i) (hk : dgs K u (m + d)) : smT es bd u (m + d) p q = true := by
  have e : ∀ i, i < m → ∀ p, p < N → bd p (u i) = bd p (t i) := fun i hi p _ => by rw [hu i hi]
  refine (smT_iff _).mpr (fun j hj => ?_)
  by_cases c : j ≤ m
  · rw [goT_eq hc hp j (fun i hi => e i (by omega)), goT_eq hc hq j (fun i hi => e i (by omega))]
    exact (smT_iff m).mp h1 j c
  · rw [show j = m + (j - m) by omega, goT_add, goT_add, goT_eq hc hp m e, goT_eq hc hq m e]
    exact twT_go d _ _ _ h2 (fun i hi => hk (m + i) (by omega)) (j - m) (by omega)
/-! the order of tales -/
theorem hor_lt {B a b x y : Nat} (hx : x < B) (hy : y < B) : B * a + x < B * b + y ↔ a < b ∨ (a = b ∧ x < y) := by
  constructor
  · intro h
    rcases Nat.lt_trichotomy a b with c | c | c
    · exact Or.inl c
    · subst c; exact Or.inr ⟨rfl, by omega⟩
    · have := Nat.mul_le_mul_left B (show b + 1 ≤ a from c)
      rw [Nat.mul_succ] at this; omega
  · rintro (c | ⟨rfl, c⟩)
    · have := Nat.mul_le_mul_left B (show a + 1 ≤ b from c)
      rw [Nat.mul_succ] at this; omega
    · omega
theorem hor_eq {B a b x y : Nat} (hx : x < B) (hy : y < B) : B * a + x = B * b + y ↔ a = b ∧ x = y := by
  constructor
  · intro h
    rcases Nat.lt_trichotomy a b with c | c | c
    · have := (hor_lt hx hy).mpr (Or.inl c); omega
    · subst c; exact ⟨rfl, by omega⟩
    · have := (hor_lt hy hx).mpr (Or.inl c); omega
  · rintro ⟨rfl, rfl⟩; rfl
theorem cod_lt {B : Nat} {t : Nat → Nat} : ∀ n, dgs B t n → cod B t n < B ^ n
  | 0, _ => by simp [cod]
  | n + 1, h => by
    have h1 := cod_lt n (fun i hi => h i (by omega))
    have h2 := h n (by omega)
    have h3 := Nat.mul_le_mul_left B (show cod B t n + 1 ≤ B ^ n from h1)
    rw [Nat.mul_succ] at h3
    show B * cod B t n + t n < B ^ (n + 1)
    rw [Nat.pow_succ, Nat.mul_comm (B ^ n) B]; omega
theorem cod_inj {B : Nat} {t u : Nat → Nat} : ∀ n, dgs B t n → dgs B u n → cod B t n = cod B u n → ∀ i, i < n → t i = u i
  | 0, _, _, _, i, hi => by omega
  | n + 1, ht, hu, h, i, hi => by
    have h : B * cod B t n + t n = B * cod B u n + u n := h
    rw [hor_eq (ht n (by omega)) (hu n (by omega))] at h
    by_cases c : i = n
    · subst c; exact h.2
    · exact cod_inj n (fun i hi => ht i (by omega)) (fun i hi => hu i (by omega)) h.1 i (by omega)
theorem cod_eq {B : Nat} {t u : Nat → Nat} : ∀ n, (∀ i, i < n → t i = u i) → cod B t n = cod B u n
  | 0, _ => rfl
  | n + 1, h => by
    show B * cod B t n + t n = B * cod B u n + u n
    rw [cod_eq n (fun i hi => h i (by omega)), h n (by omega)]
theorem cod_two {B C : Nat} {t u : Nat → Nat} : ∀ n, dgs B t n → dgs B u n → dgs C t n → dgs C u n → ((cod B t n < cod B u n ↔ cod C t n < cod C u n) ∧ (cod B t n = cod B u n ↔ cod C t n = cod C u n))
  | 0, _, _, _, _ => by simp [cod]
  | n + 1, h1, h2, h3, h4 => by
    obtain ⟨i1, i2⟩ := cod_two (B := B) (C := C) n (fun i hi => h1 i (by omega)) (fun i hi => h2 i (by omega)) (fun i hi => h3 i (by omega)) (fun i hi => h4 i (by omega))
    show ((B * cod B t n + t n < B * cod B u n + u n ↔ C * cod C t n + t n < C * cod C u n + u n) ∧ (B * cod B t n + t n = B * cod B u n + u n ↔ C * cod C t n + t n = C * cod C u n + u n))
    rw [hor_lt (h1 n (by omega)) (h2 n (by omega)), hor_eq (h1 n (by omega)) (h2 n (by omega)), hor_lt (h3 n (by omega)) (h4 n (by omega)), hor_eq (h3 n (by omega)) (h4 n (by omega)), i1, i2]
    exact ⟨Iff.rfl, Iff.rfl⟩
theorem cod_le {B : Nat} {t u : Nat → Nat} : ∀ n, (∀ i, i < n → t i ≤ u i) → cod B t n ≤ cod B u n
  | 0, _ => by simp [cod]
  | n + 1, h => by
    have h1 := Nat.mul_le_mul_left B (cod_le (B := B) n (fun i hi => h i (by omega)))
    have h2 := h n (by omega)
    show B * cod B t n + t n ≤ B * cod B u n + u n
    omega
theorem cod_up {B : Nat} {t : Nat → Nat} {m : Nat} : ∀ d, dgs B t (m + d) → cod B t m * B ^ d ≤ cod B t (m + d) ∧ cod B t (m + d) < (cod B t m + 1) * B ^ d
  | 0, _ => by simp
  | d + 1, h => by
    obtain ⟨i1, i2⟩ := cod_up (m := m) d (fun i hi => h i (by omega))
    have h2 := h (m + d) (by omega)
    show cod B t m * B ^ (d + 1) ≤ B * cod B t (m + d) + t (m + d) ∧ B * cod B t (m + d) + t (m + d) < (cod B t m + 1) * B ^ (d + 1)
    have a1 := Nat.mul_le_mul_left B i1
    have a2 := Nat.mul_le_mul_left B (show cod B t (m + d) + 1 ≤ _ from i2)
    rw [Nat.mul_succ] at a2
    have e : ∀ x, B * (x * B ^ d) = x * B ^ (d + 1) := fun x => by rw [Nat.pow_succ, Nat.mul_left_comm, Nat.mul_comm B (B ^ d)]
    rw [e] at a1 a2
    omega
theorem cod_z {B : Nat} {t : Nat → Nat} {m : Nat} : ∀ d, (∀ i, m ≤ i → i < m + d → t i = 0) → cod B t (m + d) = cod B t m * B ^ d
  | 0, _ => by simp
  | d + 1, h => by
    show B * cod B t (m + d) + t (m + d) = _
    rw [h (m + d) (by omega) (by omega), cod_z (m := m) d (fun i h1 h2 => h i h1 (by omega)), Nat.pow_succ, Nat.mul_left_comm, Nat.mul_comm B (B ^ d)]; rfl
/-- the first tale among the turns below K is the first among all six -/
theorem fst6 {N K n : Nat} {es : Nat → Nat} {bd : Nat → Nat → Nat} (hc : ∀ p k, p < N → bd p k < N) (hK : 1 ≤ K ∧ K ≤ 6) (hP : ∀ p k, p < N → k < 6 → bd p k = bd p (k % K)) {t : Nat → Nat} (ht : dgs K t n) (h : ∀ u, dgs K u n → cod K u n < cod K t n → ¬ TelT N es bd u n) : ∀ u, dgs 6 u n → cod 6 u n < cod 6 t n → ¬ TelT N es bd u n := by
  intro u hu hl w
  have d1 : dgs K (fun i => u i % K) n := fun i _ => Nat.mod_lt _ (by omega)
  have d6 : ∀ {v : Nat → Nat}, dgs K v n → dgs 6 v n := fun hv i hi => Nat.lt_of_lt_of_le (hv i hi) hK.2
  have l1 : cod 6 (fun i => u i % K) n ≤ cod 6 u n := cod_le n (fun i _ => Nat.mod_le _ _)
  refine h _ d1 ((cod_two (B := 6) (C := K) n (d6 d1) (d6 ht) d1 ht).1.mp (Nat.lt_of_le_of_lt l1 hl)) (TelT_eq hc (fun i hi p hp => hP p (u i) hp (hu i hi)) w)
theorem non6 {N K n : Nat} {es : Nat → Nat} {bd : Nat → Nat → Nat} (hc : ∀ p k, p < N → bd p k < N) (hK : 1 ≤ K ∧ K ≤ 6) (hP : ∀ p k, p < N → k < 6 → bd p k = bd p (k % K)) (h : ∀ u, dgs K u n → ¬ TelT N es bd u n) : ∀ u, dgs 6 u n → ¬ TelT N es bd u n := by
  intro u hu w
  exact h (fun i => u i % K) (fun i _ => Nat.mod_lt _ (by omega)) (TelT_eq hc (fun i hi p hp => hP p (u i) hp (hu i hi)) w)
/-- twins of n turns: no tale of n turns tells -/
theorem twT_no {N K n p q : Nat} {es : Nat → Nat} {bd : Nat → Nat → Nat} (hc : ∀ p k, p < N → bd p k < N) (hp : p < N) (hq : q < N) (hne : p ≠ q) (h : twT es bd K n p q = true) : ∀ u, dgs K u n → ¬ TelT N es bd u n := fun u hu => by
  have := prunT (m := 0) (d := n) (t := u) (u := u) hc hp hq (by show (es p == es q) = true; rw [twT_0 n h]; simp) h (fun i hi => by omega) (by rw [Nat.zero_add]; exact hu)
  rw [Nat.zero_add] at this
  exact TelT_no hp hq hne this
/-- the places of a garden: each turn is a permutation -/
theorem bdp_inj {J P : Nat} {en ga : Nat → Nat} {ou mk sh b : Nat} (hn : gaN J P en ga ou mk sh b) {p q : Nat} (hp : p < 2 * P) (hq : q < 2 * P) {k : Nat} (h : bdp en (2 * P) p k = bdp en (2 * P) q k) : p = q := by
  obtain ⟨b1, _⟩ := bdp_in hn hp k
  obtain ⟨c1, _⟩ := bdp_in hn hq k
  have e1 := otp_otp hn.2.2.1 b1
  have e2 := otp_otp hn.2.2.1 c1
  have h : otp en (2 * P) _ = otp en (2 * P) _ := h
  rw [h, e2] at e1
  obtain ⟨p1, p2, p3, p4, _⟩ := pvN hn hp
  obtain ⟨q1, q2, q3, q4, _⟩ := pvN hn hq
  have r1 := (ring_at hn.2.2.1 p1 (Nat.mod_lt (p - baj en (2 * P) (jnp en (2 * P) p) + k) p4)).2
  have r2 := (ring_at hn.2.2.1 q1 (Nat.mod_lt (q - baj en (2 * P) (jnp en (2 * P) q) + k) q4)).2
  unfold esp at e1 p3 q3 p4 q4 r1 r2
  rw [← e1, r2] at r1
  rw [r1] at e1 q2 q3 q4
  generalize ctj en (jnp en (2 * P) p) (2 * P) = e at *
  generalize baj en (2 * P) (jnp en (2 * P) p) = z at *
  have e3 : (p - z + k) % e = (q - z + k) % e := by omega
  have e4 := Nat.sub_mod_eq_zero_of_mod_eq e3
  have e5 := Nat.sub_mod_eq_zero_of_mod_eq e3.symm
  rw [Nat.add_sub_add_right, Nat.mod_eq_of_lt (by omega)] at e4 e5
  omega
theorem bdp_per {en : Nat → Nat} {N p k K : Nat} (h : K % esp en N p = 0) : bdp en N p k = bdp en N p (k % K) := by
  unfold bdp
  have e : (p - baj en N (jnp en N p) + k) % esp en N p = (p - baj en N (jnp en N p) + k % K) % esp en N p := by
    rw [Nat.add_mod _ k _, Nat.add_mod _ (k % K) _, Nat.mod_mod_of_dvd k (Nat.dvd_of_mod_eq_zero h)]
  rw [e]
