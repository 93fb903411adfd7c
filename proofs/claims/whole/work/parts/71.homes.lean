/-! ===== home, the class: the tales of a length in their order ===== -/
def px : Nat → Int32
  | 0 => -1
  | i + 1 => nI i
def trS (n : Nat) (c : Nat → Nat) (S : St) : Prop := ∀ k, k < n → rd S 35 k = nI (c k)
theorem nxt_loop {K n : Nat} (hK : 1 ≤ K ∧ K ≤ 6) (hn : n ≤ 5) : ∀ i f (S : St) (c : Nat → Nat), i < f → i ≤ n → rd S 32 3 = nI K → trS n c S → dgs K c n → (∀ j, i ≤ j → j < n → c j = 0) →
    (∃ S', g_X2_nextTale_4 f (px i) S = some (-1, S') ∧ cod K c i + 1 = K ^ i ∧ ∀ cc k, cc ≠ 35 → rd S' cc k = rd S cc k) ∨
    (∃ j c' S', j < i ∧ g_X2_nextTale_4 f (px i) S = some (nI j, S') ∧ trS n c' S' ∧ dgs K c' n ∧ (∀ k, k < j → c' k = c k) ∧ (∀ k, j < k → k < n → c' k = 0) ∧ cod K c' i = cod K c i + 1 ∧ ∀ cc k, cc ≠ 35 → rd S' cc k = rd S cc k) := by
  intro i
  induction i with
  | zero =>
    intro f S c hf _ _ _ _ _
    obtain ⟨g, rfl⟩ : ∃ g, f = g + 1 := ⟨f - 1, by omega⟩
    refine Or.inl ⟨S, ?_, rfl, fun _ _ _ => rfl⟩
    show f_X2_nextTale_4 (g_X2_nextTale_4 g) (-1) S = _
    unfold f_X2_nextTale_4
    rw [if_pos m1_lt]
  | succ i ih =>
    intro f S c hf hi h3 hc hd hz
    obtain ⟨g, rfl⟩ : ∃ g, f = g + 1 := ⟨f - 1, by omega⟩
    have hci := hd i (by omega)
    have hcd : cod K c (i + 1) = K * cod K c i + c i := rfl
    have eg : g_X2_nextTale_4 (g + 1) (px (i + 1)) S = (if nI K ≤ nI (c i + 1) then g_X2_nextTale_4 g (nI i + -1) (up S 35 i 0) else some (nI i, up S 35 i (nI (c i + 1)))) := by
      show f_X2_nextTale_4 (g_X2_nextTale_4 g) (nI i) S = _
      unfold f_X2_nextTale_4
      rw [if_neg (nI_pos (by omega)), ck_nI (by omega) (by omega), nI_clamp (by omega), h3, hc i (by omega), nI_1, lt_v, lt_v, lt_v]
    rw [eg]
    by_cases q : K ≤ c i + 1
    · rw [if_pos ((nI_leI (by omega) (by omega)).mpr q)]
      have ep : nI i + -1 = px i := by
        cases i with
        | zero => rfl
        | succ i => exact pk_m1 i
      rw [ep]
      have e1 : ∀ k, k < i → (fun k => if k = i then 0 else c k) k = c k := fun k hk => if_neg (by omega)
      rcases ih g (up S 35 i 0) (fun k => if k = i then 0 else c k) (by omega) (by omega) (by rw [rd_ne (by omega)]; exact h3) (fun k hk => by
          show _ = nI (if k = i then 0 else c k)
          by_cases v : k = i
          · subst v; rw [rd_same, if_pos rfl]; rfl
          · rw [rd_ne (by omega), if_neg v]; exact hc k hk) (fun k hk => by
          show (if k = i then 0 else c k) < K
          by_cases v : k = i
          · rw [if_pos v]; omega
          · rw [if_neg v]; exact hd k hk) (fun j u1 u2 => by
          show (if j = i then 0 else c j) = 0
          by_cases v : j = i
          · rw [if_pos v]
          · rw [if_neg v]; exact hz j (by omega) u2) with ⟨S', a1, a2, a3⟩ | ⟨j, c', S', a0, a1, a2, a3, a4, a5, a6, a7⟩
      · refine Or.inl ⟨S', a1, ?_, fun cc k u => by rw [a3 cc k u, rd_ne (Or.inl u)]⟩
        rw [cod_eq i e1] at a2
        rw [hcd, Nat.pow_succ, ← a2, Nat.add_mul, Nat.mul_comm (cod K c i) K]; omega
      · refine Or.inr ⟨j, c', S', by omega, a1, a2, a3, fun k hk => by rw [a4 k hk]; exact e1 k (by omega), a5, ?_, fun cc k u => by rw [a7 cc k u, rd_ne (Or.inl u)]⟩
        rw [cod_eq i e1] at a6
        show K * cod K c' i + c' i = _
        rw [a5 i a0 (by omega), a6, hcd, Nat.mul_succ]; omega
    · rw [if_neg (fun u => q ((nI_leI (by omega) (by omega)).mp u))]
      refine Or.inr ⟨i, fun k => if k = i then c i + 1 else c k, _, by omega, rfl, fun k hk => ?_, fun k hk => ?_, fun k hk => if_neg (by omega), fun k u1 u2 => ?_, ?_, fun cc k u => rd_ne (Or.inl u)⟩
      · show _ = nI (if k = i then c i + 1 else c k)
        by_cases v : k = i
        · subst v; rw [rd_same, if_pos rfl]
        · rw [rd_ne (by omega), if_neg v]; exact hc k hk
      · show (if k = i then c i + 1 else c k) < K
        by_cases v : k = i
        · rw [if_pos v]; omega
        · rw [if_neg v]; exact hd k hk
      · show (if k = i then c i + 1 else c k) = 0
        rw [if_neg (by omega)]; exact hz k (by omega) u2
      · show K * cod K (fun k => if k = i then c i + 1 else c k) i + (if i = i then c i + 1 else c i) = _
        rw [cod_eq (u := c) i (fun k hk => if_neg (by omega)), if_pos rfl, hcd]; omega
def HopT (N K : Nat) (es : Nat → Nat) (bd : Nat → Nat → Nat) (t : Nat → Nat) (m d : Nat) : Prop := ∃ p q, p < q ∧ q < N ∧ smT es bd t m p q = true ∧ twT es bd K d (goT bd t p m) (goT bd t q m) = true
def tlI (N K : Nat) (es : Nat → Nat) (bd : Nat → Nat → Nat) (S0 : St) (n : Nat) (t : Nat → Nat) (m : Nat) (S : St) : Prop := gF S0 S ∧ hoK N K bd S ∧ (∀ d, d ≤ 5 → twR N K es bd d S) ∧ (∀ j, j ≤ m → roT N es bd t j S) ∧ trS n t S ∧ dgs K t n
def tlF (S S' : St) : Prop := ∀ c i, (c ≠ 37 ∨ i < 24) → (c ≠ 38 ∨ i < 24) → (c ≠ 39 ∨ i = 0) → c ≠ 40 → c ≠ 35 → rd S' c i = rd S c i
theorem f78_eq {k24 : Int32 → Int32 → Int32 → St → Option (Int32 × St)} {k39 : Int32 → Int32 → Int32 → Int32 → St → Option (Int32 × St)} {x1 x2 x3 : Int32} {S : St} : f_X2_tellsWith_39 k24 k39 x1 x2 x3 0 S = f_X2_tellsWith_78 k24 x1 x2 x3 0 S := by
  unfold f_X2_tellsWith_39
  by_cases c : x1 ≤ x2
  · rw [if_pos c]
  · rw [if_neg c, if_pos rfl]
theorem in39 {N K : Nat} {es : Nat → Nat} {bd : Nat → Nat → Nat} {S0 : St} (hA : hoA N es bd S0) {n : Nat} {t : Nat → Nat} (hK6 : K ≤ 6) (hn : n ≤ 5) {k24 : Int32 → Int32 → Int32 → St → Option (Int32 × St)} {x3 : Int32} : ∀ G m (S : St), n - m + 1 ≤ G → m < n → tlI N K es bd S0 n t m S → ∃ (hb : Bool) (m' : Nat) (S' : St), m < m' ∧ m' ≤ n ∧ g_X2_tellsWith_39 k24 G (nI n) (nI m) x3 1 S = f_X2_tellsWith_78 k24 (nI n) (nI m') x3 (b2 hb) S' ∧ tlI N K es bd S0 n t m' S' ∧ tlF S S' ∧ ((hb = true ∧ m' = n ∧ ¬ HopT N K es bd t n 0) ∨ (hb = false ∧ HopT N K es bd t m' (n - m'))) := by
  intro G
  have hN := hA.1
  induction G with
  | zero => intro m S h; omega
  | succ G ih =>
    intro m S hG hm hI
    obtain ⟨i1, i2, i3, i4, i5, i6⟩ := hI
    obtain ⟨S1, a1, a2, a3⟩ := makeTurn_eq hA (show m < 5 by omega) hK6 (i6 m hm) i1 i2 (i4 m (by omega)) (i5 m hm)
    have hI1 : tlI N K es bd S0 n t (m + 1) S1 := ⟨gF_fr i1 (fun c i u => a3 c i (by omega) (by omega) (by omega) (by omega)), hoK_fr i2 (fun c i u => a3 c i (by omega) (by omega) (by omega) (by omega)), fun d hd p hp => by rw [a3 36 _ (by omega) (by omega) (by omega) (by omega)]; exact i3 d hd p hp, fun j hj => by
        by_cases v : j = m + 1
        · subst v; exact a2
        · have r := i4 j (by omega)
          exact ⟨by rw [a3 39 j (by omega) (by omega) (by omega) (by omega)]; exact r.1, fun p hp w => by rw [a3 37 (j * 24 + p) (by omega) (by omega) (by omega) (by omega), a3 38 (j * 24 + p) (by omega) (by omega) (by omega) (by omega)]; exact r.2 p hp w⟩, fun k hk => by rw [a3 35 k (by omega) (by omega) (by omega) (by omega)]; exact i5 k hk, i6⟩
    have hF1 : tlF S S1 := fun c i u1 u2 u3 u4 u5 => a3 c i (by omega) (by omega) (by omega) u4
    obtain ⟨b, b1, b2'⟩ := hop_eq (K := K) (d := n - (m + 1)) (m := m + 1) hN hA.2.2.1 (hA.2.2.2 S1 hI1.1).1 (by omega) (by omega) a2 (hI1.2.2.1 (n - (m + 1)) (by omega))
    have eg : g_X2_tellsWith_39 k24 (G + 1) (nI n) (nI m) x3 1 S = (if b2 b = 0 then g_X2_tellsWith_39 k24 G (nI n) (nI (m + 1)) x3 1 S1 else g_X2_tellsWith_39 k24 G (nI n) (nI (m + 1)) x3 0 S1) := by
      show f_X2_tellsWith_39 k24 (g_X2_tellsWith_39 k24 G) (nI n) (nI m) x3 1 S = _
      unfold f_X2_tellsWith_39
      rw [if_neg (fun u => by have := (nI_leI (by omega) (by omega)).mp u; omega), if_neg (by decide), a1]
      simp only [bV_some]
      rw [lt_v, nI_1, pk_sub (by omega), b1]
      simp only [bI_some]
    rw [eg]
    obtain ⟨G', rfl⟩ : ∃ g, G = g + 1 := ⟨G - 1, by omega⟩
    cases b
    · rw [if_pos b2_f]
      have hno : ¬ HopT N K es bd t (m + 1) (n - (m + 1)) := fun u => by have := b2'.mpr u; cases this
      by_cases c : m + 1 = n
      · refine ⟨true, m + 1, S1, by omega, by omega, ?_, hI1, hF1, Or.inl ⟨rfl, c, ?_⟩⟩
        · show f_X2_tellsWith_39 k24 (g_X2_tellsWith_39 k24 G') (nI n) (nI (m + 1)) x3 1 S1 = _
          unfold f_X2_tellsWith_39
          rw [if_pos ((nI_leI (by omega) (by omega)).mpr (by omega))]; rfl
        · rw [c, Nat.sub_self] at hno; exact hno
      · obtain ⟨hb, m', S', c1, c2, c3, c4, c5, c6⟩ := ih (m + 1) S1 (by omega) (by omega) hI1
        exact ⟨hb, m', S', by omega, c2, c3, c4, fun c i u1 u2 u3 u4 u5 => by rw [c5 c i u1 u2 u3 u4 u5, hF1 c i u1 u2 u3 u4 u5], c6⟩
    · rw [if_neg (by decide)]
      exact ⟨false, m + 1, S1, by omega, by omega, f78_eq, hI1, hF1, Or.inr ⟨rfl, b2'.mp rfl⟩⟩
theorem hop_no {N K : Nat} {es : Nat → Nat} {bd : Nat → Nat → Nat} (hc : ∀ p k, p < N → bd p k < N) {n m : Nat} {t : Nat → Nat} (hm : m ≤ n) (ht : dgs K t n) (hinv : ∀ u, dgs K u n → cod K u n < cod K t n → ¬ TelT N es bd u n) (hh : HopT N K es bd t m (n - m)) : ∀ u, dgs K u n → cod K u m ≤ cod K t m → ¬ TelT N es bd u n := by
  intro u hu hl
  obtain ⟨d, rfl⟩ : ∃ d, n = m + d := ⟨n - m, by omega⟩
  rw [Nat.add_sub_cancel_left] at hh
  by_cases c : cod K u m < cod K t m
  · apply hinv u hu
    have h1 := (cod_up d hu).2
    have h2 := (cod_up d ht).1
    have h3 := Nat.mul_le_mul_right (K ^ d) (show cod K u m + 1 ≤ cod K t m from c)
    omega
  · have e := cod_inj m (fun i hi => hu i (by omega)) (fun i hi => ht i (by omega)) (show cod K u m = cod K t m by omega)
    obtain ⟨p, q, h1, h2, h3, h4⟩ := hh
    exact TelT_no (show p < N by omega) h2 (by omega) (prunT hc (show p < N by omega) h2 h3 h4 e hu)
theorem tel_of {N K : Nat} {es : Nat → Nat} {bd : Nat → Nat → Nat} {n : Nat} {t : Nat → Nat} (h : ¬ HopT N K es bd t n 0) : TelT N es bd t n := fun p q hp hq => by
  cases w : smT es bd t n p q
  · rfl
  · have w2 := smT_sym w
    exact absurd ⟨q, p, hq, hp, w2, by show (es _ == es _) = true; rw [(smT_iff n).mp w2 n (by omega)]; simp⟩ h
theorem roT_cg {N : Nat} {es : Nat → Nat} {bd : Nat → Nat → Nat} (hc : ∀ p k, p < N → bd p k < N) {t u : Nat → Nat} {m : Nat} {S : St} (h : roT N es bd t m S) (e : ∀ i, i < m → t i = u i) : roT N es bd u m S := by
  have e2 : ∀ i, i < m → ∀ p, p < N → bd p (t i) = bd p (u i) := fun i hi p _ => by rw [e i hi]
  have eb : ∀ p, p < N → bset (fun q => smT es bd t m p q) N = bset (fun q => smT es bd u m p q) N := fun p hp => bset_cong (fun q hq => smT_eq hc hp hq e2)
  have eu : ∀ p, p < N → unT N es bd t m p = unT N es bd u m p := fun p hp => by unfold unT; rw [eb p hp]
  refine ⟨by rw [← bset_cong (fun p hp => eu p hp)]; exact h.1, fun p hp w => ?_⟩
  rw [← eb p hp, ← goT_eq hc hp m e2]
  exact h.2 p hp (by rw [eu p hp]; exact w)
