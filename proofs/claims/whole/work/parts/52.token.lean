/-! ===== tokens ===== -/
def isB (c : Nat) : Bool := decide (c = 10) || decide (c = 32)
def isL (c : Nat) : Bool := decide (97 ≤ c) && decide (c ≤ 122)
def isD (c : Nat) : Bool := decide (48 ≤ c) && decide (c ≤ 57)
def rnn (f : Nat → Bool) (w : Nat → Nat) (n p : Nat) : Nat := p + fa_first (fun k => !f (w (p + k))) (n - p)
theorem rnn_ok {f : Nat → Bool} {w : Nat → Nat} {n p : Nat} (hp : p ≤ n) : p ≤ rnn f w n p ∧ rnn f w n p ≤ n ∧ (∀ i, p ≤ i → i < rnn f w n p → f (w i) = true) ∧ (rnn f w n p < n → f (w (rnn f w n p)) = false) := by
  have h1 := fa_first_le (fun k => !f (w (p + k))) (n - p)
  unfold rnn
  refine ⟨by omega, by omega, fun i hi hi2 => ?_, fun h => ?_⟩
  · have := fa_first_no (fun k => !f (w (p + k))) (n - p) (i - p) (by omega)
    rw [show p + (i - p) = i by omega] at this
    simpa using this
  · have := fa_first_yes (fun k => !f (w (p + k))) (n - p) (by omega)
    simpa using this
theorem rnn_step {f : Nat → Bool} {w : Nat → Nat} {n p : Nat} (hp : p < n) (h : f (w p) = true) : rnn f w n p = rnn f w n (p + 1) := by
  obtain ⟨a1, a2, a3, a4⟩ := rnn_ok (f := f) (w := w) (show p ≤ n by omega)
  obtain ⟨b1, b2, b3, b4⟩ := rnn_ok (f := f) (w := w) (show p + 1 ≤ n by omega)
  have hne : rnn f w n p ≠ p := fun e => by have := a4 (by omega); rw [e, h] at this; cases this
  rcases Nat.lt_trichotomy (rnn f w n p) (rnn f w n (p + 1)) with q | q | q
  · have e1 := b3 (rnn f w n p) (by omega) q
    have e2 := a4 (by omega)
    rw [e1] at e2; cases e2
  · exact q
  · have e1 := a3 (rnn f w n (p + 1)) (by omega) q
    have e2 := b4 (by omega)
    rw [e1] at e2; cases e2
theorem rnn_stop {f : Nat → Bool} {w : Nat → Nat} {n p : Nat} (hp : p ≤ n) (h : p < n → f (w p) = false) : rnn f w n p = p := by
  obtain ⟨a1, a2, a3, a4⟩ := rnn_ok (f := f) (w := w) hp
  rcases Nat.lt_or_ge p (rnn f w n p) with q | q
  · have e1 := a3 p (Nat.le_refl _) q
    rw [h (by omega)] at e1; cases e1
  · omega
def capv (c : Nat) (w : Nat → Nat) (p : Nat) : Nat → Nat
  | 0 => 0
  | k + 1 => if capv c w p k ≤ c then 10 * capv c w p k + (w (p + k) - 48) else capv c w p k
theorem capv_le {c : Nat} {w : Nat → Nat} {p : Nat} : ∀ k, (∀ i, i < k → w (p + i) ≤ 57) → capv c w p k ≤ 10 * c + 9
  | 0, _ => by simp [capv]
  | k + 1, h => by
    have ih := capv_le (c := c) (w := w) (p := p) k (fun i hi => h i (by omega))
    have hk := h k (by omega)
    show (if capv c w p k ≤ c then 10 * capv c w p k + (w (p + k) - 48) else capv c w p k) ≤ _
    split <;> omega
theorem capv_both {w : Nat → Nat} {p : Nat} : ∀ k, (capv 9 w p k ≤ 9 ∧ capv 999 w p k = capv 9 w p k) ∨ (9 < capv 9 w p k ∧ 9 < capv 999 w p k)
  | 0 => Or.inl ⟨by simp [capv], rfl⟩
  | k + 1 => by
    show ((if capv 9 w p k ≤ 9 then 10 * capv 9 w p k + (w (p + k) - 48) else capv 9 w p k) ≤ 9 ∧ (if capv 999 w p k ≤ 999 then 10 * capv 999 w p k + (w (p + k) - 48) else capv 999 w p k) = (if capv 9 w p k ≤ 9 then 10 * capv 9 w p k + (w (p + k) - 48) else capv 9 w p k)) ∨ (9 < (if capv 9 w p k ≤ 9 then 10 * capv 9 w p k + (w (p + k) - 48) else capv 9 w p k) ∧ 9 < (if capv 999 w p k ≤ 999 then 10 * capv 999 w p k + (w (p + k) - 48) else capv 999 w p k))
    rcases capv_both (w := w) (p := p) k with ⟨a, b⟩ | ⟨a, b⟩
    · rw [b, if_pos a, if_pos (by omega)]
      omega
    · rw [if_neg (show ¬ capv 9 w p k ≤ 9 by omega)]
      right
      refine ⟨a, ?_⟩
      split <;> omega
def wdx (w : Nat → Nat) (q e : Nat) : Nat :=
  if e = q + 4 then
    (if w q = 115 ∧ w (q + 1) = 116 ∧ w (q + 2) = 97 ∧ w (q + 3) = 121 then 0
     else if w q = 116 ∧ w (q + 1) = 97 ∧ w (q + 2) = 107 ∧ w (q + 3) = 101 then 1
     else if w q = 100 ∧ w (q + 1) = 114 ∧ w (q + 2) = 111 ∧ w (q + 3) = 112 then 2 else 3)
  else 3
/-- a token at q: its kind (0 the end, 1 letter, 2 word, 3 number, 4 : 5 | 6 ; 7 none), its value, where it ends -/
def tkE (w : Nat → Nat) (n q : Nat) : Nat := if q = n then n else if isL (w q) then rnn isL w n q else if isD (w q) then rnn isD w n q else q + 1
def tkK (w : Nat → Nat) (n q : Nat) : Nat :=
  if q = n then 0 else if isL (w q) then (if rnn isL w n q = q + 1 then (if w q < 101 then 1 else 7) else if wdx w q (rnn isL w n q) < 3 then 2 else 7)
  else if isD (w q) then 3 else if w q = 58 then 4 else if w q = 124 then 5 else if w q = 59 then 6 else 7
def tkV (w : Nat → Nat) (n q : Nat) : Nat := if isL (w q) then (if rnn isL w n q = q + 1 then w q - 97 else wdx w q (rnn isL w n q)) else capv 9 w q (rnn isD w n q - q)
def bitK (k : Nat) : Nat := if k = 7 then 0 else if k = 0 then 1 else if k = 1 then 2 else if k = 2 then 8 else if k = 3 then 4 else if k = 4 then 16 else if k = 5 then 32 else 64
def knM (k : Nat) : Nat := if k ≤ 3 then k else if k ≤ 6 then 4 else 5
theorem up_up (S : St) (k i : Nat) (u v : Int32) : up (up S k i u) k i v = up S k i v := by
  unfold up
  refine Prod.ext (funext fun a => ?_) rfl
  by_cases q : a = k
  · subst q
    show (if a = a then upd (if a = a then upd (S.1 a) i u else S.1 a) i v else _) = (if a = a then upd (S.1 a) i v else S.1 a)
    rw [if_pos rfl, if_pos rfl, if_pos rfl]; exact fa_upd_twice _ _ _ _
  · show (if a = k then _ else (if a = k then _ else S.1 a)) = (if a = k then _ else S.1 a)
    rw [if_neg q, if_neg q, if_neg q]
theorem up_self {S : St} {k i : Nat} {v : Int32} (h : rd S k i = v) : up S k i v = S := by
  unfold up
  refine Prod.ext (funext fun a => ?_) rfl
  by_cases q : a = k
  · subst q
    show (if a = a then upd (S.1 a) i v else S.1 a) = S.1 a
    rw [if_pos rfl]; exact fa_upd_same h
  · show (if a = k then _ else S.1 a) = S.1 a
    rw [if_neg q]
theorem blank_eq {c : Nat} (S : St) (hc : c < 256) : m_X3_isBlank (nI c) S = some (b2 (isB c), S) := by
  unfold m_X3_isBlank f_X3_isBlank_0 isB
  simp (disch := omega) only [l_10, l_32, nI_eq]
  by_cases q : c = 10
  · simp [q, b2]
  · by_cases u : c = 32
    · simp [u, b2]
    · simp [q, u, b2]
theorem digit_eq {c : Nat} (S : St) (hc : c < 256) : m_X3_isDigit (nI c) S = some (b2 (isD c), S) := by
  unfold m_X3_isDigit f_X3_isDigit_0 isD
  simp (disch := omega) only [l_57, show (48 : Int32) = nI 48 from rfl, nI_ltI]
  by_cases q : c < 48
  · rw [if_pos q, show decide (48 ≤ c) = false by simp; omega]; rfl
  · rw [if_neg q, show decide (48 ≤ c) = true by simp; omega]
    by_cases u : 57 < c
    · rw [if_pos u, show decide (c ≤ 57) = false by simp; omega]; rfl
    · rw [if_neg u, show decide (c ≤ 57) = true by simp; omega]; rfl
theorem letter_eq {c : Nat} (S : St) (hc : c < 256) : m_X3_isLetter (nI c) S = some (b2 (isL c), S) := by
  unfold m_X3_isLetter f_X3_isLetter_0 isL
  simp (disch := omega) only [l_97, l_122, nI_ltI]
  by_cases q : c < 97
  · rw [if_pos q, show decide (97 ≤ c) = false by simp; omega]; rfl
  · rw [if_neg q, show decide (97 ≤ c) = true by simp; omega]
    by_cases u : 122 < c
    · rw [if_pos u, show decide (c ≤ 122) = false by simp; omega]; rfl
    · rw [if_neg u, show decide (c ≤ 122) = true by simp; omega]; rfl
def txX (S : St) (w : Nat → Nat) (n : Nat) : Prop := n ≤ 300 ∧ rd S 3 3 = nI n ∧ ∀ i, i < n → w i < 256 ∧ rd S 2 i = nI (w i)
theorem txX_fr {S S' : St} {w : Nat → Nat} {n : Nat} (h : txX S w n) (hS : ∀ c i, (c = 2 ∨ (c = 3 ∧ i = 3)) → rd S' c i = rd S c i) : txX S' w n := ⟨h.1, by rw [hS 3 3 (by omega)]; exact h.2.1, fun i hi => by rw [hS 2 i (by omega)]; exact h.2.2 i hi⟩
theorem skipX {w : Nat → Nat} {n : Nat} {kd : Int32} : ∀ (m p : Nat) (S : St), n - p < m → p ≤ n → txX S w n → rd S 3 4 = nI p → g_X3_takes_0 m kd S = f_X3_takes_39 kd (up S 3 4 (nI (rnn isB w n p))) := by
  intro m
  induction m with
  | zero => intro p S h; omega
  | succ m ih =>
    intro p S h1 h2 hx hp
    have hx' := hx
    obtain ⟨t1, t2, t3⟩ := hx
    show f_X3_takes_0 (g_X3_takes_0 m) kd S = _
    unfold f_X3_takes_0
    simp (disch := omega) only [t2, hp, nI_leI]
    by_cases q : p = n
    · rw [if_pos (by omega), rnn_stop h2 (fun u => by omega), up_self hp]
    · rw [if_neg (by omega)]
      obtain ⟨u1, u2⟩ := t3 p (by omega)
      simp (disch := omega) only [ck_nI, nI_clamp, u2, blank_eq, bI_some, b2_0, lt, hp, nI_1]
      cases v : isB (w p)
      · rw [if_pos rfl, rnn_stop h2 (fun _ => v), up_self hp]
      · rw [if_neg (by decide), rnn_step (by omega) v]
        have e := ih (p + 1) (up S 3 4 (nI (p + 1))) (by omega) (by omega) (txX_fr hx' (fun c i z => rd_ne (by omega))) (rd_same _ _ _ _)
        rw [e, up_up]
theorem numX_loop {w : Nat → Nat} {n q : Nat} : ∀ (m k : Nat) (S : St), n - (q + k) < m → q + k ≤ n → (∀ i, i < k → isD (w (q + i)) = true) → txX S w n → rd S 3 4 = nI (q + k) → rd S 3 7 = nI (capv 9 w q k) → g_X3_takeNumber_10 m S = some (up (up S 3 7 (nI (capv 9 w q (rnn isD w n (q + k) - q)))) 3 4 (nI (rnn isD w n (q + k)))) := by
  intro m
  induction m with
  | zero => intro k S h; omega
  | succ m ih =>
    intro k S h1 h2 hd hx hp hv
    have hx' := hx
    obtain ⟨t1, t2, t3⟩ := hx
    have hcl := capv_le (c := 9) (w := w) (p := q) k (fun i hi => by have := hd i hi; unfold isD at this; simp at this; omega)
    show f_X3_takeNumber_10 (g_X3_takeNumber_10 m) S = _
    unfold f_X3_takeNumber_10
    simp (disch := omega) only [t2, hp, nI_leI]
    have stop : rnn isD w n (q + k) = q + k → some S = some (up (up S 3 7 (nI (capv 9 w q (rnn isD w n (q + k) - q)))) 3 4 (nI (rnn isD w n (q + k)))) := by
      intro e
      rw [e, show q + k - q = k by omega, up_self hv, up_self hp]
    by_cases u : q + k = n
    · rw [if_pos (by omega)]; exact stop (rnn_stop h2 (fun z => by omega))
    · rw [if_neg (by omega)]
      obtain ⟨u1, u2⟩ := t3 (q + k) (by omega)
      simp (disch := omega) only [ck_nI, nI_clamp, u2, digit_eq, bI_some, b2_0, hv, l_9, nI_ltI, lt, hp, nI_1, l_10, pk_mul, nI_add, rd_ne]
      cases v : isD (w (q + k))
      · rw [if_pos rfl]; exact stop (rnn_stop h2 (fun _ => v))
      · rw [if_neg (by decide)]
        have hk57 : 48 ≤ w (q + k) ∧ w (q + k) ≤ 57 := by unfold isD at v; simp at v; exact v
        have hd' : ∀ i, i < k + 1 → isD (w (q + i)) = true := by
          intro i hi
          by_cases z : i = k
          · subst z; exact v
          · exact hd i (by omega)
        have hst := rnn_step (f := isD) (w := w) (show q + k < n by omega) v
        have hcv : capv 9 w q (k + 1) = if capv 9 w q k ≤ 9 then 10 * capv 9 w q k + (w (q + k) - 48) else capv 9 w q k := rfl
        by_cases z : 9 < capv 9 w q k
        · rw [if_pos z]
          rw [if_neg (show ¬ capv 9 w q k ≤ 9 by omega)] at hcv
          have e := ih (k + 1) (up S 3 4 (nI (q + k + 1))) (by omega) (by omega) hd' (txX_fr hx' (fun c i z => rd_ne (by omega))) (rd_same _ _ _ _) (by rw [rd_ne (by omega), hcv]; exact hv)
          rw [e, show q + (k + 1) = q + k + 1 by omega, ← hst]
          congr 1
          refine Prod.ext (funext fun a => funext fun i => ?_) rfl
          show rd _ a i = rd _ a i
          by_cases y1 : a = 3 ∧ i = 4
          · obtain ⟨rfl, rfl⟩ := y1; simp (disch := omega) only [rd_ne, rd_same]
          · by_cases y2 : a = 3 ∧ i = 7
            · obtain ⟨rfl, rfl⟩ := y2; simp (disch := omega) only [rd_ne, rd_same]
            · simp (disch := omega) only [rd_ne]
        · rw [if_neg z]
          rw [if_pos (show capv 9 w q k ≤ 9 by omega)] at hcv
          have e48 : nI (10 * capv 9 w q k + w (q + k)) - 48 = nI (capv 9 w q (k + 1)) := by
            rw [show (48 : Int32) = nI 48 from rfl, pk_sub (by omega), hcv]; congr 1; omega
          rw [e48]
          have e := ih (k + 1) (up (up S 3 7 (nI (capv 9 w q (k + 1)))) 3 4 (nI (q + k + 1))) (by omega) (by omega) hd' (txX_fr hx' (fun c i z => by rw [rd_ne (by omega), rd_ne (by omega)])) (rd_same _ _ _ _) (by rw [rd_ne (by omega), rd_same])
          rw [e, show q + (k + 1) = q + k + 1 by omega, ← hst]
          congr 1
          refine Prod.ext (funext fun a => funext fun i => ?_) rfl
          show rd _ a i = rd _ a i
          by_cases y1 : a = 3 ∧ i = 4
          · obtain ⟨rfl, rfl⟩ := y1; simp (disch := omega) only [rd_ne, rd_same]
          · by_cases y2 : a = 3 ∧ i = 7
            · obtain ⟨rfl, rfl⟩ := y2; simp (disch := omega) only [rd_ne, rd_same]
            · simp (disch := omega) only [rd_ne]
