/-! ===== the reference takes a token, whole ===== -/
theorem numM_loop {w : Nat → Nat} {n q : Nat} : ∀ (m k : Nat) (S : St), n - (q + k) < m → q + k ≤ n → (∀ i, i < k → isD (w (q + i)) = true) → txM S w n → rd S 0 24 = nI (q + k) → rd S 0 26 = nI (capv 999 w q k) → g_X10_take_219 m S = some (up (up S 0 26 (nI (capv 999 w q (rnn isD w n (q + k) - q)))) 0 24 (nI (rnn isD w n (q + k)))) := by
  intro m
  induction m with
  | zero => intro k S h; omega
  | succ m ih =>
    intro k S h1 h2 hd hx hp hv
    have hx' := hx
    obtain ⟨t1, t2, t3, t4⟩ := hx
    have hcl := capv_le (c := 999) (w := w) (p := q) k (fun i hi => by have := hd i hi; unfold isD at this; simp at this; omega)
    show f_X10_take_219 (g_X10_take_219 m) S = _
    unfold f_X10_take_219 f_X10_take_268
    rw [hp, digM_eq hx' h2]
    simp only [bI_some, b2_0]
    have stop : rnn isD w n (q + k) = q + k → some S = some (up (up S 0 26 (nI (capv 999 w q (rnn isD w n (q + k) - q)))) 0 24 (nI (rnn isD w n (q + k)))) := by
      intro e
      rw [e, show q + k - q = k by omega, up_self hv, up_self hp]
    by_cases u : q + k = n
    · rw [if_pos (by simp; omega)]; exact stop (rnn_stop h2 (fun z => by omega))
    · obtain ⟨u1, u2⟩ := t3 (q + k) (by omega)
      cases v : isD (w (q + k))
      · rw [if_pos (by simp)]; exact stop (rnn_stop h2 (fun _ => v))
      · rw [if_neg (by simp; omega)]
        simp (disch := omega) only [hp, ck_nI, nI_clamp, u2, hv, l_999, nI_leI, lt, nI_1, l_10, pk_mul, nI_add, rd_ne]
        have hk57 : 48 ≤ w (q + k) ∧ w (q + k) ≤ 57 := by unfold isD at v; simp at v; exact v
        have hd' : ∀ i, i < k + 1 → isD (w (q + i)) = true := by
          intro i hi
          by_cases z : i = k
          · subst z; exact v
          · exact hd i (by omega)
        have hst := rnn_step (f := isD) (w := w) (show q + k < n by omega) v
        have hcv : capv 999 w q (k + 1) = if capv 999 w q k ≤ 999 then 10 * capv 999 w q k + (w (q + k) - 48) else capv 999 w q k := rfl
        have go : ∀ V : Int32, V = nI (capv 999 w q (k + 1)) → g_X10_take_219 m (up (up S 0 26 V) 0 24 (nI (q + k + 1))) = some (up (up S 0 26 (nI (capv 999 w q (rnn isD w n (q + k) - q)))) 0 24 (nI (rnn isD w n (q + k)))) := by
          intro V hV
          have e := ih (k + 1) (up (up S 0 26 V) 0 24 (nI (q + k + 1))) (by omega) (by omega) hd' (txM_fr hx' (fun c i z => by rw [rd_ne (by omega), rd_ne (by omega)])) (rd_same _ _ _ _) (by rw [rd_ne (by omega), rd_same]; exact hV)
          rw [e, show q + (k + 1) = q + k + 1 by omega, ← hst]
          congr 1
          refine Prod.ext (funext fun a => funext fun i => ?_) rfl
          show rd _ a i = rd _ a i
          by_cases y1 : a = 0 ∧ i = 24
          · obtain ⟨rfl, rfl⟩ := y1; simp (disch := omega) only [rd_ne, rd_same]
          · by_cases y2 : a = 0 ∧ i = 26
            · obtain ⟨rfl, rfl⟩ := y2; simp (disch := omega) only [rd_ne, rd_same]
            · simp (disch := omega) only [rd_ne]
        by_cases z : capv 999 w q k ≤ 999
        · rw [if_pos z]
          rw [if_pos z] at hcv
          refine go _ ?_
          rw [show (48 : Int32) = nI 48 from rfl, pk_sub (by omega), hcv]
          exact congrArg nI (by omega)
        · rw [if_neg z]
          rw [if_neg z] at hcv
          exact go _ (by rw [hcv])
def tkM (w : Nat → Nat) (n q : Nat) (T T' : St) : Prop := rd T' 0 24 = nI (tkE w n q) ∧ rd T' 0 27 = nI q ∧ rd T' 0 25 = nI (knM (tkK w n q)) ∧ ((tkK w n q = 1 ∨ tkK w n q = 2) → rd T' 0 26 = nI (tkV w n q)) ∧ (tkK w n q = 3 → rd T' 0 26 = nI (capv 999 w q (rnn isD w n q - q))) ∧ ((tkK w n q = 4 ∨ tkK w n q = 5 ∨ tkK w n q = 6) → rd T' 0 26 = nI (w q)) ∧ rdL T' = rdL T ∧ ∀ c i, (c ≠ 0 ∨ (i ≠ 24 ∧ i ≠ 25 ∧ i ≠ 26 ∧ i ≠ 27)) → rd T' c i = rd T c i
theorem letM_loop {w : Nat → Nat} {n q : Nat} {Q : St → Prop} : ∀ (m p : Nat) (S : St), n - p < m → q ≤ p → p ≤ n → txM S w n → rd S 0 24 = nI p → rd S 0 27 = nI q → (∀ S', S' = up S 0 24 (nI (rnn isL w n p)) → Wp (if nI (rnn isL w n p - q) = 1 then lt (up S' 0 26 (rd S' 1 q - 97)) fun S12 => if 4 ≤ rd S12 0 26 then lt (up S12 0 25 5) fun S14 => some S14 else lt (up S12 0 25 1) fun S15 => some S15
      else bI (m_X10_wordAt (nI q) (nI (rnn isL w n p)) S') fun r6 S5 => lt (up S5 0 26 r6) fun S7 => if 0 ≤ rd S7 0 26 then lt (up S7 0 25 2) fun S9 => some S9 else lt (up S7 0 25 5) fun S10 => some S10) Q) → Wp (g_X10_take_90 m S) Q := by
  intro m
  induction m with
  | zero => intro p S h; omega
  | succ m ih =>
    intro p S h1 hqp h2 hx hp hq hQ
    have hx' := hx
    obtain ⟨t1, t2, t3, t4⟩ := hx
    show Wp (f_X10_take_90 (g_X10_take_90 m) S) Q
    unfold f_X10_take_90
    rw [hp, small_eq hx' h2]
    simp only [bI_some, b2_0]
    have stop : rnn isL w n p = p → Wp (if (rd S 0 24) - (rd S 0 27) = 1 then ck (rd S 0 27) 300 (lt (up S 0 26 ((rd S 1 (rd S 0 27).toNatClampNeg) - 97)) fun S12 => if 4 ≤ (rd S12 0 26) then lt (up S12 0 25 5) fun S14 => some S14 else lt (up S12 0 25 1) fun S15 => some S15) else bI (m_X10_wordAt (rd S 0 27) (rd S 0 24) S) fun r6 S5 => lt (up S5 0 26 r6) fun S7 => if 0 ≤ (rd S7 0 26) then lt (up S7 0 25 2) fun S9 => some S9 else lt (up S7 0 25 5) fun S10 => some S10) Q := by
      intro e
      have hh := hQ S (by rw [e, up_self hp])
      rw [e] at hh
      rw [hp, hq, pk_sub hqp]
      by_cases z : nI (p - q) = 1
      · rw [if_pos z] at hh ⊢
        have : p - q = 1 := by rw [show (1 : Int32) = nI 1 from rfl, nI_eq (by omega) (by omega)] at z; exact z
        rw [ck_nI (by omega) (by omega), nI_clamp (by omega)]; exact hh
      · rw [if_neg z] at hh ⊢; exact hh
    by_cases u : p = n
    · rw [if_pos (by simp; omega)]; exact stop (rnn_stop h2 (fun z => by omega))
    · cases v : isL (w p)
      · rw [if_pos (by simp)]; exact stop (rnn_stop h2 (fun _ => v))
      · rw [if_neg (by simp; omega)]
        simp only [lt, hp, nI_1]
        refine ih (p + 1) _ (by omega) (by omega) (by omega) (txM_fr hx' (fun c i z => rd_ne (by omega))) (rd_same _ _ _ _) (by rw [rd_ne (by omega)]; exact hq) (fun S' hS' => ?_)
        rw [← rnn_step (f := isL) (w := w) (show p < n by omega) v, up_up] at hS'
        rw [← rnn_step (f := isL) (w := w) (show p < n by omega) v]
        exact hQ S' hS'
theorem takeM {w : Nat → Nat} {n p : Nat} {T : St} (hx : txM T w n) (hp : p ≤ n) (h4 : rd T 0 24 = nI p) : Wp (m_X10_take T) (tkM w n (rnn isB w n p) T) := by
  have hn : n ≤ 300 := hx.1
  obtain ⟨r1, r2, r3, r4⟩ := rnn_ok (f := isB) (w := w) hp
  unfold m_X10_take
  rw [skipM fuel p T (by unfold fuel; omega) hp hx h4]
  generalize hQ : rnn isB w n p = q at *
  unfold f_X10_take_52
  simp (disch := omega) only [lt, rd_same, rd_ne, hx.2.1, nI_eq]
  generalize hS1 : up (up T 0 24 (nI q)) 0 27 (nI q) = S1
  have f1 : ∀ c i, (c ≠ 0 ∨ (i ≠ 24 ∧ i ≠ 27)) → rd S1 c i = rd T c i := fun c i y => by rw [← hS1]; simp (disch := omega) only [rd_ne]
  have fL : rdL S1 = rdL T := by rw [← hS1]; rfl
  have f4 : rd S1 0 24 = nI q := by rw [← hS1]; simp (disch := omega) only [rd_ne, rd_same]
  have f7 : rd S1 0 27 = nI q := by rw [← hS1]; simp (disch := omega) only [rd_same]
  have hx1 : txM S1 w n := txM_fr hx (fun c i y => f1 c i (by omega))
  by_cases c0 : q = n
  · rw [if_pos c0, Wp_some]
    have kk : tkK w n q = 0 := by unfold tkK; rw [if_pos c0]
    have ee : tkE w n q = q := by unfold tkE; rw [if_pos c0, c0]
    refine ⟨?_, ?_, ?_, fun y => by omega, fun y => by omega, fun y => by omega, fL, fun c i y => ?_⟩
    · rw [ee, rd_ne (by omega)]; exact f4
    · rw [rd_ne (by omega)]; exact f7
    · rw [rd_same, kk]; rfl
    · rw [rd_ne (by omega)]; exact f1 c i (by omega)
  · rw [if_neg c0, small_eq hx1 (by omega)]
    have hqn : q < n := by omega
    obtain ⟨u1, u2⟩ := hx.2.2.1 q hqn
    have u3 : rd S1 1 q = nI (w q) := by rw [f1 1 q (by omega)]; exact u2
    simp only [bI_some, b2_0, hqn, decide_true, Bool.true_and]
    by_cases cL : isL (w q) = true
    · have aL := isL_in cL
      rw [if_neg (by simp [cL])]
      obtain ⟨s1, s2, s3, s4⟩ := rnn_ok (f := isL) (w := w) (show q ≤ n by omega)
      have kk : tkK w n q = kLt w n q := by unfold tkK kLt; rw [if_neg c0, if_pos cL]
      have vv : tkV w n q = vLt w n q := by unfold tkV vLt; rw [if_pos cL]
      have ee : tkE w n q = rnn isL w n q := by unfold tkE; rw [if_neg c0, if_pos cL]
      refine letM_loop fuel q S1 (by unfold fuel; omega) (Nat.le_refl _) (by omega) hx1 f4 f7 (fun S' hS' => ?_)
      generalize hE : rnn isL w n q = E at *
      have g1 : ∀ c i, (c ≠ 0 ∨ (i ≠ 24 ∧ i ≠ 27)) → rd S' c i = rd T c i := fun c i y => by rw [hS', rd_ne (by omega), f1 c i (by omega)]
      have g4 : rd S' 0 24 = nI E := by rw [hS', rd_same]
      have g7 : rd S' 0 27 = nI q := by rw [hS', rd_ne (by omega)]; exact f7
      have gL : rdL S' = rdL T := by rw [hS', rdL_up]; exact fL
      have hxS : txM S' w n := txM_fr hx (fun c i y => g1 c i (by omega))
      have hc1 : (nI (E - q) = 1) ↔ E = q + 1 := by rw [show (1 : Int32) = nI 1 from rfl, nI_eq (by omega) (by omega)]; omega
      have fin : ∀ (K V : Nat) (Y : Int32), K = kLt w n q → (K = 1 ∨ K = 2 → Y = nI (vLt w n q)) → (K = 1 ∨ K = 2 ∨ K = 7) → tkM w n q T (up (up S' 0 26 Y) 0 25 (nI (knM K))) := by
        intro K V Y hK hV hK2
        refine ⟨?_, ?_, ?_, fun y => ?_, fun y => by omega, fun y => by omega, gL, fun c i y => ?_⟩
        · rw [ee]; simp (disch := omega) only [rd_ne]; exact g4
        · simp (disch := omega) only [rd_ne]; exact g7
        · rw [kk, ← hK, rd_same]
        · rw [vv]; simp (disch := omega) only [rd_ne, rd_same]; exact hV (by omega)
        · simp (disch := omega) only [rd_ne]; exact g1 c i (by omega)
      by_cases c1 : E = q + 1
      · rw [if_pos (hc1.mpr c1), g1 1 q (by omega), u2]
        have vL : vLt w n q = w q - 97 := by unfold vLt; rw [hE, if_pos c1]
        simp (disch := omega) only [lt, l_97, pk_sub, rd_same, l_4, nI_leI]
        by_cases c2 : w q < 101
        · rw [if_neg (by omega), Wp_some]
          have kL : kLt w n q = 1 := by unfold kLt; rw [hE, if_pos c1, if_pos c2]
          exact fin 1 0 _ kL.symm (fun _ => by rw [vL]) (by omega)
        · rw [if_pos (by omega), Wp_some]
          have kL : kLt w n q = 7 := by unfold kLt; rw [hE, if_pos c1, if_neg c2]
          exact fin 7 0 _ kL.symm (fun y => by omega) (by omega)
      · rw [if_neg (fun z => c1 (hc1.mp z)), word_eq hxS s1 s2]
        simp only [bI_some, lt, rd_same]
        have vL : vLt w n q = wdx w q E := by unfold vLt; rw [hE, if_neg c1]
        by_cases c2 : wdx w q E < 3
        · rw [if_pos c2, if_pos (nI_pos' (by omega)), Wp_some]
          have kL : kLt w n q = 2 := by unfold kLt; rw [hE, if_neg c1, if_pos c2]
          exact fin 2 0 _ kL.symm (fun _ => by rw [vL]) (by omega)
        · rw [if_neg c2, if_neg (by decide), Wp_some]
          have kL : kLt w n q = 7 := by unfold kLt; rw [hE, if_neg c1, if_neg c2]
          exact fin 7 0 _ kL.symm (fun y => by omega) (by omega)
    · have cL' : isL (w q) = false := by simpa using cL
      rw [if_pos cL', f4, digM_eq hx1 (by omega)]
      simp only [bI_some, b2_0, hqn, decide_true, Bool.true_and]
      by_cases cD : isD (w q) = true
      · rw [if_neg (by simp [cD])]
        have e := numM_loop (w := w) (n := n) (q := q) fuel 0 (up (up S1 0 25 3) 0 26 0) (by unfold fuel; omega) (by omega) (fun i hi => by omega) (txM_fr hx1 (fun c i y => by rw [rd_ne (by omega), rd_ne (by omega)])) (by simp (disch := omega) only [rd_ne]; exact f4) (by rw [rd_same]; rfl)
        rw [e, Wp_some, Nat.add_zero]
        have kk : tkK w n q = 3 := by unfold tkK; rw [if_neg c0, if_neg cL, if_pos cD]
        have ee : tkE w n q = rnn isD w n q := by unfold tkE; rw [if_neg c0, if_neg cL, if_pos cD]
        refine ⟨?_, ?_, ?_, fun y => by omega, fun _ => ?_, fun y => by omega, fL, fun c i y => ?_⟩
        · rw [ee, rd_same]
        · simp (disch := omega) only [rd_ne]; exact f7
        · rw [kk]; simp (disch := omega) only [rd_ne, rd_same]; rfl
        · simp (disch := omega) only [rd_ne, rd_same]
        · simp (disch := omega) only [rd_ne]; exact f1 c i (by omega)
      · have cD' : isD (w q) = false := by simpa using cD
        rw [if_pos cD', f4]
        unfold f_X10_take_325 f_X10_take_330
        simp (disch := omega) only [ck_nI, nI_clamp, u3, rd_same, rd_ne, l_58, l_59, l_124, nI_eq, f4, nI_1, lt]
        have ee : tkE w n q = q + 1 := by unfold tkE; rw [if_neg c0, if_neg cL, if_neg cD]
        have fin : ∀ (Y : Int32), Y = nI (knM (tkK w n q)) → tkK w n q ≠ 1 ∧ tkK w n q ≠ 2 ∧ tkK w n q ≠ 3 → Wp (some (up (up (up S1 0 26 (nI (w q))) 0 25 Y) 0 24 (nI (q + 1)))) (tkM w n q T) := by
          intro Y hY hkk
          rw [Wp_some]
          refine ⟨?_, ?_, ?_, fun y => by omega, fun y => by omega, fun _ => ?_, fL, fun c i y => ?_⟩
          · rw [ee, rd_same]
          · simp (disch := omega) only [rd_ne]; exact f7
          · simp (disch := omega) only [rd_ne, rd_same]; exact hY
          · simp (disch := omega) only [rd_ne, rd_same]
          · simp (disch := omega) only [rd_ne]; exact f1 c i (by omega)
        have tk0 : tkK w n q = if w q = 58 then 4 else if w q = 124 then 5 else if w q = 59 then 6 else 7 := by unfold tkK; rw [if_neg c0, if_neg cL, if_neg cD]
        by_cases t1 : w q = 58
        · rw [if_pos t1]; rw [if_pos t1] at tk0; exact fin _ (by rw [tk0]; rfl) (by omega)
        · rw [if_neg t1]; rw [if_neg t1] at tk0
          by_cases t2 : w q = 124
          · rw [if_pos t2]; rw [if_pos t2] at tk0; exact fin _ (by rw [tk0]; rfl) (by omega)
          · rw [if_neg t2]; rw [if_neg t2] at tk0
            by_cases t3 : w q = 59
            · rw [if_pos t3]; rw [if_pos t3] at tk0; exact fin _ (by rw [tk0]; rfl) (by omega)
            · rw [if_neg t3]; rw [if_neg t3] at tk0; exact fin _ (by rw [tk0]; rfl) (by omega)
