/-! ===== help ===== -/
def aB (en ga : Nat → Nat) (N ou b f fk : Nat) (nu de nx : Nat → Nat) (m s : Nat) : Bool := decide (fb_ct (fun p => oB en ga N ou b f fk nu de nx m s p) N = N)
def heF (S0 S : St) : Prop := ∀ c i, c ≠ 25 → (c ≠ 24 ∨ i ≠ 1) → (c ≠ 29 ∨ i ≠ 4) → rd S c i = rd S0 c i
def heL (N : Nat) (S : St) : Prop := ∃ k, rd S 29 4 = nI k ∧ (k < N ∨ N = 0 ∧ k = 0)
section HelpB
variable {J P : Nat} {en ga : Nat → Nat} {ou mk sh b : Nat} {L f fk : Nat} {to : Nat → Bool} {nu de nx : Nat → Nat}
theorem aB_yes {m s : Nat} (h : ∀ p, p < 2 * P → oB en ga (2 * P) ou b f fk nu de nx m s p = true) : aB en ga (2 * P) ou b f fk nu de nx m s = true := decide_eq_true (fb_ct_all.mpr h)
theorem aB_no {m s p : Nat} (hp : p < 2 * P) (h : oB en ga (2 * P) ou b f fk nu de nx m s p = false) : aB en ga (2 * P) ou b f fk nu de nx m s = false := by
  refine decide_eq_false (fun q => ?_)
  have : oB en ga (2 * P) ou b f fk nu de nx m s p = true := fb_ct_all.mp q p hp
  rw [h] at this; cases this
theorem nob_loop (hn : gaN J P en ga ou mk sh b) {S0 : St} (hx : gaX S0 J P en ga ou mk sh b) {r : Nat} (hr : ruN L f fk to nu de nx) (hrx : ruX S0 r L f fk to nu de nx) (hL : 0 < L) (hr1 : r = 16 ∨ r = 20) (hy : rdyX S0 en ga P sh b r) {m cl cs ll : Nat} (hm : m < 2 ^ 8) (hcl : ∀ q, q < 2 * P → cl.testBit q = cs.testBit (sdp en (2 * P) q / 2)) (hll : ll < 2 * P ∨ 2 * P = 0 ∧ ll = 0) :
    ∀ (n i : Nat) (S : St), 2 * P - i < n → i ≤ 2 * P → heF S0 S → heL (2 * P) S → (∀ k, k < i → oB en ga (2 * P) ou b f fk nu de nx m (sh ||| cs) ((ll + k) % (2 * P)) = true) → Wp (g_X1_nobodyIsLost_8 n (nI m) (nI cl) (nI ((ll + i) % (2 * P))) (nI i) S) (fun q => q.1 = b2 (aB en ga (2 * P) ou b f fk nu de nx m (sh ||| cs)) ∧ heF S0 q.2 ∧ heL (2 * P) q.2) := by
  have hP : P ≤ 12 := hn.2.1
  intro n
  induction n with
  | zero => intro i S h; omega
  | succ n ih =>
    intro i S h1 h2 i1 i2 i3
    have hxS : gaX S J P en ga ou mk sh b := gaX_fr hx (fun c i q => i1 c i (by omega) (by omega) (by omega))
    have hrxS : ruX S r L f fk to nu de nx := ruX_fr hrx (fun c i q => i1 c i (by omega) (by omega) (by omega))
    have hyS : rdyX S en ga P sh b r := ⟨by rw [i1 24 4 (by omega) (by omega) (by omega)]; exact hy.1, fun σ hσ => by rw [i1 26 σ (by omega) (by omega) (by omega)]; exact hy.2 σ hσ⟩
    show Wp (f_X1_nobodyIsLost_8 (g_X1_nobodyIsLost_8 n) _ _ _ _ S) _
    unfold f_X1_nobodyIsLost_8
    simp (disch := omega) only [hxS.2.2.1, nI_leI]
    by_cases q : i = 2 * P
    · rw [if_pos (by omega), Wp_some]
      refine ⟨?_, i1, i2⟩
      rw [aB_yes (fun p hp => ?_)]; rfl
      by_cases w : ll ≤ p
      · have := i3 (p - ll) (by omega)
        rw [show ll + (p - ll) = p by omega, Nat.mod_eq_of_lt hp] at this; exact this
      · have := i3 (p + 2 * P - ll) (by omega)
        rw [show ll + (p + 2 * P - ll) = p + 2 * P by omega, Nat.add_mod_right, Nat.mod_eq_of_lt hp] at this; exact this
    · rw [if_neg (by omega), Wp_bI]
      have hml := Nat.mod_lt (ll + i) (show 0 < 2 * P by omega)
      have h0 : okW P to ((ll + i) % (2 * P), f, m) := ⟨hml, (hr.2.2.1 hL).1, (hr.2.2.1 hL).2, hm⟩
      refine Wp_mono (co_eq2 hn hxS hr hrxS hL hr1 hyS (cl := cl) (cs := cs) hml hm hcl) (fun w hw => ?_)
      have hv := co_B hn hr h0 hw
      obtain ⟨c, _, _, _, _, c5, _⟩ := hw
      have i1' : heF S0 w.2 := fun c i a1 a2 a3 => by rw [c5 c i a1 a2]; exact i1 c i a1 a2 a3
      have i2' : heL (2 * P) w.2 := by obtain ⟨k, k1, k2⟩ := i2; exact ⟨k, by rw [c5 29 4 (by omega) (by omega)]; exact k1, k2⟩
      have e62 : rd w.2 6 2 = nI (2 * P) := by rw [c5 6 2 (by omega) (by omega)]; exact hxS.2.2.1
      simp (disch := omega) only [hv, b2_0, e62, lt, nI_1, nI_leI]
      cases u : oB en ga (2 * P) ou b f fk nu de nx m (sh ||| cs) ((ll + i) % (2 * P))
      · rw [if_pos rfl, Wp_some]
        refine ⟨by rw [aB_no hml u]; rfl, fun c i a1 a2 a3 => by rw [rd_ne (by omega)]; exact i1' c i a1 a2 a3, (ll + i) % (2 * P), rd_same _ _ _ _, Or.inl hml⟩
      · rw [if_neg (by decide)]
        have hr' := mod_next (e := ll) (s := i) (show 0 < 2 * P by omega)
        have i3' : ∀ k, k < i + 1 → oB en ga (2 * P) ou b f fk nu de nx m (sh ||| cs) ((ll + k) % (2 * P)) = true := by
          intro k hk
          by_cases v : k = i
          · subst v; exact u
          · exact i3 k (by omega)
        have ihe := ih (i + 1) w.2 (by omega) (by omega) i1' i2' i3'
        by_cases v : 2 * P ≤ (ll + i) % (2 * P) + 1
        · rw [if_pos v]
          have : (ll + (i + 1)) % (2 * P) = 0 := by rw [show ll + (i + 1) = ll + i + 1 by omega, ← hr', show (ll + i) % (2 * P) + 1 = 2 * P by omega, Nat.mod_self]
          rw [this] at ihe; exact ihe
        · rw [if_neg v]
          have : (ll + (i + 1)) % (2 * P) = (ll + i) % (2 * P) + 1 := by rw [show ll + (i + 1) = ll + i + 1 by omega, ← hr', Nat.mod_eq_of_lt (by omega)]
          rw [this] at ihe; exact ihe
/-- with set, marked (w 0) or shut (w 1), all come out -/
def gB (en ga : Nat → Nat) (N ou mk sh b f fk : Nat) (nu de nx : Nat → Nat) (w st : Nat) : Bool := if w = 0 then aB en ga N ou b f fk nu de nx (mk ||| st) sh else aB en ga N ou b f fk nu de nx mk (sh ||| st)
theorem nob_eq (hn : gaN J P en ga ou mk sh b) {S : St} (hx : gaX S J P en ga ou mk sh b) {r : Nat} (hr : ruN L f fk to nu de nx) (hrx : ruX S r L f fk to nu de nx) (hL : 0 < L) (hr1 : r = 16 ∨ r = 20) (hy : rdyX S en ga P sh b r) {m cl cs : Nat} (hm : m < 2 ^ 8) (hcl : ∀ q, q < 2 * P → cl.testBit q = cs.testBit (sdp en (2 * P) q / 2)) (hll : heL (2 * P) S) :
    Wp (m_X1_nobodyIsLost (nI m) (nI cl) S) (fun q => q.1 = b2 (aB en ga (2 * P) ou b f fk nu de nx m (sh ||| cs)) ∧ heF S q.2 ∧ heL (2 * P) q.2) := by
  have hP : P ≤ 12 := hn.2.1
  obtain ⟨k, k1, k2⟩ := hll
  unfold m_X1_nobodyIsLost f_X1_nobodyIsLost_0
  simp only [lt, k1]
  have e := nob_loop hn hx hr hrx hL hr1 hy hm hcl k2 fuel 0 S (by unfold fuel; omega) (by omega) (fun _ _ _ _ _ => rfl) ⟨k, k1, k2⟩ (fun k hk => by omega)
  have : (k + 0) % (2 * P) = k := by
    rcases k2 with q | ⟨q1, q2⟩
    · rw [Nat.add_zero, Nat.mod_eq_of_lt q]
    · rw [q1, q2]
  rw [this] at e
  exact e
theorem sav_eq (hn : gaN J P en ga ou mk sh b) {S : St} (hx : gaX S J P en ga ou mk sh b) {r : Nat} (hr : ruN L f fk to nu de nx) (hrx : ruX S r L f fk to nu de nx) (hL : 0 < L) (hr1 : r = 16 ∨ r = 20) (hy : rdyX S en ga P sh b r) (hll : heL (2 * P) S) {w st : Nat} (hw : w = 0 ∨ w = 1) (hst : st < 2 ^ (if w = 0 then J else P)) :
    Wp (m_X1_saves (nI w) (nI st) S) (fun q => q.1 = b2 (gB en ga (2 * P) ou mk sh b f fk nu de nx w st) ∧ heF S q.2 ∧ heL (2 * P) q.2) := by
  have hJ : J ≤ 8 := hn.1
  have hP : P ≤ 12 := hn.2.1
  have hmk8 : mk < 2 ^ 8 := Nat.lt_of_lt_of_le hn.2.2.2.2.2.2.2.1 (Nat.pow_le_pow_right (by decide) hJ)
  unfold m_X1_saves f_X1_saves_0
  rcases hw with rfl | rfl
  · rw [if_pos rfl] at hst
    rw [if_pos nI_0, hx.2.2.2.2.1, fa_or, Wp_bI]
    have hm8 : mk ||| st < 2 ^ 8 := Nat.or_lt_two_pow hmk8 (Nat.lt_of_lt_of_le hst (Nat.pow_le_pow_right (by decide) hJ))
    refine Wp_mono (nob_eq hn hx hr hrx hL hr1 hy (cl := 0) (cs := 0) hm8 (fun q _ => by simp) hll) (fun q hq => ?_)
    obtain ⟨q1, q2, q3⟩ := hq
    rw [Nat.or_zero] at q1
    unfold ckz
    rw [if_pos (by rw [q1]; exact b2_01 _), Wp_some]
    exact ⟨q1, q2, q3⟩
  · rw [if_neg (by decide)] at hst
    rw [if_neg (by decide), pofp_eq hn hx (Nat.lt_of_lt_of_le hst (Nat.pow_le_pow_right (by decide) (by omega)))]
    simp only [bI_some, hx.2.2.2.2.1, Wp_bI]
    refine Wp_mono (nob_eq hn hx hr hrx hL hr1 hy (cs := st) hmk8 (fun q hq => by rw [bset_tb]; simp [hq]) hll) (fun q hq => ?_)
    obtain ⟨q1, q2, q3⟩ := hq
    unfold ckz
    rw [if_pos (by rw [q1]; exact b2_01 _), Wp_some]
    exact ⟨q1, q2, q3⟩
end HelpB
/-! what help seeks: fr which may be taken, G whether a set does -/
def resP (fr : Nat → Bool) (G : Nat → Bool) (r k0 k1 : Int32) : Prop :=
  (r = nI 1 ∧ ∃ a, a < 12 ∧ fr a = true ∧ G (2 ^ a) = true ∧ (∀ x, x < a → ¬ (fr x = true ∧ G (2 ^ x) = true)) ∧ k0 = nI a) ∨
  (r = nI 2 ∧ (∀ x, ¬ (fr x = true ∧ G (2 ^ x) = true)) ∧ ∃ a c, a < c ∧ c < 12 ∧ fr a = true ∧ fr c = true ∧ G (2 ^ a ||| 2 ^ c) = true ∧ (∀ x y, x < y → (x < a ∨ (x = a ∧ y < c)) → ¬ (fr x = true ∧ fr y = true ∧ G (2 ^ x ||| 2 ^ y) = true)) ∧ k0 = nI a ∧ k1 = nI c) ∨
  (r = -1 ∧ (∀ x, ¬ (fr x = true ∧ G (2 ^ x) = true)) ∧ ∀ x y, x < y → ¬ (fr x = true ∧ fr y = true ∧ G (2 ^ x ||| 2 ^ y) = true))
theorem resP_one {fr G : Nat → Bool} {r k0 k1 r' k0' k1' : Int32} (h : resP fr G r k0 k1) (h' : resP fr G r' k0' k1') : r = r' ∧ (r = nI 1 → k0 = k0') ∧ (r = nI 2 → k0 = k0' ∧ k1 = k1') := by
  rcases h with ⟨e, a, a1, a2, a3, a4, a5⟩ | ⟨e, n1, a, c, a1, a2, a3, a4, a5, a6, a7, a8⟩ | ⟨e, n1, n2⟩ <;> rcases h' with ⟨e', a', b1, b2, b3, b4, b5⟩ | ⟨e', n1', a', c', b1, b2, b3, b4, b5, b6, b7, b8⟩ | ⟨e', n1', n2'⟩
  · have : a = a' := by
      rcases Nat.lt_trichotomy a a' with q | q | q
      · exact absurd ⟨a2, a3⟩ (b4 a q)
      · exact q
      · exact absurd ⟨b2, b3⟩ (a4 a' q)
    subst this
    exact ⟨by rw [e, e'], fun _ => by rw [a5, b5], fun q => absurd (e.symm.trans q) (by decide)⟩
  · exact absurd ⟨a2, a3⟩ (n1' a)
  · exact absurd ⟨a2, a3⟩ (n1' a)
  · exact absurd ⟨b2, b3⟩ (n1 a')
  · have : a = a' ∧ c = c' := by
      rcases Nat.lt_trichotomy a a' with q | q | q
      · exact absurd ⟨a3, a4, a5⟩ (b6 a c a1 (Or.inl q))
      · refine ⟨q, ?_⟩
        rcases Nat.lt_trichotomy c c' with w | w | w
        · exact absurd ⟨a3, a4, a5⟩ (b6 a c a1 (Or.inr ⟨q, w⟩))
        · exact w
        · exact absurd ⟨b3, b4, b5⟩ (a6 a' c' b1 (Or.inr ⟨q.symm, w⟩))
      · exact absurd ⟨b3, b4, b5⟩ (a6 a' c' b1 (Or.inl q))
    obtain ⟨rfl, rfl⟩ := this
    exact ⟨by rw [e, e'], fun q => absurd (e.symm.trans q) (by decide), fun _ => ⟨by rw [a7, b7], by rw [a8, b8]⟩⟩
  · exact absurd ⟨a3, a4, a5⟩ (n2' a c a1)
  · exact absurd ⟨b2, b3⟩ (n1 a')
  · exact absurd ⟨b3, b4, b5⟩ (n2 a' c' b1)
  · exact ⟨by rw [e, e'], fun q => absurd (e.symm.trans q) (by decide), fun q => absurd (e.symm.trans q) (by decide)⟩
/-! the class seeks -/
def skQ (fr G : Nat → Bool) (N : Nat) (S0 : St) (q : Int32 × St) : Prop :=
  ∃ k0 k1, resP fr G q.1 k0 k1 ∧ (∀ c i, c ≠ 25 → (c ≠ 24 ∨ i ≠ 1) → c ≠ 29 → c ≠ 30 → rd q.2 c i = rd S0 c i) ∧ ((q.1 = -1 ∧ rd q.2 29 1 = rd S0 29 1 ∧ ∀ i, rd q.2 30 i = rd S0 30 i) ∨ (q.1 ≠ -1 ∧ rd q.2 29 1 = q.1 ∧ rd q.2 30 0 = k0 ∧ rd q.2 30 1 = k1))
section Seek
variable {fr G : Nat → Bool} {N w all tk : Nat} {S0 : St}
def savH (G : Nat → Bool) (N w all : Nat) (S0 : St) : Prop := ∀ st S, st < 2 ^ all → heF S0 S → heL N S → Wp (m_X1_saves (nI w) (nI st) S) (fun q => q.1 = b2 (G st) ∧ heF S0 q.2 ∧ heL N q.2)
theorem sk_2in (hs : savH G N w all S0) (hall : all ≤ 12) (hfr : ∀ a, fr a = (decide (a < all) && !tk.testBit a)) (htk : tk < 2 ^ 32) (hno : ∀ x, ¬ (fr x = true ∧ G (2 ^ x) = true)) {a : Nat} (ha : a < all) {k114 : Int32 → Int32 → Int32 → Int32 → St → Option (Int32 × St)}
    (hk : ∀ S, heF S0 S → heL N S → (∀ x y, x < y → x < a + 1 → ¬ (fr x = true ∧ fr y = true ∧ G (2 ^ x ||| 2 ^ y) = true)) → Wp (k114 (nI w) (nI all) (nI tk) (nI (a + 1)) S) (skQ fr G N S0)) :
    ∀ (n c : Nat) (S : St), all - c < n → a < c → c ≤ all → heF S0 S → heL N S → (∀ x y, x < y → (x < a ∨ (x = a ∧ y < c)) → ¬ (fr x = true ∧ fr y = true ∧ G (2 ^ x ||| 2 ^ y) = true)) → Wp (g_X1_seek_126 k114 n (nI w) (nI all) (nI tk) (nI a) (nI c) S) (skQ fr G N S0) := by
  intro n
  induction n with
  | zero => intro c S h; omega
  | succ n ih =>
    intro c S h1 h2 h3 i1 i2 i3
    show Wp (f_X1_seek_126 k114 (g_X1_seek_126 k114 n) _ _ _ _ _ S) _
    unfold f_X1_seek_126
    simp (disch := omega) only [nI_leI, lt, nI_1]
    by_cases q : c = all
    · rw [if_pos (by omega)]
      refine hk S i1 i2 (fun x y hxy hx hh => ?_)
      have hy : y < all := by have := hh.2.1; rw [hfr y] at this; simp at this; exact this.1
      exact i3 x y hxy (by omega) hh
    · rw [if_neg (by omega), hasBit_eq S htk (by omega)]
      simp only [bI_some, b2_0]
      have skip : ∀ S, heF S0 S → heL N S → ¬ (fr a = true ∧ fr c = true ∧ G (2 ^ a ||| 2 ^ c) = true) → Wp (g_X1_seek_126 k114 n (nI w) (nI all) (nI tk) (nI a) (nI (c + 1)) S) (skQ fr G N S0) := by
        intro S j1 j2 hne
        refine ih (c + 1) S (by omega) (by omega) (by omega) j1 j2 (fun x y hxy hx => ?_)
        by_cases u : x = a ∧ y = c
        · obtain ⟨rfl, rfl⟩ := u; exact hne
        · exact i3 x y hxy (by omega)
      cases u1 : tk.testBit a
      · rw [if_pos rfl, hasBit_eq S htk (by omega)]
        simp only [bI_some, b2_0]
        cases u2 : tk.testBit c
        · rw [if_pos rfl, shl1_nI (by omega), shl1_nI (by omega), fa_or, Wp_bI]
          refine Wp_mono (hs _ S (Nat.or_lt_two_pow (wb_lt2 ha) (wb_lt2 (by omega))) i1 i2) (fun v hv => ?_)
          obtain ⟨v1, v2, v3⟩ := hv
          simp only [v1, b2_0]
          cases u3 : G (2 ^ a ||| 2 ^ c)
          · rw [if_pos rfl]; exact skip v.2 v2 v3 (fun hh => by rw [u3] at hh; cases hh.2.2)
          · rw [if_neg (by decide)]
            unfold m_X1_keep f_X1_keep_0
            simp (disch := omega) only [lt, tc_0, tc_1, bI_some, Wp_some]
            refine ⟨nI a, nI c, Or.inr (Or.inl ⟨rfl, hno, a, c, h2, by omega, by rw [hfr a]; simp [ha, u1], by rw [hfr c]; simp [u2]; omega, u3, i3, rfl, rfl⟩), fun x i q1 q2 q3 q4 => ?_, Or.inr ⟨show ¬ ((2 : Int32) = -1) by decide, ?_, ?_, ?_⟩⟩
            · simp (disch := omega) only [rd_ne]; exact v2 x i q1 q2 (by omega)
            · simp (disch := omega) only [rd_ne, rd_same]
            · simp (disch := omega) only [rd_ne, rd_same]
            · simp (disch := omega) only [rd_same]
        · rw [if_neg (by decide)]
          exact skip S i1 i2 (fun hh => by have := hh.2.1; rw [hfr c] at this; simp [u2] at this)
      · rw [if_neg (by decide)]
        exact skip S i1 i2 (fun hh => by have := hh.1; rw [hfr a] at this; simp [u1] at this)
theorem sk_2 (hs : savH G N w all S0) (hall : all ≤ 12) (hfr : ∀ a, fr a = (decide (a < all) && !tk.testBit a)) (htk : tk < 2 ^ 32) (hno : ∀ x, ¬ (fr x = true ∧ G (2 ^ x) = true)) :
    ∀ (n a : Nat) (S : St), all - a < n → a ≤ all → heF S0 S → heL N S → (∀ x y, x < y → x < a → ¬ (fr x = true ∧ fr y = true ∧ G (2 ^ x ||| 2 ^ y) = true)) → Wp (g_X1_seek_114 n (nI w) (nI all) (nI tk) (nI a) S) (skQ fr G N S0) := by
  intro n
  induction n with
  | zero => intro c S h; omega
  | succ n ih =>
    intro a S h1 h2 i1 i2 i3
    show Wp (f_X1_seek_114 (g_X1_seek_114 n) _ _ _ _ S) _
    unfold f_X1_seek_114
    simp (disch := omega) only [nI_leI, lt, nI_1]
    by_cases q : a = all
    · rw [if_pos (by omega), Wp_some]
      refine ⟨0, 0, Or.inr (Or.inr ⟨rfl, hno, fun x y hxy hh => ?_⟩), fun x i q1 q2 q3 q4 => i1 x i q1 q2 (by omega), Or.inl ⟨rfl, i1 29 1 (by omega) (by omega) (by omega), fun i => i1 30 i (by omega) (by omega) (by omega)⟩⟩
      have hx : x < all := by have := hh.1; rw [hfr x] at this; simp at this; exact this.1
      exact i3 x y hxy (by omega) hh
    · rw [if_neg (by omega)]
      exact sk_2in hs hall hfr htk hno (show a < all by omega) (fun S j1 j2 j3 => ih (a + 1) S (by omega) (by omega) j1 j2 j3) fuel (a + 1) S (by unfold fuel; omega) (by omega) (by omega) i1 i2 (fun x y hxy hx => i3 x y hxy (by omega))
theorem sk_1 (hs : savH G N w all S0) (hall : all ≤ 12) (hfr : ∀ a, fr a = (decide (a < all) && !tk.testBit a)) (htk : tk < 2 ^ 32) :
    ∀ (n a : Nat) (S : St), all - a < n → a ≤ all → heF S0 S → heL N S → (∀ x, x < a → ¬ (fr x = true ∧ G (2 ^ x) = true)) → Wp (g_X1_seek_69 n (nI w) (nI all) (nI tk) (nI a) S) (skQ fr G N S0) := by
  intro n
  induction n with
  | zero => intro c S h; omega
  | succ n ih =>
    intro a S h1 h2 i1 i2 i3
    show Wp (f_X1_seek_69 (g_X1_seek_69 n) _ _ _ _ S) _
    unfold f_X1_seek_69
    simp (disch := omega) only [nI_leI, lt, nI_1]
    by_cases q : a = all
    · rw [if_pos (by omega)]
      refine sk_2 hs hall hfr htk (fun x hh => ?_) fuel 0 S (by unfold fuel; omega) (by omega) i1 i2 (fun x y _ hx => by omega)
      have hx : x < all := by have := hh.1; rw [hfr x] at this; simp at this; exact this.1
      exact i3 x (by omega) hh
    · rw [if_neg (by omega), hasBit_eq S htk (by omega)]
      simp only [bI_some, b2_0]
      have skip : ∀ S, heF S0 S → heL N S → ¬ (fr a = true ∧ G (2 ^ a) = true) → Wp (g_X1_seek_69 n (nI w) (nI all) (nI tk) (nI (a + 1)) S) (skQ fr G N S0) := by
        intro S j1 j2 hne
        refine ih (a + 1) S (by omega) (by omega) j1 j2 (fun x hx => ?_)
        by_cases u : x = a
        · subst u; exact hne
        · exact i3 x (by omega)
      cases u1 : tk.testBit a
      · rw [if_pos rfl, shl1_nI (by omega), Wp_bI]
        refine Wp_mono (hs _ S (wb_lt2 (by omega)) i1 i2) (fun v hv => ?_)
        obtain ⟨v1, v2, v3⟩ := hv
        simp only [v1, b2_0]
        cases u3 : G (2 ^ a)
        · rw [if_pos rfl]; exact skip v.2 v2 v3 (fun hh => by rw [u3] at hh; cases hh.2)
        · rw [if_neg (by decide)]
          unfold m_X1_keep f_X1_keep_0
          simp (disch := omega) only [lt, tc_0, tc_1, bI_some, Wp_some]
          refine ⟨nI a, -1, Or.inl ⟨rfl, a, by omega, by rw [hfr a]; simp [u1]; omega, u3, i3, rfl⟩, fun x i q1 q2 q3 q4 => ?_, Or.inr ⟨show ¬ ((1 : Int32) = -1) by decide, ?_, ?_, ?_⟩⟩
          · simp (disch := omega) only [rd_ne]; exact v2 x i q1 q2 (by omega)
          · simp (disch := omega) only [rd_ne, rd_same]
          · simp (disch := omega) only [rd_ne, rd_same]
          · simp (disch := omega) only [rd_same]
      · rw [if_neg (by decide)]
        exact skip S i1 i2 (fun hh => by have := hh.1; rw [hfr a] at this; simp [u1] at this)
end Seek
