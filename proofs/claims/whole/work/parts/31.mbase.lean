/-! ===== the functions that the methods are, by what they say ===== -/
def Wp {β : Type} (o : Option β) (Q : β → Prop) : Prop := ∃ b, o = some b ∧ Q b
theorem Wp_some {β : Type} (b : β) (Q : β → Prop) : Wp (some b) Q ↔ Q b := ⟨fun ⟨c, h, q⟩ => by cases h; exact q, fun q => ⟨b, rfl, q⟩⟩
theorem Wp_mono {β : Type} {o : Option β} {Q R : β → Prop} (h : Wp o Q) (hr : ∀ b, Q b → R b) : Wp o R := by obtain ⟨b, e, q⟩ := h; exact ⟨b, e, hr b q⟩
theorem Wp_lt {α β : Type} (v : α) (k : α → Option β) (Q : β → Prop) : Wp (lt v k) Q ↔ Wp (k v) Q := Iff.rfl
theorem Wp_bI {β : Type} (o : Option (Int32 × St)) (k : Int32 → St → Option β) (Q : β → Prop) : Wp (bI o k) Q ↔ Wp o (fun p => Wp (k p.1 p.2) Q) := by
  cases o with
  | none => exact ⟨fun ⟨b, h, _⟩ => (by cases h), fun ⟨b, h, _⟩ => (by cases h)⟩
  | some p => rw [Wp_some]; exact Iff.rfl
theorem Wp_bL {β : Type} (o : Option (Int64 × St)) (k : Int64 → St → Option β) (Q : β → Prop) : Wp (bL o k) Q ↔ Wp o (fun p => Wp (k p.1 p.2) Q) := by
  cases o with
  | none => exact ⟨fun ⟨b, h, _⟩ => (by cases h), fun ⟨b, h, _⟩ => (by cases h)⟩
  | some p => rw [Wp_some]; exact Iff.rfl
theorem Wp_bV {β : Type} (o : Option St) (k : St → Option β) (Q : β → Prop) : Wp (bV o k) Q ↔ Wp o (fun p => Wp (k p) Q) := by
  cases o with
  | none => exact ⟨fun ⟨b, h, _⟩ => (by cases h), fun ⟨b, h, _⟩ => (by cases h)⟩
  | some p => rw [Wp_some]; exact Iff.rfl
theorem bI_some {β : Type} (r : Int32) (S : St) (k : Int32 → St → Option β) : bI (some (r, S)) k = k r S := rfl
theorem bL_some {β : Type} (r : Int64) (S : St) (k : Int64 → St → Option β) : bL (some (r, S)) k = k r S := rfl
theorem bV_some {β : Type} (S : St) (k : St → Option β) : bV (some S) k = k S := rfl
theorem l_0 : (0 : Int32) = nI 0 := rfl
theorem l_1 : (1 : Int32) = nI 1 := rfl
theorem l_2 : (2 : Int32) = nI 2 := rfl
theorem l_3 : (3 : Int32) = nI 3 := rfl
theorem l_4 : (4 : Int32) = nI 4 := rfl
theorem l_5 : (5 : Int32) = nI 5 := rfl
theorem l_6 : (6 : Int32) = nI 6 := rfl
theorem l_7 : (7 : Int32) = nI 7 := rfl
theorem l_8 : (8 : Int32) = nI 8 := rfl
theorem l_9 : (9 : Int32) = nI 9 := rfl
theorem l_10 : (10 : Int32) = nI 10 := rfl
theorem l_11 : (11 : Int32) = nI 11 := rfl
theorem l_12 : (12 : Int32) = nI 12 := rfl
theorem l_13 : (13 : Int32) = nI 13 := rfl
theorem l_16 : (16 : Int32) = nI 16 := rfl
theorem l_20 : (20 : Int32) = nI 20 := rfl
theorem l_24 : (24 : Int32) = nI 24 := rfl
theorem l_31 : (31 : Int32) = nI 31 := rfl
theorem l_32 : (32 : Int32) = nI 32 := rfl
theorem l_48 : (48 : Int32) = nI 48 := rfl
theorem l_57 : (57 : Int32) = nI 57 := rfl
theorem l_58 : (58 : Int32) = nI 58 := rfl
theorem l_59 : (59 : Int32) = nI 59 := rfl
theorem l_63 : (63 : Int32) = nI 63 := rfl
theorem l_64 : (64 : Int32) = nI 64 := rfl
theorem l_96 : (96 : Int32) = nI 96 := rfl
theorem l_97 : (97 : Int32) = nI 97 := rfl
theorem l_122 : (122 : Int32) = nI 122 := rfl
theorem l_124 : (124 : Int32) = nI 124 := rfl
theorem l_144 : (144 : Int32) = nI 144 := rfl
theorem l_255 : (255 : Int32) = nI 255 := rfl
theorem l_300 : (300 : Int32) = nI 300 := rfl
theorem l_999 : (999 : Int32) = nI 999 := rfl
theorem l_1500 : (1500 : Int32) = nI 1500 := rfl
theorem l_7776 : (7776 : Int32) = nI 7776 := rfl
theorem l_m1 : (-1 : Int32) = nI 4294967295 := by decide +kernel
theorem m1_lt : (-1 : Int32) < 0 := by decide +kernel
theorem ck_nI {β : Type} {a n : Nat} {k : Option β} (h : a < n) (hn : n < 2 ^ 31) : ck (nI a) n k = k := if_neg (nI_in h hn)
theorem ckn_nI {β : Type} {a : Nat} {k : Option β} (h : 0 < a) (hn : a < 2 ^ 31) : ckn (nI a) k = k := if_neg (nI_ne0 h hn)
theorem irem_nI {a b : Nat} (ha : a < 2 ^ 31) (h0 : 0 < b) (hb : b < 2 ^ 31) : irem (nI a) (nI b) = nI (a % b) := pk_rem ha h0 hb
theorem nI_neg {a : Nat} (h : a < 2 ^ 31) : nI a < 0 ↔ False := ⟨fun q => nI_pos h q, False.elim⟩
theorem nI_ne_m1 {a : Nat} (h : a < 2 ^ 31) : nI a = -1 ↔ False := ⟨fun q => nI_pos h (by rw [q]; exact m1_lt), False.elim⟩
theorem rd_same (S : St) (k i : Nat) (v : Int32) : rd (up S k i v) k i = v := by unfold rd up upd; simp
theorem rd_ix {S : St} {k i j : Nat} {v : Int32} (h : j ≠ i) : rd (up S k i v) k j = rd S k j := by unfold rd up upd; simp [h]
theorem rd_cell {S : St} {k c i j : Nat} {v : Int32} (h : c ≠ k) : rd (up S k i v) c j = rd S c j := by unfold rd up; simp [h]
theorem rd_upL (S : St) (v : Int64) (c j : Nat) : rd (upL S v) c j = rd S c j := rfl
theorem rdL_upL (S : St) (v : Int64) : rdL (upL S v) = v := rfl
theorem rdL_up (S : St) (k i : Nat) (v : Int32) : rdL (up S k i v) = rdL S := rfl
/-! bits -/
theorem bt_nI {a i : Nat} (hi : i < 32) : bt (nI a) i = a.testBit i := by
  unfold bt nI
  show (BitVec.ofNat 32 a).getLsbD i = a.testBit i
  rw [BitVec.getLsbD_ofNat]; simp [hi]
theorem shl1_nI {i : Nat} (hi : i < 32) : shl 1 (nI i) = nI (2 ^ i) := by
  apply Int32.toBitVec_inj.mp
  have := nf_sh i hi
  unfold shl
  rw [this]
  apply BitVec.eq_of_toNat_eq
  rw [BitVec.toNat_twoPow]
  rfl
theorem ush_nI {a i : Nat} (ha : a < 2 ^ 32) (hi : i < 32) : ush (nI a) (nI i) = nI (a / 2 ^ i) := pk_ushrN ha (nI i) i (s_u i hi)
theorem and1_nI (a : Nat) : nI a &&& 1 = nI (a % 2) := by rw [l_1, fa_and, Nat.and_one_is_mod]
theorem tb_mod {a i : Nat} : a / 2 ^ i % 2 = (a.testBit i).toNat := by
  rw [Nat.testBit_eq_decide_div_mod_eq]
  rcases Nat.mod_two_eq_zero_or_one (a / 2 ^ i) with h | h <;> rw [h] <;> rfl
def b2 (b : Bool) : Int32 := if b then 1 else 0
theorem b2_0 (b : Bool) : (b2 b = 0) ↔ b = false := by cases b <;> decide
theorem b2_01 (b : Bool) : b2 b = 0 ∨ b2 b = 1 := by cases b <;> decide
theorem b2_t : b2 true = 1 := rfl
theorem b2_f : b2 false = 0 := rfl
theorem zb_0 : zb 0 = 0 := by decide +kernel
theorem zb_1 : zb 1 = 1 := by decide +kernel
def sb (a i : Nat) : Nat := a ||| 2 ^ i
def cb (a i : Nat) : Nat := a &&& (a ^^^ 2 ^ i)
theorem sb_tb (a i k : Nat) : (sb a i).testBit k = (a.testBit k || decide (k = i)) := fb_bit_set a i k
theorem cb_tb (a i k : Nat) : (cb a i).testBit k = (a.testBit k && !decide (k = i)) := by
  unfold cb
  rw [Nat.testBit_and, fb_bit_flip]
  cases a.testBit k <;> simp
theorem sb_lt {a i n : Nat} (ha : a < 2 ^ n) (hi : i < n) : sb a i < 2 ^ n := Nat.or_lt_two_pow ha (wb_lt2 hi)
theorem cb_le (a i : Nat) : cb a i ≤ a := Nat.and_le_left
theorem nI_dif {a b : Nat} : nI a &&& (nI b ^^^ (-1)) = nI (a &&& (a ^^^ b)) := by
  apply b_ext
  intro i hi
  rw [b_and, b_xor, b_m1 i hi, bt_nI hi, bt_nI hi, bt_nI hi, Nat.testBit_and, Nat.testBit_xor]
  cases a.testBit i <;> cases b.testBit i <;> rfl
theorem hasBit_eq {a i : Nat} (S : St) (ha : a < 2 ^ 32) (hi : i < 32) : m_X9_hasBit (nI a) (nI i) S = some (b2 (a.testBit i), S) := by
  unfold m_X9_hasBit f_X9_hasBit_0
  rw [ush_nI ha hi, and1_nI, tb_mod]
  cases a.testBit i <;> rfl
theorem with1_eq {a i : Nat} (S : St) (hi : i < 32) : m_X9_withBit (nI a) (nI i) 1 S = some (nI (sb a i), S) := by
  unfold m_X9_withBit f_X9_withBit_0
  rw [if_neg (by decide), shl1_nI hi, fa_or]; rfl
theorem with0_eq {a i : Nat} (S : St) (hi : i < 32) : m_X9_withBit (nI a) (nI i) 0 S = some (nI (cb a i), S) := by
  unfold m_X9_withBit f_X9_withBit_0
  rw [if_pos rfl, shl1_nI hi, nI_dif]; rfl
def wb (a i : Nat) (b : Bool) : Nat := if b then sb a i else cb a i
theorem with_eq {a i : Nat} (b : Bool) (S : St) (hi : i < 32) : m_X9_withBit (nI a) (nI i) (b2 b) S = some (nI (wb a i b), S) := by
  cases b
  · exact with0_eq S hi
  · exact with1_eq S hi
theorem wb_tbit (a i k : Nat) (b : Bool) : (wb a i b).testBit k = if k = i then b else a.testBit k := by
  cases b
  · show (cb a i).testBit k = _
    rw [cb_tb]; by_cases h : k = i <;> simp [h]
  · show (sb a i).testBit k = _
    rw [sb_tb]; by_cases h : k = i <;> simp [h]
theorem wb_lt {a i n : Nat} (b : Bool) (ha : a < 2 ^ n) (hi : i < n) : wb a i b < 2 ^ n := by
  cases b
  · exact Nat.lt_of_le_of_lt (cb_le a i) ha
  · exact sb_lt ha hi
theorem pop_256 : ∀ a, a < 256 → (∀ S : Unit, True) ∧ (let y1 := nI a - ((ush (nI a) 1) &&& 1431655765); let y2 := (y1 &&& 858993459) + ((ush y1 2) &&& 858993459); let y3 := (y2 + (ush y2 4)) &&& 252645135; let y4 := y3 + (ush y3 8); let y5 := y4 + (ush y4 16); y5 &&& 63) = nI (fb_ct (fun k => a.testBit k) 8) := by
  intro a ha
  refine ⟨fun _ => trivial, ?_⟩
  revert a
  decide +kernel
theorem pop_eq {a : Nat} (S : St) (ha : a < 256) : m_J6_bitCount_0f7a4 (nI a) S = some (nI (fb_ct (fun k => a.testBit k) 8), S) := by
  have h := (pop_256 a ha).2
  unfold m_J6_bitCount_0f7a4 f_J6_bitCount_0f7a4_0
  show some (_, S) = _
  rw [← h]
theorem tb_hi {a n k : Nat} (ha : a < 2 ^ n) (hk : n ≤ k) : a.testBit k = false := Nat.testBit_lt_two_pow (Nat.lt_of_lt_of_le ha (Nat.pow_le_pow_right (by decide) hk))
/-- two numbers of n bits are one if their bits are -/
theorem nat_ext {a b n : Nat} (ha : a < 2 ^ n) (hb : b < 2 ^ n) (h : ∀ k, k < n → a.testBit k = b.testBit k) : a = b := by
  apply Nat.eq_of_testBit_eq
  intro k
  by_cases hk : k < n
  · exact h k hk
  · rw [tb_hi ha (by omega), tb_hi hb (by omega)]
