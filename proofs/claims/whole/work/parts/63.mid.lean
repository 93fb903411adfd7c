/-! ===== a line behind its letter, both ===== -/
def midX (r : Nat) (y1 : Int32) (S : St) : Option (Int32 × St) :=
  bI (m_X3_takes 16 S) fun r8 S7 =>
    if r8 = 0 then some (0, S7)
    else bI (m_X3_readAct r (2 * y1) S7) fun r11 S10 =>
      if r11 = 0 then some (0, S10) else tailX r y1 S10
def midM (y3 : Int32) (S : St) : Option (Int32 × St) :=
  bI (m_X10_sign 58 S) fun r7 S6 =>
    if r7 = 0 then some (0, S6)
    else bI (m_X10_actAt y3 S6) fun r10 S9 =>
      if r10 = 0 then some (0, S9) else tailM y3 S9
def mdFX (r V M : Nat) (S S' : St) : Prop := ∀ c i, c ≠ 3 → (c ≠ 4 ∨ i < M) → (c ≠ 5 ∨ i < M) → (c ≠ r ∨ i ≠ 6) → (c < r + 1 ∨ r + 3 < c ∨ (i ≠ 2 * V ∧ i ≠ 2 * V + 1)) → rd S' c i = rd S c i
def mdFM (V M : Nat) (T T' : St) : Prop := rdL T' = rdL T ∧ ∀ c i, (c ≠ 0 ∨ (i ≠ 3 ∧ i ≠ 4 ∧ i ≠ 24 ∧ i ≠ 25 ∧ i ≠ 26 ∧ i ≠ 27 ∧ i ≠ 28)) → (c ≠ 14 ∨ i < M) → (c ≠ 15 ∨ i < M) → (c ≠ 2 ∨ (i < 24 + 6 * V ∨ 24 + 6 * V + 5 < i)) → rd T' c i = rd T c i
def mdO (r V M fk : Nat) (S' T' : St) (two : Bool) (x y z pl x2 y2 z2 pl2 : Nat) : Prop := (x < 10 ∧ y < 3 ∧ z < 4) ∧ (two = true → x2 < 10 ∧ y2 < 3 ∧ z2 < 4) ∧ rd S' r 6 = nI (if two then sb fk V else fk) ∧
  (rd S' (r + 1) (2 * V) = nI x ∧ rd S' (r + 2) (2 * V) = nI y ∧ rd S' (r + 3) (2 * V) = nI z) ∧
  (two = true → rd S' (r + 1) (2 * V + 1) = nI x2 ∧ rd S' (r + 2) (2 * V + 1) = nI y2 ∧ rd S' (r + 3) (2 * V + 1) = nI z2 ∧ rd S' 4 (M + 1) = nI z2 ∧ rd S' 5 (M + 1) = nI pl2) ∧
  (rd S' 3 10 = nI (M + (if two then 2 else 1)) ∧ rd S' 4 M = nI z ∧ rd S' 5 M = nI pl) ∧
  (rd T' 2 (24 + 6 * V) = nI x ∧ rd T' 2 (24 + 6 * V + 1) = nI y ∧ rd T' 2 (24 + 6 * V + 2) = nI z) ∧
  (two = true → rd T' 2 (24 + 6 * V + 3) = nI x2 ∧ rd T' 2 (24 + 6 * V + 3 + 1) = nI y2 ∧ rd T' 2 (24 + 6 * V + 3 + 2) = nI z2 ∧ rd T' 14 (M + 1) = nI z2 ∧ rd T' 15 (M + 1) = nI pl2) ∧ (two = false → rd T' 2 (24 + 6 * V + 3) = -1) ∧
  (rd T' 0 28 = nI (M + (if two then 2 else 1)) ∧ rd T' 14 M = nI z ∧ rd T' 15 M = nI pl)
def mdQ (w : Nat → Nat) (n r V M fk : Nat) (S T : St) (rb : Bool) (S' T' : St) : Prop := mdFX r V M S S' ∧ mdFM V M T T' ∧
  ((rb = false ∧ badF S' T') ∨
   (rb = true ∧ (∃ p', syn w n p' S' T') ∧ (rd S' 3 0 = rd S 3 0 ∧ rd S' 3 1 = rd S 3 1 ∧ rd T' 0 3 = rd T 0 3 ∧ rd T' 0 4 = rd T 0 4) ∧ ∃ two x y z pl x2 y2 z2 pl2, mdO r V M fk S' T' two x y z pl x2 y2 z2 pl2))
set_option maxHeartbeats 3000000 in
theorem mid_both {w : Nat → Nat} {n p r V M fk : Nat} {S T : St} (h : syn w n p S T) (hr : r = 16 ∨ r = 20) (hV : V < 4) (hM : M + 1 < 8) (hf : rd S r 6 = nI fk) (hmS : rd S 3 10 = nI M) (hmT : rd T 0 28 = nI M) (hm1 : rd T 2 (24 + 6 * V + 3) = -1) : ∃ (rb : Bool) (S' T' : St), midX r (nI V) S = some (b2 rb, S') ∧ midM (nI (24 + 6 * V)) T = some (b2 rb, T') ∧ mdQ w n r V M fk S T rb S' T' := by
  have hr' : 16 ≤ r ∧ r ≤ 20 := by omega
  obtain ⟨rb, S1, T1, c1, c2, c3, c4, c5, c6⟩ := sign_both (kd := 16) (c := 58) (K0 := 4) h (Or.inl ⟨rfl, rfl, rfl⟩)
  have c1 : m_X3_takes 16 S = some (b2 rb, S1) := c1
  have c2 : m_X10_sign 58 T = some (b2 rb, T1) := c2
  unfold midX midM
  rw [c1, c2]
  simp only [bI_some]
  rcases c6 with ⟨rfl, q, d1⟩ | ⟨rfl, ⟨p1, d1⟩, d2, d3, d4, d5⟩
  · rw [if_pos b2_f, if_pos b2_f]
    refine ⟨false, S1, T1, rfl, rfl, fun c i u1 u2 u3 u4 u5 => c3 c i (Or.inl u1), ⟨c4, fun c i u1 u2 u3 u4 => c5 c i (by omega)⟩, Or.inl ⟨rfl, badW_F (by decide) d1⟩⟩
  · rw [if_neg (by decide), if_neg (by decide)]
    have e : (2 * nI V : Int32) = nI (2 * V) := by rw [show (2 : Int32) = nI 2 from rfl, pk_mul]
    rw [e]
    obtain ⟨rb, S2, T2, a1, a2, a3, ⟨a4, a5⟩, a6⟩ := act_both (a := 2 * V) (k := 24 + 6 * V) (M := M) d1 hr (by omega) (by omega) (by omega) (by omega) (by rw [c3 3 10 (by decide)]; exact hmS) (by rw [c5 0 28 (by decide)]; exact hmT)
    rw [a1, a2]
    simp only [bI_some]
    rcases a6 with ⟨rfl, kd, q, b1, b2', b3⟩ | ⟨rfl, p2, vx, vy, vz, pl, b1, b2', b3, s2, b4, b5, b6, b7, b8, b9, b10, b11, b12, b13, b14, b15, b16, b17, b18, b19⟩
    · rw [if_pos b2_f, if_pos b2_f]
      refine ⟨false, S2, T2, rfl, rfl, fun c i u1 u2 u3 u4 u5 => ?_, ⟨by rw [a4, c4], fun c i u1 u2 u3 u4 => ?_⟩, Or.inl ⟨rfl, badW_F ⟨b1, b2'⟩ b3⟩⟩
      · rw [a3 c i (Or.inl u1) (by omega) (by omega) (by omega), c3 c i (Or.inl u1)]
      · rw [a5 c i u1 (by omega) (by omega) (by omega), c5 c i (by omega)]
    · rw [if_neg (by decide), if_neg (by decide)]
      obtain ⟨rb, S3, T3, e1, e2, f1, ⟨f2, f3⟩, e3⟩ := tail_both (V := V) (M := M + 1) (fk := fk) s2 hr hV hM (by rw [a3 r 6 (by omega) (by omega) (by omega) (by omega), c3 r 6 (by omega)]; exact hf) b10 b11
      have frX : mdFX r V M S S3 := fun c i u1 u2 u3 u4 u5 => by
        rw [f1 c i u1 (by omega) (by omega) u4 (by omega), a3 c i (Or.inl u1) (by omega) (by omega) (by omega), c3 c i (Or.inl u1)]
      have frM : mdFM V M T T3 := ⟨by rw [f2, a4, c4], fun c i u1 u2 u3 u4 => by
        rw [f3 c i u1 (by omega) (by omega) (by omega), a5 c i u1 (by omega) (by omega) (by omega), c5 c i (by omega)]⟩
      refine ⟨rb, S3, T3, e1, e2, frX, frM, ?_⟩
      rcases e3 with ⟨g1, g2⟩ | ⟨g1, g2, g3, g4, g5, g6, g7⟩
      · exact Or.inl ⟨g1, g2⟩
      · refine Or.inr ⟨g1, g2, ⟨by rw [g3, b16, d2], by rw [g4, b17, d3], by rw [g5, b18, d4], by rw [g6, b19, d5]⟩, ?_⟩
        have k1 : rd S3 (r + 1) (2 * V) = nI vx := by rw [f1 (r + 1) (2 * V) (by omega) (by omega) (by omega) (by omega) (by omega), b4]
        have k2 : rd S3 (r + 2) (2 * V) = nI vy := by rw [f1 (r + 2) (2 * V) (by omega) (by omega) (by omega) (by omega) (by omega), b5]
        have k3 : rd S3 (r + 3) (2 * V) = nI vz := by rw [f1 (r + 3) (2 * V) (by omega) (by omega) (by omega) (by omega) (by omega), b6]
        have k4 : rd S3 4 M = nI vz := by rw [f1 4 M (by omega) (by omega) (by omega) (by omega) (by omega), b12]
        have k5 : rd S3 5 M = nI pl := by rw [f1 5 M (by omega) (by omega) (by omega) (by omega) (by omega), b14]
        have k6 : rd T3 2 (24 + 6 * V) = nI vx := by rw [f3 2 (24 + 6 * V) (by omega) (by omega) (by omega) (by omega), b7]
        have k7 : rd T3 2 (24 + 6 * V + 1) = nI vy := by rw [f3 2 (24 + 6 * V + 1) (by omega) (by omega) (by omega) (by omega), b8]
        have k8 : rd T3 2 (24 + 6 * V + 2) = nI vz := by rw [f3 2 (24 + 6 * V + 2) (by omega) (by omega) (by omega) (by omega), b9]
        have k9 : rd T3 14 M = nI vz := by rw [f3 14 M (by omega) (by omega) (by omega) (by omega), b13]
        have k10 : rd T3 15 M = nI pl := by rw [f3 15 M (by omega) (by omega) (by omega) (by omega), b15]
        rcases g7 with ⟨h1, h2, h3, h4⟩ | ⟨h1, h2, h3, x2, y2, z2, pl2, i1, i2, i3, i4, i5, i6, i7, i8, i9, i10, i11, i12, i13⟩
        · refine ⟨false, vx, vy, vz, pl, 0, 0, 0, 0, ⟨b1, b2', b3⟩, (fun u => by cases u), h1, ⟨k1, k2, k3⟩, (fun u => by cases u), ⟨h2, k4, k5⟩, ⟨k6, k7, k8⟩, (fun u => by cases u), fun _ => ?_, ⟨h3, k9, k10⟩⟩
          rw [h4, a5 2 (24 + 6 * V + 3) (by omega) (by omega) (by omega) (by omega), c5 2 _ (Or.inl (by decide))]; exact hm1
        · exact ⟨true, vx, vy, vz, pl, x2, y2, z2, pl2, ⟨b1, b2', b3⟩, fun _ => ⟨i1, i2, i3⟩, h1, ⟨k1, k2, k3⟩, fun _ => ⟨i4, i5, i6, i10, i12⟩, ⟨h2, k4, k5⟩, ⟨k6, k7, k8⟩, fun _ => ⟨i7, i8, i9, i11, i13⟩, (fun u => by cases u), ⟨h3, k9, k10⟩⟩
